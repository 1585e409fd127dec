/-! WHAT THE LOOKS ANSWER, where Inv holds -/
section LOOKS
variable {n : Int} {σ τ : Mem} {k y r : Int} {t : Nat}
theorem AM.congr {C C' : Int → Prop} {r : Int → Int} {a : Int} (h : AM C r a) (hC : ∀ y, 0 ≤ y → y < 16 → (C y ↔ C' y)) : AM C' r a := by
  rcases h with ⟨h1, h2⟩ | ⟨h1, h2, h3⟩
  · exact Or.inl ⟨h1, fun y a b q => h2 y a b ((hC y a b).mpr q)⟩
  · exact Or.inr ⟨h1, (hC a h1.1 h1.2).mp h2, fun y a b q ne => h3 y a b ((hC y a b).mpr q) ne⟩
theorem cbg_2 (h : cbg σ k y) : σ 4 (k * 16 + y) = 0 ∨ σ 4 (k * 16 + y) = 2 := by
  rcases h with q | q
  · exact Or.inl q
  · exact Or.inr q.1
theorem rk_inj (h : Inv n σ) (hk : 0 ≤ k ∧ k < 4) : ∀ y z, (0 ≤ y ∧ y < 16) → (0 ≤ z ∧ z < 16) → cbg σ k y → cbg σ k z → y ≠ z → rk σ k y r ≠ rk σ k z r := by
  intro y z hy hz h1 h2 ne
  have hr := hm_rg (σ := σ) (k := k) (w := 2)
  have pq : ∀ y, 0 ≤ y ∧ y < 16 → cbg σ k y → σ 4 (k * 16 + y) = 0 ∨ (σ 4 (k * 16 + y) = 2 ∧ 0 ≤ σ 6 (k * 16 + y) ∧ σ 6 (k * 16 + y) < 16 ∧ wr (16 + σ 6 (k * 16 + y)) = 16 + σ 6 (k * 16 + y)) := fun y hy q => by
    rcases cbg_2 q with q | q
    · exact Or.inl q
    · have p := ((h.ki hk hy).2 q).2
      exact Or.inr ⟨q, p.1, by omega, wr_eq ⟨by omega, by omega⟩⟩
  have p1 := pq y hy h1
  have p2 := pq z hz h2
  have pn : σ 4 (k * 16 + y) = 2 → σ 4 (k * 16 + z) = 2 → σ 6 (k * 16 + y) ≠ σ 6 (k * 16 + z) := fun a b q => ne (h.pi hk y z hy hz a b q)
  have r1 := (h.rg hk hy).2.1
  have r2 := (h.rg hk hz).2.1
  unfold rk
  (repeat' split) <;> omega
theorem drwA (h : Inv n σ) (hk : 0 ≤ k ∧ k < 4) : AM (fun y => t.testBit y.toNat = false ∧ cbg σ k y) (fun y => rk σ k y r) (drw σ k r t) := drw_AM (rk_inj h hk)
theorem drw0 (h : Inv n σ) (hk : 0 ≤ k ∧ k < 4) : AM (fun y => cbg σ k y) (fun y => rk σ k y r) (drw σ k r 0) := (drwA h hk).congr (fun y _ _ => ⟨fun q => q.2, fun q => ⟨Nat.zero_testBit _, q⟩⟩)
theorem due_eq (h : Inv n σ) (hk : 0 ≤ k ∧ k < 4) {fr lo le top : Int} (hfr : AM (fun y => σ 4 (k * 16 + y) = 0) (fun y => y) fr) (hlo : AM (fun y => cbg σ k y) (fun y => y) lo) (hle : AM (fun y => cbg σ k y) (fun y => σ 5 (k * 16 + y) * 16 + y) le) (htop : AM (fun y => ripe σ k y) (fun y => σ 6 (k * 16 + y)) top) : (if σ 14 0 = 0 then (if 0 ≤ fr then fr else top) else if σ 14 0 = 1 then (if 0 ≤ top then top else fr) else if σ 14 0 = 2 then lo else le) = drw σ k (σ 14 0) 0 := by
  have hs := h.1.2.1
  have hd := drw0 (r := σ 14 0) h hk
  have hr := hm_rg (σ := σ) (k := k) (w := 2)
  have id2 : ∀ (C : Int → Prop) (r : Int → Int) (a b : Int), AM C r a → AM C r b → a = b := fun C r a b h1 h2 => h1.eq h2 (fun _ _ _ => Iff.rfl) (fun _ _ _ _ _ _ q => q)
  have pl : ∀ y, 0 ≤ y ∧ y < 16 → ripe σ k y → σ 4 (k * 16 + y) = 2 ∧ 0 ≤ σ 6 (k * 16 + y) ∧ wr (16 + σ 6 (k * 16 + y)) = 16 + σ 6 (k * 16 + y) := fun y hy q => by
    have p := ((h.ki hk hy).2 q.1).2
    exact ⟨q.1, p.1, wr_eq ⟨by omega, by omega⟩⟩
  by_cases r0 : σ 14 0 = 0
  · rw [if_pos r0]
    refine id2 _ _ _ _ ?_ hd
    have rf : ∀ y, σ 4 (k * 16 + y) = 0 → rk σ k y (σ 14 0) = y := fun y q => by unfold rk; rw [if_pos r0, if_pos q]
    have rp : ∀ y, 0 ≤ y ∧ y < 16 → ripe σ k y → rk σ k y (σ 14 0) = 16 + σ 6 (k * 16 + y) := fun y hy q => by
      have p := pl y hy q
      unfold rk; rw [if_pos r0, if_neg (by omega), p.2.2]
    rcases hfr with ⟨f1, f2⟩ | ⟨f1, f2, f3⟩
    · rw [if_neg (by omega)]
      rcases htop with ⟨t1, t2⟩ | ⟨t1, t2, t3⟩
      · refine Or.inl ⟨t1, fun y a b q => ?_⟩
        rcases q with q | q
        · exact f2 y a b q
        · exact t2 y a b q
      · refine Or.inr ⟨t1, Or.inr t2, fun y a b q ne => ?_⟩
        rcases q with q | q
        · exact absurd q (f2 y a b)
        · show rk σ k top (σ 14 0) < rk σ k y (σ 14 0)
          have t3y : σ 6 (k * 16 + top) < σ 6 (k * 16 + y) := t3 y a b q ne
          rw [rp top t1 t2, rp y ⟨a, b⟩ q]
          omega
    · rw [if_pos f1.1]
      refine Or.inr ⟨f1, Or.inl f2, fun y a b q ne => ?_⟩
      show rk σ k fr (σ 14 0) < rk σ k y (σ 14 0)
      rw [rf fr f2]
      rcases q with q | q
      · rw [rf y q]; exact f3 y a b q ne
      · have p := pl y ⟨a, b⟩ q
        rw [rp y ⟨a, b⟩ q]; omega
  · rw [if_neg r0]
    by_cases r1 : σ 14 0 = 1
    · rw [if_pos r1]
      refine id2 _ _ _ _ ?_ hd
      have rf : ∀ y, σ 4 (k * 16 + y) = 0 → rk σ k y (σ 14 0) = 16 + y := fun y q => by unfold rk; rw [if_neg r0, if_pos r1, if_pos q]
      have rp : ∀ y, 0 ≤ y ∧ y < 16 → ripe σ k y → rk σ k y (σ 14 0) = σ 6 (k * 16 + y) ∧ σ 6 (k * 16 + y) < 16 := fun y hy q => by
        have p := ((h.ki hk hy).2 q.1).2
        have q1 := q.1
        refine ⟨?_, by omega⟩
        unfold rk; rw [if_neg r0, if_pos r1, if_neg (by omega)]
      rcases htop with ⟨t1, t2⟩ | ⟨t1, t2, t3⟩
      · rw [if_neg (by omega)]
        rcases hfr with ⟨f1, f2⟩ | ⟨f1, f2, f3⟩
        · refine Or.inl ⟨f1, fun y a b q => ?_⟩
          rcases q with q | q
          · exact f2 y a b q
          · exact t2 y a b q
        · refine Or.inr ⟨f1, Or.inl f2, fun y a b q ne => ?_⟩
          show rk σ k fr (σ 14 0) < rk σ k y (σ 14 0)
          rcases q with q | q
          · have f3y : fr < y := f3 y a b q ne
            rw [rf fr f2, rf y q]; omega
          · exact absurd q (t2 y a b)
      · rw [if_pos t1.1]
        refine Or.inr ⟨t1, Or.inr t2, fun y a b q ne => ?_⟩
        show rk σ k top (σ 14 0) < rk σ k y (σ 14 0)
        have g := rp top t1 t2
        rw [g.1]
        rcases q with q | q
        · rw [rf y q]; omega
        · rw [(rp y ⟨a, b⟩ q).1]; exact t3 y a b q ne
    · rw [if_neg r1]
      by_cases r2 : σ 14 0 = 2
      · rw [if_pos r2]
        refine id2 _ _ _ _ ?_ hd
        have rf : ∀ y, rk σ k y (σ 14 0) = y := fun y => by unfold rk; rw [if_neg r0, if_neg r1, if_pos r2]
        simp only [rf]
        exact hlo
      · rw [if_neg r2]
        refine id2 _ _ _ _ ?_ hd
        have rf : ∀ y, rk σ k y (σ 14 0) = σ 5 (k * 16 + y) * 16 + y := fun y => by unfold rk; rw [if_neg r0, if_neg r1, if_neg r2]
        simp only [rf]
        exact hle
/-! the least of the keys above x -/
def MN (C : Int → Prop) (r : Int → Int) (x a : Int) : Prop := (a = -1 ∧ ∀ y, x < y → y < 16 → ¬ C y) ∨ ((x < a ∧ a < 16) ∧ C a ∧ ∀ y, x < y → y < 16 → C y → y ≠ a → r a < r y)
section MNS
variable {C : Int → Prop} {g : Int → Int} {x a v : Int}
theorem MN.start : MN C g 15 (-1) := Or.inl ⟨rfl, fun y a b => by omega⟩
theorem MN.rg (h : MN C g x a) : a = -1 ∨ (x < a ∧ a < 16) := by
  rcases h with ⟨h1, -⟩ | ⟨h1, -⟩
  · exact Or.inl h1
  · exact Or.inr h1
theorem MN.all (h : MN C g (-1) a) : AM C g a := by
  rcases h with ⟨h1, h2⟩ | ⟨h1, h2, h3⟩
  · exact Or.inl ⟨h1, fun y p q => h2 y (by omega) q⟩
  · exact Or.inr ⟨⟨by omega, h1.2⟩, h2, fun y p q => h3 y (by omega) q⟩
theorem MN.skip (h : MN C g x a) (hC : ¬ C x) : MN C g (x - 1) a := by
  rcases h with ⟨h1, h2⟩ | ⟨h1, h2, h3⟩
  · refine Or.inl ⟨h1, fun y p q w => ?_⟩
    by_cases e : y = x
    · rw [e] at w; exact hC w
    · exact h2 y (by omega) q w
  · refine Or.inr ⟨⟨by omega, h1.2⟩, h2, fun y p q w ne => ?_⟩
    by_cases e : y = x
    · rw [e] at w; exact absurd w hC
    · exact h3 y (by omega) q w ne
theorem MN.take (h : MN C g x a) (h0 : 0 ≤ x) (hx : x ≤ 15) (hC : C x) (hr : a = -1 ∨ g x < g a) : MN C g (x - 1) x := by
  refine Or.inr ⟨⟨by omega, by omega⟩, hC, fun y p q w ne => ?_⟩
  rcases h with ⟨h1, h2⟩ | ⟨h1, h2, h3⟩
  · exact absurd w (h2 y (by omega) q)
  · have hra : g x < g a := by rcases hr with e | e <;> omega
    by_cases e : y = a
    · rw [e]; exact hra
    · have := h3 y (by omega) q w e
      omega
theorem MN.keep (h : MN C g x a) (ha : a ≠ -1) (hr : g a < g x) : MN C g (x - 1) a := by
  rcases h with ⟨h1, h2⟩ | ⟨h1, h2, h3⟩
  · exact absurd h1 ha
  · refine Or.inr ⟨⟨by omega, h1.2⟩, h2, fun y p q w ne => ?_⟩
    by_cases e : y = x
    · rw [e]; exact hr
    · exact h3 y (by omega) q w ne
/-- the least, the greatest value -/
def VM (C : Int → Prop) (g : Int → Int) (x v : Int) : Prop := (v = -1 ∧ ∀ y, x < y → y < 16 → ¬ C y) ∨ ((∃ y, (x < y ∧ y < 16) ∧ C y ∧ v = g y) ∧ ∀ y, x < y → y < 16 → C y → v ≤ g y)
def VX (C : Int → Prop) (g : Int → Int) (x v : Int) : Prop := (v = -1 ∧ ∀ y, x < y → y < 16 → ¬ C y) ∨ ((∃ y, (x < y ∧ y < 16) ∧ C y ∧ v = g y) ∧ ∀ y, x < y → y < 16 → C y → g y ≤ v)
theorem VM.start : VM C g 15 (-1) := Or.inl ⟨rfl, fun y a b => by omega⟩
theorem VX.start : VX C g 15 (-1) := Or.inl ⟨rfl, fun y a b => by omega⟩
theorem VM.skip (h : VM C g x v) (hC : ¬ C x) : VM C g (x - 1) v := by
  rcases h with ⟨h1, h2⟩ | ⟨⟨y0, h1, h2, h3⟩, h4⟩
  · refine Or.inl ⟨h1, fun y p q w => ?_⟩
    by_cases e : y = x
    · rw [e] at w; exact hC w
    · exact h2 y (by omega) q w
  · refine Or.inr ⟨⟨y0, ⟨by omega, h1.2⟩, h2, h3⟩, fun y p q w => ?_⟩
    by_cases e : y = x
    · rw [e] at w; exact absurd w hC
    · exact h4 y (by omega) q w
theorem VX.skip (h : VX C g x v) (hC : ¬ C x) : VX C g (x - 1) v := by
  rcases h with ⟨h1, h2⟩ | ⟨⟨y0, h1, h2, h3⟩, h4⟩
  · refine Or.inl ⟨h1, fun y p q w => ?_⟩
    by_cases e : y = x
    · rw [e] at w; exact hC w
    · exact h2 y (by omega) q w
  · refine Or.inr ⟨⟨y0, ⟨by omega, h1.2⟩, h2, h3⟩, fun y p q w => ?_⟩
    by_cases e : y = x
    · rw [e] at w; exact absurd w hC
    · exact h4 y (by omega) q w
theorem VM.take (h : VM C g x v) (hg : ∀ y, 0 ≤ g y) (hx : x ≤ 15) (hC : C x) (hr : v = -1 ∨ g x ≤ v) : VM C g (x - 1) (g x) := by
  refine Or.inr ⟨⟨x, ⟨by omega, by omega⟩, hC, rfl⟩, fun y p q w => ?_⟩
  by_cases e : y = x
  · rw [e]; exact Int.le_refl _
  · rcases h with ⟨h1, h2⟩ | ⟨⟨y0, h1, h2, h3⟩, h4⟩
    · exact absurd w (h2 y (by omega) q)
    · have h5 := h4 y (by omega) q w
      rcases hr with r | r
      · have h6 := hg y0
        omega
      · omega
theorem VX.take (h : VX C g x v) (hx : x ≤ 15) (hC : C x) (hr : v ≤ g x) : VX C g (x - 1) (g x) := by
  refine Or.inr ⟨⟨x, ⟨by omega, by omega⟩, hC, rfl⟩, fun y p q w => ?_⟩
  by_cases e : y = x
  · rw [e]; exact Int.le_refl _
  · rcases h with ⟨h1, h2⟩ | ⟨⟨y0, h1, h2, h3⟩, h4⟩
    · exact absurd w (h2 y (by omega) q)
    · have h5 := h4 y (by omega) q w
      omega
theorem VM.keep (h : VM C g x v) (hv : v ≠ -1) (hr : v ≤ g x) : VM C g (x - 1) v := by
  rcases h with ⟨h1, h2⟩ | ⟨⟨y0, h1, h2, h3⟩, h4⟩
  · exact absurd h1 hv
  · refine Or.inr ⟨⟨y0, ⟨by omega, h1.2⟩, h2, h3⟩, fun y p q w => ?_⟩
    by_cases e : y = x
    · rw [e]; exact hr
    · exact h4 y (by omega) q w
theorem VX.keep (h : VX C g x v) (hv : v ≠ -1) (hr : g x ≤ v) : VX C g (x - 1) v := by
  rcases h with ⟨h1, h2⟩ | ⟨⟨y0, h1, h2, h3⟩, h4⟩
  · exact absurd h1 hv
  · refine Or.inr ⟨⟨y0, ⟨by omega, h1.2⟩, h2, h3⟩, fun y p q w => ?_⟩
    by_cases e : y = x
    · rw [e]; exact hr
    · exact h4 y (by omega) q w
theorem VM.eq {v' : Int} (h : VM C g x v) (h' : VM C g x v') : v = v' := by
  rcases h with ⟨h1, h2⟩ | ⟨⟨y0, h1, h2, h3⟩, h4⟩
  · rcases h' with ⟨g1, g2⟩ | ⟨⟨y1, g1, g2, g3⟩, g4⟩
    · omega
    · exact absurd g2 (h2 y1 g1.1 g1.2)
  · rcases h' with ⟨g1, g2⟩ | ⟨⟨y1, g1, g2, g3⟩, g4⟩
    · exact absurd h2 (g2 y0 h1.1 h1.2)
    · have a := h4 y1 g1.1 g1.2 g2
      have b := g4 y0 h1.1 h1.2 h2
      omega
theorem VX.eq {v' : Int} (h : VX C g x v) (h' : VX C g x v') : v = v' := by
  rcases h with ⟨h1, h2⟩ | ⟨⟨y0, h1, h2, h3⟩, h4⟩
  · rcases h' with ⟨g1, g2⟩ | ⟨⟨y1, g1, g2, g3⟩, g4⟩
    · omega
    · exact absurd g2 (h2 y1 g1.1 g1.2)
  · rcases h' with ⟨g1, g2⟩ | ⟨⟨y1, g1, g2, g3⟩, g4⟩
    · exact absurd h2 (g2 y0 h1.1 h1.2)
    · have a := h4 y1 g1.1 g1.2 g2
      have b := g4 y0 h1.1 h1.2 h2
      omega
end MNS
theorem dtk_VM : VM (fun y => σ 4 (k * 16 + y) = 2) (fun y => dtr σ k y) (-1) (it (dtkF σ k) (-1) 16) := by
  have key := it_inv (f := dtkF σ k) (a := -1) (n := 16) (i := 16) (fun i v => (v = -1 ∧ ∀ y, 0 ≤ y → y < i → ¬ σ 4 (k * 16 + y) = 2) ∨ ((∃ y, (0 ≤ y ∧ y < i) ∧ σ 4 (k * 16 + y) = 2 ∧ v = dtr σ k y) ∧ ∀ y, 0 ≤ y → y < i → σ 4 (k * 16 + y) = 2 → v ≤ dtr σ k y))
    (Or.inl ⟨rfl, fun y a b => by omega⟩) (fun j v h0 h1 h => ?_) (by decide) (by decide)
  · rcases key with ⟨h1, h2⟩ | ⟨⟨y0, h1, h2, h3⟩, h4⟩
    · exact Or.inl ⟨h1, fun y a b => h2 y (by omega) b⟩
    · exact Or.inr ⟨⟨y0, ⟨by omega, h1.2⟩, h2, h3⟩, fun y a b => h4 y (by omega) b⟩
  · unfold dtkF
    by_cases hq : σ 4 (k * 16 + j) = 2
    · rw [if_pos hq]
      rcases h with ⟨g1, g2⟩ | ⟨⟨y0, g1, g2, g3⟩, g4⟩
      · rw [if_pos (Or.inl g1)]
        refine Or.inr ⟨⟨j, ⟨h0, by omega⟩, hq, rfl⟩, fun y a b q => ?_⟩
        by_cases e : y = j
        · rw [e]; exact Int.le_refl _
        · exact absurd q (g2 y a (by omega))
      · by_cases c : v = -1 ∨ dtr σ k j < v
        · rw [if_pos c]
          refine Or.inr ⟨⟨j, ⟨h0, by omega⟩, hq, rfl⟩, fun y a b q => ?_⟩
          by_cases e : y = j
          · rw [e]; exact Int.le_refl _
          · have g5 := g4 y a (by omega) q
            have g6 := g4 y0 g1.1 g1.2 g2
            have hn : ∀ y, 0 ≤ dtr σ k y := fun y => by unfold dtr; split <;> omega
            have := hn y0
            omega
        · rw [if_neg c]
          refine Or.inr ⟨⟨y0, ⟨g1.1, by omega⟩, g2, g3⟩, fun y a b q => ?_⟩
          by_cases e : y = j
          · rw [e]; omega
          · exact g4 y a (by omega) q
    · rw [if_neg hq]
      rcases h with ⟨g1, g2⟩ | ⟨⟨y0, g1, g2, g3⟩, g4⟩
      · refine Or.inl ⟨g1, fun y a b q => ?_⟩
        by_cases e : y = j
        · rw [e] at q; exact hq q
        · exact g2 y a (by omega) q
      · refine Or.inr ⟨⟨y0, ⟨g1.1, by omega⟩, g2, g3⟩, fun y a b q => ?_⟩
        by_cases e : y = j
        · rw [e] at q; exact absurd q hq
        · exact g4 y a (by omega) q
theorem lgs_VX (h : IC σ) (hk : 0 ≤ k ∧ k < 4) : VX (fun y => σ 4 (k * 16 + y) = 2) (fun y => σ 2 0 - σ 7 (k * 16 + y)) (-1) (it (lgsF σ k) (-1) 16) := by
  have hn : ∀ y, 0 ≤ y → y < 16 → 0 ≤ σ 2 0 - σ 7 (k * 16 + y) := fun y a b => by have := (h.2.2 (k * 16 + y) (by omega) (by omega)).2.2.2; omega
  have key := it_inv (f := lgsF σ k) (a := -1) (n := 16) (i := 16) (fun i v => (v = -1 ∧ ∀ y, 0 ≤ y → y < i → ¬ σ 4 (k * 16 + y) = 2) ∨ ((∃ y, (0 ≤ y ∧ y < i) ∧ σ 4 (k * 16 + y) = 2 ∧ v = σ 2 0 - σ 7 (k * 16 + y)) ∧ ∀ y, 0 ≤ y → y < i → σ 4 (k * 16 + y) = 2 → σ 2 0 - σ 7 (k * 16 + y) ≤ v))
    (Or.inl ⟨rfl, fun y a b => by omega⟩) (fun j v h0 h1 h => ?_) (by decide) (by decide)
  · rcases key with ⟨h1, h2⟩ | ⟨⟨y0, h1, h2, h3⟩, h4⟩
    · exact Or.inl ⟨h1, fun y a b => h2 y (by omega) b⟩
    · exact Or.inr ⟨⟨y0, ⟨by omega, h1.2⟩, h2, h3⟩, fun y a b => h4 y (by omega) b⟩
  · unfold lgsF
    have hnj := hn j h0 h1
    by_cases hq : σ 4 (k * 16 + j) = 2
    · rw [if_pos hq]
      rcases h with ⟨g1, g2⟩ | ⟨⟨y0, g1, g2, g3⟩, g4⟩
      · rw [if_pos (by omega)]
        refine Or.inr ⟨⟨j, ⟨h0, by omega⟩, hq, rfl⟩, fun y a b q => ?_⟩
        by_cases e : y = j
        · rw [e]; exact Int.le_refl _
        · exact absurd q (g2 y a (by omega))
      · by_cases c : v < σ 2 0 - σ 7 (k * 16 + j)
        · rw [if_pos c]
          refine Or.inr ⟨⟨j, ⟨h0, by omega⟩, hq, rfl⟩, fun y a b q => ?_⟩
          by_cases e : y = j
          · rw [e]; exact Int.le_refl _
          · have g5 := g4 y a (by omega) q
            omega
        · rw [if_neg c]
          refine Or.inr ⟨⟨y0, ⟨g1.1, by omega⟩, g2, g3⟩, fun y a b q => ?_⟩
          by_cases e : y = j
          · rw [e]; omega
          · exact g4 y a (by omega) q
    · rw [if_neg hq]
      rcases h with ⟨g1, g2⟩ | ⟨⟨y0, g1, g2, g3⟩, g4⟩
      · refine Or.inl ⟨g1, fun y a b q => ?_⟩
        by_cases e : y = j
        · rw [e] at q; exact hq q
        · exact g2 y a (by omega) q
      · refine Or.inr ⟨⟨y0, ⟨g1.1, by omega⟩, g2, g3⟩, fun y a b q => ?_⟩
        by_cases e : y = j
        · rw [e] at q; exact absurd q hq
        · exact g4 y a (by omega) q
theorem dtk_eq (h : Inv n σ) (hk : 0 ≤ k ∧ k < 4) {so : Int} (hs : VM (fun y => σ 4 (k * 16 + y) = 2) (fun y => dtr σ k y) (-1) so) : dtk σ k = if 0 ≤ drw σ k r 0 then 0 else so := by
  have hd := drw0 (r := r) h hk
  have hn : ∀ y, 0 ≤ dtr σ k y := fun y => by unfold dtr; split <;> omega
  have e := dtk_VM.eq hs
  unfold dtk
  by_cases hf : 0 < hm σ k 0
  · rw [if_pos hf]
    obtain ⟨j, j0, j1, j2⟩ := cn_ex (by decide) hf
    rcases hd with ⟨d1, d2⟩ | ⟨d1, -⟩
    · exact absurd (Or.inl j2) (d2 j j0 j1)
    · rw [if_pos d1.1]
  · rw [if_neg hf, e]
    rcases hd with ⟨d1, d2⟩ | ⟨d1, d2, -⟩
    · rw [if_neg (by omega)]
    · rw [if_pos d1.1]
      rcases d2 with q | q
      · exact absurd (cn_pos (P := fun y => σ 4 (k * 16 + y) = 0) d1.1 d1.2 q) hf
      · have z : dtr σ k (drw σ k r 0) = 0 := by unfold dtr; rw [if_neg (by have := q.2; omega)]
        rcases hs with ⟨s1, s2⟩ | ⟨⟨y0, s1, s2, s3⟩, s4⟩
        · exact absurd q.1 (s2 _ (by omega) d1.2)
        · have a := s4 _ (by omega) d1.2 q.1
          have a2 : so ≤ dtr σ k (drw σ k r 0) := a
          have s3' : so = dtr σ k y0 := s3
          have := hn y0
          omega
theorem lgs_eq (h : Inv n σ) (hk : 0 ≤ k ∧ k < 4) {fr ol : Int} (hfr : AM (fun y => σ 4 (k * 16 + y) = 0) (fun y => y) fr) (ho : VX (fun y => σ 4 (k * 16 + y) = 2) (fun y => σ 2 0 - σ 7 (k * 16 + y)) (-1) ol) : lgs σ k = if 0 ≤ fr then 99 else if 99 < ol then 99 else ol := by
  have e := (lgs_VX h.ic hk).eq ho
  unfold lgs
  rw [e]
  rcases hfr with ⟨f1, f2⟩ | ⟨f1, f2, -⟩
  · have hz : hm σ k 0 = 0 := cn_0f (by decide) f2
    rw [if_neg (show ¬ 0 < hm σ k 0 by omega), if_neg (show ¬ 0 ≤ fr by omega)]
  · have hp : 0 < hm σ k 0 := cn_pos (P := fun y => σ 4 (k * 16 + y) = 0) f1.1 f1.2 f2
    rw [if_pos hp, if_pos f1.1]
theorem atr_eq : atr σ k = if 0 ≤ drw σ k (σ 14 0) 0 then drw σ k (σ 14 0) 0 else if hm σ k 2 = 0 then 101 else 102 := by
  have hd := drw_rg (σ := σ) (k := k) (r := σ 14 0) (t := 0)
  unfold atr
  (repeat' split) <;> omega
/-! rows that ask one after the other -/
theorem kor1 : kor σ k 1 = drw σ k (σ 14 0) 0 := by
  have hd := drw_rg (σ := σ) (k := k) (r := σ 14 0) (t := 0)
  have e : it (korF σ k) (0, -1) 1 = korF σ k 0 (0, -1) := rfl
  unfold kor
  rw [e]
  unfold korF
  rw [if_neg (show ¬ ((0, -1) : Nat × Int).2 = -2 by decide)]
  by_cases h : drw σ k (σ 14 0) ((0, -1) : Nat × Int).1 = -1
  · rw [if_pos h]
    have h' : drw σ k (σ 14 0) 0 = -1 := h
    rw [h']; rfl
  · rw [if_neg h]
    exact if_neg (by show ¬ drw σ k (σ 14 0) 0 = -2; omega)
theorem kor2 : kor σ k 2 = if drw σ k (σ 14 0) 0 = -1 then -1 else drw σ k (σ 14 0) (0 ||| 2 ^ (drw σ k (σ 14 0) 0).toNat) := by
  have hd := drw_rg (σ := σ) (k := k) (r := σ 14 0) (t := 0)
  have hd2 := drw_rg (σ := σ) (k := k) (r := σ 14 0) (t := 0 ||| 2 ^ (drw σ k (σ 14 0) 0).toNat)
  have e : it (korF σ k) (0, -1) 2 = korF σ k 1 (korF σ k 0 (0, -1)) := rfl
  have e0 : korF σ k 0 (0, -1) = if drw σ k (σ 14 0) 0 = -1 then (0, -2) else (0 ||| 2 ^ (drw σ k (σ 14 0) 0).toNat, drw σ k (σ 14 0) 0) := by
    unfold korF
    rw [if_neg (show ¬ ((0, -1) : Nat × Int).2 = -2 by decide)]
  unfold kor
  rw [e, e0]
  by_cases h : drw σ k (σ 14 0) 0 = -1
  · rw [if_pos h, if_pos h]; rfl
  · rw [if_neg h, if_neg h]
    generalize drw σ k (σ 14 0) 0 = a at *
    have e1 : korF σ k 1 (0 ||| 2 ^ a.toNat, a) = if drw σ k (σ 14 0) (0 ||| 2 ^ a.toNat) = -1 then (0 ||| 2 ^ a.toNat, -2) else ((0 ||| 2 ^ a.toNat) ||| 2 ^ (drw σ k (σ 14 0) (0 ||| 2 ^ a.toNat)).toNat, drw σ k (σ 14 0) (0 ||| 2 ^ a.toNat)) := by
      unfold korF
      exact if_neg (by show ¬ a = -2; omega)
    rw [e1]
    by_cases h2 : drw σ k (σ 14 0) (0 ||| 2 ^ a.toNat) = -1
    · rw [if_pos h2, h2]; rfl
    · rw [if_neg h2]
      exact if_neg (by show ¬ drw σ k (σ 14 0) (0 ||| 2 ^ a.toNat) = -2; omega)
def rem (σ : Mem) (k : Int) (t : Nat) : Int := cn (fun y => t.testBit y.toNat = false ∧ cbg σ k y) 16
theorem rem_or {a : Int} (ha : 0 ≤ a ∧ a < 16) (h1 : t.testBit a.toNat = false ∧ cbg σ k a) : rem σ k (t ||| 2 ^ a.toNat) = rem σ k t - 1 := by
  have e := cn_upd (P := fun y => t.testBit y.toNat = false ∧ cbg σ k y) (P' := fun y => (t ||| 2 ^ a.toNat).testBit y.toNat = false ∧ cbg σ k y) (n := 16) (y := a) ha.1 ha.2 (fun j p q ne => by
    show (t ||| 2 ^ a.toNat).testBit j.toNat = false ∧ cbg σ k j ↔ t.testBit j.toNat = false ∧ cbg σ k j
    rw [Nat.testBit_or, Nat.testBit_two_pow, decide_eq_false (by omega), Bool.or_false])
  rw [bz_t (P := t.testBit a.toNat = false ∧ cbg σ k a) h1, bz_f (P := (t ||| 2 ^ a.toNat).testBit a.toNat = false ∧ cbg σ k a) (fun q => by
    have q1 := q.1
    rw [Nat.testBit_or, Nat.testBit_two_pow, decide_eq_true rfl, Bool.or_true] at q1
    exact absurd q1 (by decide))] at e
  unfold rem
  rw [e]
  omega
theorem rem_0 : rem σ k 0 = cn (fun y => cbg σ k y) 16 := cn_congr (by decide) (fun j _ _ => ⟨fun q => q.2, fun q => ⟨Nat.zero_testBit _, q⟩⟩)
theorem kor_in (h : Inv n σ) (hk : 0 ≤ k ∧ k < 4) : ∀ d : Nat, (d : Int) ≤ cn (fun y => cbg σ k y) 16 → ∃ t a, it (korF σ k) (0, -1) d = (t, a) ∧ rem σ k t = cn (fun y => cbg σ k y) 16 - d ∧ (d = 0 ∨ 0 ≤ a) ∧ a ≠ -2 := by
  intro d
  induction d with
  | zero => intro _; exact ⟨0, -1, rfl, by rw [rem_0]; omega, Or.inl rfl, by decide⟩
  | succ d ih =>
    intro hd
    obtain ⟨t, a, e1, e2, e3, e4⟩ := ih (by omega)
    have es : it (korF σ k) (0, -1) ((d + 1 : Nat) : Int) = korF σ k d (it (korF σ k) (0, -1) d) := it_s (i := (d : Int)) (by omega)
    have hp : 0 < rem σ k t := by omega
    obtain ⟨j, j0, j1, j2⟩ := cn_ex (by decide) hp
    have hA := drwA (r := σ 14 0) (t := t) h hk
    rcases hA with ⟨d1, d2⟩ | ⟨d1, d2, -⟩
    · exact absurd j2 (d2 j j0 j1)
    · refine ⟨t ||| 2 ^ (drw σ k (σ 14 0) t).toNat, drw σ k (σ 14 0) t, ?_, ?_, Or.inr d1.1, by omega⟩
      · rw [es, e1]
        unfold korF
        rw [if_neg (show ¬ ((t, a) : Nat × Int).2 = -2 from e4), if_neg (show ¬ drw σ k (σ 14 0) ((t, a) : Nat × Int).1 = -1 by show ¬ drw σ k (σ 14 0) t = -1; omega)]
      · rw [rem_or d1 d2, e2]; omega
theorem kor_yes (h : Inv n σ) (hk : 0 ≤ k ∧ k < 4) {i : Int} (h0 : 1 ≤ i) (h1 : i ≤ cn (fun y => cbg σ k y) 16) : 0 ≤ kor σ k i := by
  obtain ⟨t, a, e1, -, e3, e4⟩ := kor_in h hk i.toNat (by omega)
  rw [show ((i.toNat : Nat) : Int) = i by omega] at e1
  unfold kor
  rw [e1, if_neg (show ¬ ((t, a) : Nat × Int).2 = -2 from e4)]
  show 0 ≤ a
  omega
theorem kor_not (h : Inv n σ) (hk : 0 ≤ k ∧ k < 4) {i : Int} (h1 : cn (fun y => cbg σ k y) 16 < i) : kor σ k i = -1 := by
  have hr := cn_rg (P := fun y => cbg σ k y) (i := 16) (by decide)
  generalize hc : cn (fun y => cbg σ k y) 16 = c at *
  obtain ⟨t, a, e1, e2, -, e4⟩ := kor_in h hk c.toNat (by rw [hc]; omega)
  rw [show ((c.toNat : Nat) : Int) = c by omega] at e1 e2
  rw [hc] at e2
  have hz : rem σ k t = 0 := by omega
  have hA := drwA (r := σ 14 0) (t := t) h hk
  have hd : drw σ k (σ 14 0) t = -1 := by
    rcases hA with ⟨d1, -⟩ | ⟨d1, d2, -⟩
    · exact d1
    · exact absurd d2 (cn_zero hz _ d1.1 d1.2)
  have es : it (korF σ k) (0, -1) (c + 1) = (t, -2) := by
    rw [it_s (by omega), e1]
    unfold korF
    rw [if_neg (show ¬ ((t, a) : Nat × Int).2 = -2 from e4), if_pos (show drw σ k (σ 14 0) ((t, a) : Nat × Int).1 = -1 from hd)]
  have h2 : (it (korF σ k) (0, -1) i).2 = -2 := kor_stay (i := c + 1) (by omega) (by omega) (by rw [es])
  unfold kor
  rw [if_pos h2]
/-! the key at a place -/
theorem kat_at (h : Inv n σ) (hk : 0 ≤ k ∧ k < 4) (hy : 0 ≤ y ∧ y < 16) (h2 : σ 4 (k * 16 + y) = 2) : kat σ k (σ 6 (k * 16 + y)) = y := fs_at hy.1 hy.2 (fun j a b => ⟨fun q => h.pi hk j y ⟨a, b⟩ hy q.1 h2 q.2, fun e => by rw [e]; exact ⟨h2, rfl⟩⟩)
theorem kat_no (h : Inv n σ) (hk : 0 ≤ k ∧ k < 4) {q : Int} (hq : hm σ k 2 ≤ q) : kat σ k q = -1 := fs_no (by decide) (fun j a b g => by have := ((h.ki hk ⟨a, b⟩).2 g.1).2; omega)
theorem kat_or {q : Int} : (kat σ k q = -1 ∧ ∀ y, 0 ≤ y → y < 16 → ¬ (σ 4 (k * 16 + y) = 2 ∧ σ 6 (k * 16 + y) = q)) ∨ ((0 ≤ kat σ k q ∧ kat σ k q < 16) ∧ σ 4 (k * 16 + kat σ k q) = 2 ∧ σ 6 (k * 16 + kat σ k q) = q) := by
  have key := it_inv (f := fun j v => if v = -1 then (if σ 4 (k * 16 + j) = 2 ∧ σ 6 (k * 16 + j) = q then j else -1) else v) (a := -1) (n := 16) (i := 16) (fun i v => (v = -1 ∧ ∀ y, 0 ≤ y → y < i → ¬ (σ 4 (k * 16 + y) = 2 ∧ σ 6 (k * 16 + y) = q)) ∨ ((0 ≤ v ∧ v < i) ∧ σ 4 (k * 16 + v) = 2 ∧ σ 6 (k * 16 + v) = q))
    (Or.inl ⟨rfl, fun y a b => by omega⟩) (fun j v h0 h1 h => ?_) (by decide) (by decide)
  · exact key
  · rcases h with ⟨g1, g2⟩ | ⟨g1, g2⟩
    · rw [if_pos g1]
      by_cases c : σ 4 (k * 16 + j) = 2 ∧ σ 6 (k * 16 + j) = q
      · rw [if_pos c]; exact Or.inr ⟨⟨h0, by omega⟩, c⟩
      · rw [if_neg c]
        refine Or.inl ⟨rfl, fun y a b w => ?_⟩
        by_cases e : y = j
        · rw [e] at w; exact c w
        · exact g2 y a (by omega) w
    · rw [if_neg (by omega)]
      exact Or.inr ⟨⟨g1.1, by omega⟩, g2⟩
/-- the ripe key nearest to the top among the places above p -/
def TP (σ : Mem) (k p v : Int) : Prop := (v = -1 ∧ ∀ y, 0 ≤ y → y < 16 → ripe σ k y → σ 6 (k * 16 + y) ≤ p) ∨ ((0 ≤ v ∧ v < 16) ∧ ripe σ k v ∧ p < σ 6 (k * 16 + v) ∧ ∀ y, 0 ≤ y → y < 16 → ripe σ k y → p < σ 6 (k * 16 + y) → y ≠ v → σ 6 (k * 16 + v) < σ 6 (k * 16 + y))
theorem TP.start (h : Inv n σ) (hk : 0 ≤ k ∧ k < 4) : TP σ k (hm σ k 2 - 1) (-1) := Or.inl ⟨rfl, fun y a b q => by have := ((h.ki hk ⟨a, b⟩).2 q.1).2; omega⟩
theorem TP.all {v : Int} (h : Inv n σ) (hk : 0 ≤ k ∧ k < 4) (ht : TP σ k (-1) v) : AM (fun y => ripe σ k y) (fun y => σ 6 (k * 16 + y)) v := by
  rcases ht with ⟨t1, t2⟩ | ⟨t1, t2, -, t4⟩
  · refine Or.inl ⟨t1, fun y a b q => ?_⟩
    have := ((h.ki hk ⟨a, b⟩).2 q.1).2
    have := t2 y a b q
    omega
  · refine Or.inr ⟨t1, t2, fun y a b q ne => ?_⟩
    have := ((h.ki hk ⟨a, b⟩).2 q.1).2
    exact t4 y a b q (by omega) ne
theorem TP.take {p v w : Int} (h : Inv n σ) (hk : 0 ≤ k ∧ k < 4) (ht : TP σ k p v) (hw : 0 ≤ w ∧ w < 16) (hr : ripe σ k w) (hp : σ 6 (k * 16 + w) = p) : TP σ k (p - 1) w := by
  refine Or.inr ⟨hw, hr, by omega, fun y a b q g ne => ?_⟩
  have : σ 6 (k * 16 + y) ≠ p := fun e => ne (h.pi hk y w ⟨a, b⟩ hw q.1 hr.1 (by omega))
  omega
theorem TP.skip {p v : Int} (ht : TP σ k p v) (hn : ∀ y, 0 ≤ y → y < 16 → ripe σ k y → σ 6 (k * 16 + y) ≠ p) : TP σ k (p - 1) v := by
  rcases ht with ⟨t1, t2⟩ | ⟨t1, t2, t3, t4⟩
  · refine Or.inl ⟨t1, fun y a b q => ?_⟩
    have := t2 y a b q
    have := hn y a b q
    omega
  · refine Or.inr ⟨t1, t2, by omega, fun y a b q g ne => ?_⟩
    have := hn y a b q
    exact t4 y a b q (by omega) ne
/-! after a key is given -/
theorem cbg_m (e : ∀ c, 2 ≤ c → c < 8 → τ c = σ c) : cbg τ k y ↔ cbg σ k y := by
  unfold cbg ripe
  rw [e 2 (by decide) (by decide), e 3 (by decide) (by decide), e 4 (by decide) (by decide), e 7 (by decide) (by decide)]
theorem rk_m (e : ∀ c, 2 ≤ c → c < 8 → τ c = σ c) : rk τ k y r = rk σ k y r := by
  unfold rk
  rw [e 4 (by decide) (by decide), e 5 (by decide) (by decide), e 6 (by decide) (by decide)]
theorem drw_m (e : ∀ c, 2 ≤ c → c < 8 → τ c = σ c) : drw τ k r t = drw σ k r t := by
  have e1 : dst τ k r t = dst σ k r t := by
    funext j v
    have hc := cbg_m (k := k) (y := j) e
    unfold dst
    rw [rk_m e]
    by_cases h : t.testBit j.toNat = true ∨ ¬ cbg σ k j
    · rw [if_pos h, if_pos (by rcases h with h | h; exact Or.inl h; exact Or.inr (fun q => h (hc.mp q)))]
    · rw [if_neg h, if_neg (by intro q; rcases q with q | q; exact h (Or.inl q); exact h (Or.inr (fun w => q (hc.mpr w))))]
  unfold drw
  rw [e1]
theorem hm_m {w : Int} (e : τ 4 = σ 4) : hm τ k w = hm σ k w := by unfold hm; rw [e]
theorem hrp_m (e : ∀ c, 2 ≤ c → c < 8 → τ c = σ c) : hrp τ k = hrp σ k := cn_congr (by decide) (fun j _ _ => by
  show ripe τ k j ↔ ripe σ k j
  unfold ripe
  rw [e 2 (by decide) (by decide), e 3 (by decide) (by decide), e 4 (by decide) (by decide), e 7 (by decide) (by decide)])
theorem atr_m (e : ∀ c, 2 ≤ c → c < 15 → τ c = σ c) : atr τ k = atr σ k := by
  unfold atr
  rw [e 14 (by decide) (by decide), drw_m (fun c a b => e c a (by omega)), hm_m (e 4 (by decide) (by decide))]
theorem kor_m {i : Int} (e : ∀ c, 2 ≤ c → c < 15 → τ c = σ c) : kor τ k i = kor σ k i := by
  have e1 : korF τ k = korF σ k := by
    funext j v
    unfold korF
    rw [e 14 (by decide) (by decide), drw_m (fun c a b => e c a (by omega))]
  unfold kor
  rw [e1]
theorem drw_next (h : Inv n σ) (hn : n ≤ 1000) (hk : 0 ≤ k ∧ k < 4) {a : Int} (he : a = drw σ k (σ 14 0) 0) (ha : 0 ≤ a) : drw (gvk σ k a) k (gvk σ k a 14 0) 0 = drw σ k (σ 14 0) (0 ||| 2 ^ a.toNat) := by
  have h0 := drw0 (r := σ 14 0) h hk
  rw [← he] at h0
  obtain ⟨a1, a2⟩ := h0.pos ha
  have hy : 0 ≤ a ∧ a < 16 := ⟨ha, a1⟩
  have h' := Inv_gvk h hn hk hy a2
  have e14 : gvk σ k a 14 = σ 14 := gvk_e (by decide) (by decide) (by decide) (by decide)
  have e2 : gvk σ k a 2 = σ 2 := gvk_e (by decide) (by decide) (by decide) (by decide)
  have e3 : gvk σ k a 3 = σ 3 := gvk_e (by decide) (by decide) (by decide) (by decide)
  have e7 : gvk σ k a 7 = σ 7 := gvk_e (by decide) (by decide) (by decide) (by decide)
  rw [e14]
  have hL := drw0 (r := σ 14 0) h' hk
  have hR := drwA (r := σ 14 0) (t := 0 ||| 2 ^ a.toNat) h hk
  have o4 : ∀ y, 0 ≤ y ∧ y < 16 → y ≠ a → gvk σ k a 4 (k * 16 + y) = σ 4 (k * 16 + y) := fun y _ ne => by rw [gvk_4, if_neg (by omega)]
  have o5 : ∀ y, 0 ≤ y ∧ y < 16 → y ≠ a → gvk σ k a 5 (k * 16 + y) = σ 5 (k * 16 + y) := fun y _ ne => by rw [gvk_5, if_neg (by omega)]
  have ca : ¬ cbg (gvk σ k a) k a := fun q => by
    have : gvk σ k a 4 (k * 16 + a) = 1 := by rw [gvk_4, if_pos rfl]
    have := cbg_2 q
    omega
  have cb : ∀ y, 0 ≤ y ∧ y < 16 → y ≠ a → (cbg (gvk σ k a) k y ↔ cbg σ k y) := fun y hy ne => by
    unfold cbg ripe
    rw [o4 y hy ne, e2, e3, e7]
  have o6 : ∀ y, 0 ≤ y ∧ y < 16 → y ≠ a → cbg σ k y → σ 4 (k * 16 + y) = 0 ∨ (σ 4 (k * 16 + y) = 2 ∧ (0 ≤ σ 6 (k * 16 + y) ∧ σ 6 (k * 16 + y) < 16) ∧ (0 ≤ gvk σ k a 6 (k * 16 + y) ∧ gvk σ k a 6 (k * 16 + y) < 16) ∧ ((σ 4 (k * 16 + a) = 2 ∧ σ 6 (k * 16 + y) ≠ σ 6 (k * 16 + a) ∧ ((σ 6 (k * 16 + a) < σ 6 (k * 16 + y) ∧ gvk σ k a 6 (k * 16 + y) = σ 6 (k * 16 + y) - 1) ∨ (σ 6 (k * 16 + y) < σ 6 (k * 16 + a) ∧ gvk σ k a 6 (k * 16 + y) = σ 6 (k * 16 + y)))) ∨ (σ 4 (k * 16 + a) ≠ 2 ∧ gvk σ k a 6 (k * 16 + y) = σ 6 (k * 16 + y)))) := fun y hy' ne q => by
    rcases cbg_2 q with q | q
    · exact Or.inl q
    · right
      have p := ((h.ki hk hy').2 q).2
      have p' := ((h'.ki hk hy').2 (by rw [o4 y hy' ne]; exact q)).2
      have hr := hm_rg (σ := σ) (k := k) (w := 2)
      have hr' := hm_rg (σ := gvk σ k a) (k := k) (w := 2)
      refine ⟨q, ⟨p.1, by omega⟩, ⟨p'.1, by omega⟩, ?_⟩
      rw [gvk_6, tko_6 hk hk hy']
      by_cases z : σ 4 (k * 16 + a) = 2
      · have ne6 : σ 6 (k * 16 + y) ≠ σ 6 (k * 16 + a) := fun e => ne (h.pi hk y a hy' hy q z e)
        refine Or.inl ⟨z, ne6, ?_⟩
        by_cases w : σ 6 (k * 16 + a) < σ 6 (k * 16 + y)
        · rw [if_pos ⟨z, rfl, w⟩]; exact Or.inl ⟨w, wr_eq ⟨by omega, by omega⟩⟩
        · rw [if_neg (fun u => w u.2.2)]; exact Or.inr ⟨by omega, rfl⟩
      · rw [if_neg (fun u => z u.1)]; exact Or.inr ⟨z, rfl⟩
  have bt : ∀ y, 0 ≤ y ∧ y < 16 → ((0 ||| 2 ^ a.toNat).testBit y.toNat = false ↔ y ≠ a) := fun y hy' => by
    rw [Nat.zero_or, Nat.testBit_two_pow]
    by_cases e : y = a
    · rw [e, decide_eq_true rfl]; exact ⟨fun q => absurd q (by decide), fun q => absurd rfl q⟩
    · rw [decide_eq_false (by omega)]; exact ⟨fun _ => e, fun _ => rfl⟩
  refine hL.eq hR (fun y a0 b0 => ?_) (fun y z hy1 hz1 c1 c2 hlt => ?_)
  · by_cases e : y = a
    · rw [e]
      exact ⟨fun q => absurd q ca, fun q => absurd rfl ((bt a hy).mp q.1)⟩
    · exact ⟨fun q => ⟨(bt y ⟨a0, b0⟩).mpr e, (cb y ⟨a0, b0⟩ e).mp q⟩, fun q => (cb y ⟨a0, b0⟩ e).mpr q.2⟩
  · have ne1 : y ≠ a := fun e => by rw [e] at c1; exact ca c1
    have ne2 : z ≠ a := fun e => by rw [e] at c2; exact ca c2
    have d1 := (cb y hy1 ne1).mp c1
    have d2 := (cb z hz1 ne2).mp c2
    have g1 := o6 y hy1 ne1 d1
    have g2 := o6 z hz1 ne2 d2
    have w1 : ∀ v : Int, (0 ≤ v ∧ v < 16) → wr (16 + v) = 16 + v := fun v hv => wr_eq ⟨by omega, by omega⟩
    have v1 := w1 (σ 6 (k * 16 + y))
    have v2 := w1 (σ 6 (k * 16 + z))
    have v3 := w1 (gvk σ k a 6 (k * 16 + y))
    have v4 := w1 (gvk σ k a 6 (k * 16 + z))
    have n1 : σ 4 (k * 16 + y) = 2 → σ 4 (k * 16 + z) = 2 → σ 6 (k * 16 + y) = σ 6 (k * 16 + z) → y = z := fun p q => h.pi hk y z hy1 hz1 p q
    unfold rk at hlt ⊢
    rw [o4 y hy1 ne1, o4 z hz1 ne2, o5 y hy1 ne1, o5 z hz1 ne2] at hlt
    generalize gvk σ k a 6 (k * 16 + y) = G1 at *
    generalize gvk σ k a 6 (k * 16 + z) = G2 at *
    generalize wr (16 + G1) = W1 at *
    generalize wr (16 + G2) = W2 at *
    generalize wr (16 + σ 6 (k * 16 + y)) = W3 at *
    generalize wr (16 + σ 6 (k * 16 + z)) = W4 at *
    by_cases r0 : σ 14 0 = 0
    · simp only [if_pos r0] at hlt ⊢
      (repeat' split at hlt) <;> (repeat' split) <;> omega
    · by_cases r1 : σ 14 0 = 1
      · simp only [if_neg r0, if_pos r1] at hlt ⊢
        (repeat' split at hlt) <;> (repeat' split) <;> omega
      · simp only [if_neg r0, if_neg r1] at hlt ⊢
        exact hlt
/-- what a row that asks behind one that got its key would get -/
theorem ask_post (h : Inv n σ) (hn : n ≤ 1000) (hk : 0 ≤ k ∧ k < 4) {a : Int} (he : a = drw σ k (σ 14 0) 0) (ha : 0 ≤ a) : atr (gvk σ k a) k = if 0 ≤ kor σ k 2 then kor σ k 2 else if hm (gvk σ k a) k 2 = 0 then 101 else 102 := by
  rw [atr_eq, drw_next h hn hk he ha, kor2, ← he, if_neg (show ¬ a = -1 by omega)]
end LOOKS
