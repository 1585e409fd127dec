/-! the key that is drawn: the least rank among those that can be given -/
def AM (C : Int → Prop) (r : Int → Int) (a : Int) : Prop := (a = -1 ∧ ∀ y, 0 ≤ y → y < 16 → ¬ C y) ∨ ((0 ≤ a ∧ a < 16) ∧ C a ∧ ∀ y, 0 ≤ y → y < 16 → C y → y ≠ a → r a < r y)
theorem AM.eq {C C' : Int → Prop} {r r' : Int → Int} {a b : Int} (h : AM C r a) (h' : AM C' r' b) (hC : ∀ y, 0 ≤ y → y < 16 → (C y ↔ C' y)) (hr : ∀ y z, (0 ≤ y ∧ y < 16) → (0 ≤ z ∧ z < 16) → C y → C z → r y < r z → r' y < r' z) : a = b := by
  rcases h with ⟨h1, h2⟩ | ⟨h1, h2, h3⟩
  · rcases h' with ⟨g1, g2⟩ | ⟨g1, g2, g3⟩
    · rw [h1, g1]
    · exact absurd ((hC b g1.1 g1.2).mpr g2) (h2 b g1.1 g1.2)
  · rcases h' with ⟨g1, g2⟩ | ⟨g1, g2, g3⟩
    · exact absurd ((hC a h1.1 h1.2).mp h2) (g2 a h1.1 h1.2)
    · by_cases e : a = b
      · exact e
      · exfalso
        have hb := (hC b g1.1 g1.2).mpr g2
        have ha := (hC a h1.1 h1.2).mp h2
        have k1 := hr a b h1 g1 h2 hb (h3 b g1.1 g1.2 hb (fun q => e q.symm))
        have k2 := g3 a h1.1 h1.2 ha e
        omega
theorem AM.pos {C : Int → Prop} {r : Int → Int} {a : Int} (h : AM C r a) (ha : 0 ≤ a) : a < 16 ∧ C a := by
  rcases h with ⟨h1, -⟩ | ⟨h1, h2, -⟩
  · omega
  · exact ⟨h1.2, h2⟩
theorem AM.neg {C : Int → Prop} {r : Int → Int} {a : Int} (h : AM C r a) (ha : a < 0) : ∀ y, 0 ≤ y → y < 16 → ¬ C y := by
  rcases h with ⟨-, h2⟩ | ⟨h1, -⟩
  · exact h2
  · omega
theorem drw_AM {α : Mem} {k r : Int} {t : Nat} (inj : ∀ y z, (0 ≤ y ∧ y < 16) → (0 ≤ z ∧ z < 16) → cbg α k y → cbg α k z → y ≠ z → rk α k y r ≠ rk α k z r) : AM (fun y => t.testBit y.toNat = false ∧ cbg α k y) (fun y => rk α k y r) (drw α k r t) := by
  have key := it_inv (f := dst α k r t) (a := (-1, 0)) (n := 16) (i := 16) (fun i v => (v.1 = -1 ∧ ∀ y, 0 ≤ y → y < i → ¬ (t.testBit y.toNat = false ∧ cbg α k y)) ∨ ((0 ≤ v.1 ∧ v.1 < i) ∧ (t.testBit v.1.toNat = false ∧ cbg α k v.1) ∧ v.2 = rk α k v.1 r ∧ ∀ y, 0 ≤ y → y < i → (t.testBit y.toNat = false ∧ cbg α k y) → y ≠ v.1 → rk α k v.1 r < rk α k y r))
    (Or.inl ⟨rfl, fun y a b => absurd a (by omega)⟩) (fun j v h0 h1 h => ?_) (by decide) (by decide)
  · unfold drw
    rcases key with ⟨a, b⟩ | ⟨a, b, -, d⟩
    · exact Or.inl ⟨a, b⟩
    · exact Or.inr ⟨a, b, d⟩
  · unfold dst
    by_cases hc : t.testBit j.toNat = true ∨ ¬ cbg α k j
    · rw [if_pos hc]
      have hn : ¬ (t.testBit j.toNat = false ∧ cbg α k j) := by
        intro q
        rcases hc with hc | hc
        · rw [hc] at q; exact absurd q.1 (by decide)
        · exact hc q.2
      rcases h with ⟨a, b⟩ | ⟨a, b, c, d⟩
      · refine Or.inl ⟨a, fun y a1 b1 => ?_⟩
        by_cases e : y = j
        · rw [e]; exact hn
        · exact b y a1 (by omega)
      · refine Or.inr ⟨⟨a.1, by omega⟩, b, c, fun y a1 b1 q ne => ?_⟩
        by_cases e : y = j
        · rw [e] at q; exact absurd q hn
        · exact d y a1 (by omega) q ne
    · rw [if_neg hc]
      have hy : t.testBit j.toNat = false ∧ cbg α k j := by
        constructor
        · cases q : t.testBit j.toNat with
          | false => rfl
          | true => exact absurd (Or.inl q) hc
        · by_cases q : cbg α k j
          · exact q
          · exact absurd (Or.inr q) hc
      rcases h with ⟨a, b⟩ | ⟨a, b, c, d⟩
      · rw [if_pos (Or.inl a)]
        refine Or.inr ⟨⟨h0, by show j < j + 1; omega⟩, hy, rfl, fun y a1 b1 q ne => ?_⟩
        exact absurd q (b y a1 (by have : y ≠ j := ne; omega))
      · by_cases hr : rk α k j r < v.2
        · rw [if_pos (Or.inr hr)]
          refine Or.inr ⟨⟨h0, by show j < j + 1; omega⟩, hy, rfl, fun y a1 b1 q ne => ?_⟩
          have ne : y ≠ j := ne
          show rk α k j r < rk α k y r
          by_cases e : y = v.1
          · rw [e, ← c]; exact hr
          · have := d y a1 (by omega) q e
            omega
        · rw [if_neg (by intro q; rcases q with q | q; omega; exact hr q)]
          refine Or.inr ⟨⟨a.1, by omega⟩, b, c, fun y a1 b1 q ne => ?_⟩
          by_cases e : y = j
          · rw [e]
            have := inj j v.1 ⟨h0, h1⟩ ⟨a.1, by omega⟩ hy.2 b.2 (by omega)
            omega
          · exact d y a1 (by omega) q ne
/-- the reference's ranks -/
def mrk (σ : Mem) (b k y : Int) : Int := if mRu σ b = 0 then (if mS σ b k y = 0 then y else 16 + plc σ b k y) else if mRu σ b = 1 then (if mS σ b k y = 0 then 16 + y else plc σ b k y) else if mRu σ b = 2 then y else mR σ b k y * 16 + y
theorem plc_ne {σ : Mem} {b N k y z : Int} (hG : SG σ b N) (hk : 0 ≤ k ∧ k < 4) (hy : 0 ≤ y ∧ y < 16) (hz : 0 ≤ z ∧ z < 16) (h1 : mS σ b k y = 2) (h2 : mS σ b k z = 2) (ne : y ≠ z) : plc σ b k y ≠ plc σ b k z := by
  intro e
  have g1 := (plc_ok hG hk hy h1).2
  have g2 := (plc_ok hG hk hz h2).2
  rw [e, g2] at g1
  exact ne g1.symm
theorem mrk_inj {σ : Mem} {b N k y z : Int} (hG : SG σ b N) (hk : 0 ≤ k ∧ k < 4) (hy : 0 ≤ y ∧ y < 16) (hz : 0 ≤ z ∧ z < 16) (h1 : mcg σ b k y) (h2 : mcg σ b k z) (ne : y ≠ z) : mrk σ b k y ≠ mrk σ b k z := by
  have p1 : mS σ b k y = 0 ∨ (mS σ b k y = 2 ∧ 0 ≤ plc σ b k y) := by
    rcases h1 with h | h
    · exact Or.inl h
    · exact Or.inr ⟨h.1, (plc_ok hG hk hy h.1).1.1⟩
  have p2 : mS σ b k z = 0 ∨ (mS σ b k z = 2 ∧ 0 ≤ plc σ b k z) := by
    rcases h2 with h | h
    · exact Or.inl h
    · exact Or.inr ⟨h.1, (plc_ok hG hk hz h.1).1.1⟩
  have pn : mS σ b k y = 2 → mS σ b k z = 2 → plc σ b k y ≠ plc σ b k z := fun a c => plc_ne hG hk hy hz a c ne
  have hL := (hG.kd hk).2
  have q1 := plc_rg (σ := σ) (b := b) (k := k) (y := y) hL.1
  have q2 := plc_rg (σ := σ) (b := b) (k := k) (y := z) hL.1
  unfold mrk
  (repeat' split) <;> omega
theorem lof_AM {σ : Mem} {b k : Int} : AM (fun y => mS σ b k y = 0) (fun y => y) (lof σ b k) := by
  have key := it_inv (f := lofF σ b k) (a := -1) (n := 16) (i := 16) (fun i v => (v = -1 ∧ ∀ y, 16 - i ≤ y → y < 16 → ¬ mS σ b k y = 0) ∨ ((16 - i ≤ v ∧ v < 16) ∧ mS σ b k v = 0 ∧ ∀ y, 16 - i ≤ y → y < 16 → mS σ b k y = 0 → y ≠ v → v < y))
    (Or.inl ⟨rfl, fun y a b => absurd a (by omega)⟩) (fun j v h0 h1 h => ?_) (by decide) (by decide)
  · unfold lof
    rcases key with ⟨a, c⟩ | ⟨a, c, d⟩
    · exact Or.inl ⟨a, fun y p q => c y (by omega) q⟩
    · exact Or.inr ⟨⟨by omega, a.2⟩, c, fun y p q => d y (by omega) q⟩
  · unfold lofF
    by_cases hf : mS σ b k (15 - j) = 0
    · rw [if_pos hf]
      exact Or.inr ⟨⟨by omega, by omega⟩, hf, fun y a c q ne => by omega⟩
    · rw [if_neg hf]
      rcases h with ⟨a, c⟩ | ⟨a, c, d⟩
      · refine Or.inl ⟨a, fun y p q => ?_⟩
        by_cases e : y = 15 - j
        · rw [e]; exact hf
        · exact c y (by omega) q
      · refine Or.inr ⟨⟨by omega, a.2⟩, c, fun y p q g ne => ?_⟩
        by_cases e : y = 15 - j
        · rw [e] at g; exact absurd g hf
        · exact d y (by omega) q g ne
theorem tor_AM {σ : Mem} {b N k : Int} (hG : SG σ b N) (hk : 0 ≤ k ∧ k < 4) : AM (fun y => mrp σ b k y) (fun y => plc σ b k y) (tor σ b k) := by
  have hL := (hG.kd hk).2
  have key := it_inv (f := torF σ b k) (a := -1) (n := mL σ b k) (i := mL σ b k) (fun i v => (v = -1 ∧ ∀ p, mL σ b k - i ≤ p → p < mL σ b k → ¬ mrp σ b k (mP σ b k p)) ∨ ∃ p, (mL σ b k - i ≤ p ∧ p < mL σ b k) ∧ v = mP σ b k p ∧ mrp σ b k (mP σ b k p) ∧ ∀ q, mL σ b k - i ≤ q → q < p → ¬ mrp σ b k (mP σ b k q))
    (Or.inl ⟨rfl, fun y a b => absurd a (by omega)⟩) (fun j v h0 h1 h => ?_) hL.1 (Int.le_refl _)
  · unfold tor
    rcases key with ⟨a, c⟩ | ⟨p, a, c, d, e⟩
    · refine Or.inl ⟨a, fun y q1 q2 hr => ?_⟩
      have g := plc_ok hG hk ⟨q1, q2⟩ hr.1
      exact c _ (by omega) g.1.2 (by rw [g.2]; exact hr)
    · have hp := hG.pl hk (p := p) (by omega) a.2
      refine Or.inr ⟨by rw [c]; exact hp, by rw [c]; exact d, fun y q1 q2 hr ne => ?_⟩
      have g := plc_ok hG hk ⟨q1, q2⟩ hr.1
      have hv : plc σ b k (it (torF σ b k) (-1) (mL σ b k)) = p := by rw [c]; exact plc_at (hG.pk hk) ⟨by omega, a.2⟩ rfl
      show plc σ b k (it (torF σ b k) (-1) (mL σ b k)) < plc σ b k y
      rw [hv]
      by_cases hlt : plc σ b k y < p
      · exact absurd (by rw [g.2]; exact hr) (e _ (by omega) hlt)
      · by_cases he : plc σ b k y = p
        · exfalso; rw [he] at g; exact ne (by rw [c]; exact g.2.symm)
        · omega
  · unfold torF
    by_cases hf : mrp σ b k (mP σ b k (mL σ b k - 1 - j))
    · rw [if_pos hf]
      exact Or.inr ⟨mL σ b k - 1 - j, ⟨by omega, by omega⟩, rfl, hf, fun q a c => by omega⟩
    · rw [if_neg hf]
      rcases h with ⟨a, c⟩ | ⟨p, a, c, d, e⟩
      · refine Or.inl ⟨a, fun p q1 q2 => ?_⟩
        by_cases e : p = mL σ b k - 1 - j
        · rw [e]; exact hf
        · exact c p (by omega) q2
      · refine Or.inr ⟨p, ⟨by omega, a.2⟩, c, d, fun q q1 q2 => ?_⟩
        by_cases e2 : q = mL σ b k - 1 - j
        · rw [e2]; exact hf
        · exact e q (by omega) q2
theorem mdr2_AM {σ : Mem} {b k : Int} : AM (fun y => mcg σ b k y) (fun y => (if mRu σ b = 2 then 0 else mR σ b k y) * 16 + y) (it (mdrF σ b k) (-1, 0) 16).1 := by
  have key := it_inv (f := mdrF σ b k) (a := (-1, 0)) (n := 16) (i := 16) (fun i v => (v.1 = -1 ∧ ∀ y, 0 ≤ y → y < i → ¬ mcg σ b k y) ∨ ((0 ≤ v.1 ∧ v.1 < i) ∧ mcg σ b k v.1 ∧ v.2 = (if mRu σ b = 2 then 0 else mR σ b k v.1) ∧ ∀ y, 0 ≤ y → y < i → mcg σ b k y → y ≠ v.1 → (if mRu σ b = 2 then 0 else mR σ b k v.1) * 16 + v.1 < (if mRu σ b = 2 then 0 else mR σ b k y) * 16 + y))
    (Or.inl ⟨rfl, fun y a b => absurd a (by omega)⟩) (fun j v h0 h1 h => ?_) (by decide) (by decide)
  · rcases key with ⟨a, c⟩ | ⟨a, c, -, d⟩
    · exact Or.inl ⟨a, c⟩
    · exact Or.inr ⟨a, c, d⟩
  · unfold mdrF
    generalize hown : (fun y => if mRu σ b = 2 then 0 else mR σ b k y) = own at h ⊢
    have ho : ∀ y, (if mRu σ b = 2 then 0 else mR σ b k y) = own y := fun y => by rw [← hown]
    simp only [ho] at h ⊢
    by_cases hc : mcg σ b k j ∧ (v.1 < 0 ∨ own j < v.2)
    · rw [if_pos hc]
      refine Or.inr ⟨⟨h0, by show j < j + 1; omega⟩, hc.1, rfl, fun y a1 b1 q ne => ?_⟩
      have ne : y ≠ j := ne
      show own j * 16 + j < own y * 16 + y
      rcases h with ⟨a, c⟩ | ⟨a, c, d, e⟩
      · exact absurd q (c y a1 (by omega))
      · have hlt : own j < own v.1 := by rcases hc.2 with g | g <;> omega
        by_cases e2 : y = v.1
        · rw [e2]; omega
        · have := e y a1 (by omega) q e2
          omega
    · rw [if_neg hc]
      rcases h with ⟨a, c⟩ | ⟨a, c, d, e⟩
      · refine Or.inl ⟨a, fun y p q g => ?_⟩
        by_cases e : y = j
        · rw [e] at g; exact hc ⟨g, Or.inl (by omega)⟩
        · exact c y p (by omega) g
      · refine Or.inr ⟨⟨a.1, by omega⟩, c, d, fun y p q g ne => ?_⟩
        by_cases e2 : y = j
        · rw [e2] at g ⊢
          have : ¬ own j < v.2 := fun q2 => hc ⟨g, Or.inr q2⟩
          omega
        · exact e y p (by omega) g ne
theorem mdr_AM {σ : Mem} {b N k : Int} (hG : SG σ b N) (hk : 0 ≤ k ∧ k < 4) : AM (fun y => mcg σ b k y) (fun y => mrk σ b k y) (mdr σ b k) := by
  have hL := (hG.kd hk).2
  have h1 := lof_AM (σ := σ) (b := b) (k := k)
  have h2 := tor_AM hG hk
  have h3 := mdr2_AM (σ := σ) (b := b) (k := k)
  have hru := hG.ru
  have q := fun y => plc_rg (σ := σ) (b := b) (k := k) (y := y) hL.1
  have np : ∀ y, mrp σ b k y → ¬ mS σ b k y = 0 := fun y a c => by have := a.1; omega
  unfold mdr
  by_cases r0 : mRu σ b = 0
  · rw [if_pos r0]
    have e : ∀ y, mrk σ b k y = if mS σ b k y = 0 then y else 16 + plc σ b k y := fun y => by unfold mrk; rw [if_pos r0]
    simp only [e]
    by_cases hf : 0 ≤ lof σ b k
    · rw [if_pos hf]
      rcases h1 with ⟨a, -⟩ | ⟨a, c, d⟩
      · omega
      · refine Or.inr ⟨a, Or.inl c, fun y p1 p2 g ne => ?_⟩
        simp only [if_pos c]
        rcases g with g | g
        · simp only [if_pos g]; exact d y p1 p2 g ne
        · simp only [if_neg (np y g)]
          have := (plc_ok hG hk ⟨p1, p2⟩ g.1).1
          omega
    · rw [if_neg hf]
      have nf := h1.neg (by omega)
      rcases h2 with ⟨a, c⟩ | ⟨a, c, d⟩
      · refine Or.inl ⟨a, fun y p1 p2 g => ?_⟩
        rcases g with g | g
        · exact nf y p1 p2 g
        · exact c y p1 p2 g
      · refine Or.inr ⟨a, Or.inr c, fun y p1 p2 g ne => ?_⟩
        rcases g with g | g
        · exact absurd g (nf y p1 p2)
        · simp only [if_neg (np _ c), if_neg (np y g)]
          have : plc σ b k (tor σ b k) < plc σ b k y := d y p1 p2 g ne
          omega
  · rw [if_neg r0]
    by_cases r1 : mRu σ b = 1
    · rw [if_pos r1]
      have e : ∀ y, mrk σ b k y = if mS σ b k y = 0 then 16 + y else plc σ b k y := fun y => by unfold mrk; rw [if_neg r0, if_pos r1]
      simp only [e]
      by_cases hf : 0 ≤ tor σ b k
      · rw [if_pos hf]
        rcases h2 with ⟨a, -⟩ | ⟨a, c, d⟩
        · omega
        · refine Or.inr ⟨a, Or.inr c, fun y p1 p2 g ne => ?_⟩
          simp only [if_neg (np _ c)]
          rcases g with g | g
          · simp only [if_pos g]
            have := q (tor σ b k)
            omega
          · simp only [if_neg (np y g)]; exact d y p1 p2 g ne
      · rw [if_neg hf]
        have nf := h2.neg (by omega)
        rcases h1 with ⟨a, c⟩ | ⟨a, c, d⟩
        · refine Or.inl ⟨a, fun y p1 p2 g => ?_⟩
          rcases g with g | g
          · exact c y p1 p2 g
          · exact nf y p1 p2 g
        · refine Or.inr ⟨a, Or.inl c, fun y p1 p2 g ne => ?_⟩
          rcases g with g | g
          · simp only [if_pos c, if_pos g]
            have : lof σ b k < y := d y p1 p2 g ne
            omega
          · exact absurd g (nf y p1 p2)
    · rw [if_neg r1]
      have e : ∀ y, mrk σ b k y = (if mRu σ b = 2 then 0 else mR σ b k y) * 16 + y := by
        intro y
        unfold mrk
        rw [if_neg r0, if_neg r1]
        split <;> omega
      simp only [e]
      exact h3
theorem mcg_2 {σ : Mem} {b k y : Int} (h : mcg σ b k y) : mS σ b k y = 0 ∨ mS σ b k y = 2 := by
  rcases h with h | h
  · exact Or.inl h
  · exact Or.inr h.1
section DR
variable {α β : Mem}
theorem R1.rke (h : R1 α β) {k y : Int} (hk : 0 ≤ k ∧ k < 4) (hy : 0 ≤ y ∧ y < 16) (hc : mcg β 0 k y) : rk α k y (α 14 0) = mrk β 0 k y := by
  have g := h.ky hk hy
  have hL := (h.g.kd hk).2
  have q := plc_rg (σ := β) (b := 0) (k := k) (y := y) hL.1
  have hc2 := mcg_2 hc
  unfold RK at g
  have e : mS β 0 k y = 2 → wr (16 + α 6 (k * 16 + y)) = 16 + plc β 0 k y := by
    intro h2
    rw [(g.2.2.2.2.1 h2).2.2]
    exact wr_eq ⟨by omega, by omega⟩
  have e2 : mS β 0 k y = 2 → α 6 (k * 16 + y) = plc β 0 k y := fun h2 => (g.2.2.2.2.1 h2).2.2
  have ex : ∀ r, rk α k y r = if r = 0 then (if mS β 0 k y = 0 then y else wr (16 + α 6 (k * 16 + y))) else if r = 1 then (if mS β 0 k y = 0 then 16 + y else α 6 (k * 16 + y)) else if r = 2 then y else mR β 0 k y * 16 + y := by
    intro r
    unfold rk
    rw [g.1, g.2.1]
  rw [ex, h.x.1]
  unfold mrk
  rcases hc2 with h0 | h2
  · simp only [if_pos h0]
  · rw [e h2, e2 h2]
theorem R1.inj (h : R1 α β) {k : Int} (hk : 0 ≤ k ∧ k < 4) : ∀ y z, (0 ≤ y ∧ y < 16) → (0 ≤ z ∧ z < 16) → cbg α k y → cbg α k z → y ≠ z → rk α k y (α 14 0) ≠ rk α k z (α 14 0) := by
  intro y z hy hz h1 h2 ne
  have g1 := (h.cg hk hy).mp h1
  have g2 := (h.cg hk hz).mp h2
  rw [h.rke hk hy g1, h.rke hk hz g2]
  exact mrk_inj h.g hk hy hz g1 g2 ne
theorem R1.dr (h : R1 α β) {k : Int} (hk : 0 ≤ k ∧ k < 4) : drw α k (α 14 0) 0 = mdr β 0 k := by
  refine (drw_AM (t := 0) (h.inj hk)).eq (mdr_AM h.g hk) (fun y a b => ?_) (fun y z hy hz h1 h2 hlt => ?_)
  · rw [← h.cg hk ⟨a, b⟩]
    exact ⟨fun q => q.2, fun q => ⟨Nat.zero_testBit _, q⟩⟩
  · have g1 := (h.cg hk hy).mp h1.2
    have g2 := (h.cg hk hz).mp h2.2
    have := h.rke hk hy g1
    have := h.rke hk hz g2
    have hlt : rk α k y (α 14 0) < rk α k z (α 14 0) := hlt
    show mrk β 0 k y < mrk β 0 k z
    omega
theorem R1.atx (h : R1 α β) {k : Int} (hk : 0 ≤ k ∧ k < 4) : atr α k = mas β k := by
  have hd := mdr_rg h.g hk
  unfold atr mas rsn
  rw [h.dr hk, h.hL hk]
  (repeat' split) <;> omega
end DR
