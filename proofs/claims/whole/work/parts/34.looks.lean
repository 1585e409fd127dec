/-! the least, the greatest -/
def MN (C : Int → Prop) (f : Int → Int) (a : Int) : Prop := (a = -1 ∧ ∀ y, 0 ≤ y → y < 16 → ¬ C y) ∨ ∃ y, (0 ≤ y ∧ y < 16) ∧ C y ∧ a = f y ∧ ∀ z, 0 ≤ z → z < 16 → C z → f y ≤ f z
theorem MN.eq {C : Int → Prop} {f : Int → Int} {a b : Int} (h : MN C f a) (h' : MN C f b) : a = b := by
  rcases h with ⟨h1, h2⟩ | ⟨y, hy, h1, h2, h3⟩
  · rcases h' with ⟨g1, g2⟩ | ⟨z, hz, g1, g2, g3⟩
    · rw [h1, g1]
    · exact absurd g1 (h2 z hz.1 hz.2)
  · rcases h' with ⟨g1, g2⟩ | ⟨z, hz, g1, g2, g3⟩
    · exact absurd h1 (g2 y hy.1 hy.2)
    · have := h3 z hz.1 hz.2 g1
      have := g3 y hy.1 hy.2 h1
      omega
theorem MN_loop {C : Int → Prop} {f : Int → Int} {F : Int → Int → Int} (hf : ∀ y, 0 ≤ y → y < 16 → C y → 0 ≤ f y) (hF : ∀ j v, 0 ≤ j → j < 16 → (C j → F j v = if v = -1 ∨ f j < v then f j else v) ∧ (¬ C j → F j v = v)) : MN C f (it F (-1) 16) := by
  have key := it_inv (f := F) (a := -1) (n := 16) (i := 16) (fun i v => (v = -1 ∧ ∀ y, 0 ≤ y → y < i → ¬ C y) ∨ ∃ y, (0 ≤ y ∧ y < i) ∧ C y ∧ v = f y ∧ ∀ z, 0 ≤ z → z < i → C z → f y ≤ f z)
    (Or.inl ⟨rfl, fun y a b => absurd a (by omega)⟩) (fun j v h0 h1 h => ?_) (by decide) (by decide)
  · exact key
  · by_cases hc : C j
    · rw [(hF j v h0 h1).1 hc]
      have hj := hf j h0 h1 hc
      rcases h with ⟨a, b⟩ | ⟨y, hy, a, b, c⟩
      · rw [if_pos (Or.inl a)]
        refine Or.inr ⟨j, ⟨h0, by omega⟩, hc, rfl, fun z p q r => ?_⟩
        by_cases e : z = j
        · rw [e]; exact Int.le_refl _
        · exact absurd r (b z p (by omega))
      · have hy' := hf y hy.1 (by omega) a
        by_cases g : f j < v
        · rw [if_pos (Or.inr g)]
          refine Or.inr ⟨j, ⟨h0, by omega⟩, hc, rfl, fun z p q r => ?_⟩
          by_cases e : z = j
          · rw [e]; exact Int.le_refl _
          · have := c z p (by omega) r; omega
        · rw [if_neg (by omega)]
          refine Or.inr ⟨y, ⟨hy.1, by omega⟩, a, b, fun z p q r => ?_⟩
          by_cases e : z = j
          · rw [e]; omega
          · exact c z p (by omega) r
    · rw [(hF j v h0 h1).2 hc]
      rcases h with ⟨a, b⟩ | ⟨y, hy, a, b, c⟩
      · refine Or.inl ⟨a, fun z p q r => ?_⟩
        by_cases e : z = j
        · rw [e] at r; exact hc r
        · exact b z p (by omega) r
      · refine Or.inr ⟨y, ⟨hy.1, by omega⟩, a, b, fun z p q r => ?_⟩
        by_cases e : z = j
        · rw [e] at r; exact absurd r hc
        · exact c z p (by omega) r
def MX (C : Int → Prop) (f : Int → Int) (a : Int) : Prop := (a = -1 ∧ ∀ y, 0 ≤ y → y < 16 → ¬ C y) ∨ ∃ y, (0 ≤ y ∧ y < 16) ∧ C y ∧ a = f y ∧ ∀ z, 0 ≤ z → z < 16 → C z → f z ≤ f y
theorem MX.eq {C : Int → Prop} {f : Int → Int} {a b : Int} (h : MX C f a) (h' : MX C f b) : a = b := by
  rcases h with ⟨h1, h2⟩ | ⟨y, hy, h1, h2, h3⟩
  · rcases h' with ⟨g1, g2⟩ | ⟨z, hz, g1, g2, g3⟩
    · rw [h1, g1]
    · exact absurd g1 (h2 z hz.1 hz.2)
  · rcases h' with ⟨g1, g2⟩ | ⟨z, hz, g1, g2, g3⟩
    · exact absurd h1 (g2 y hy.1 hy.2)
    · have := h3 z hz.1 hz.2 g1
      have := g3 y hy.1 hy.2 h1
      omega
theorem MX_loop {C : Int → Prop} {f : Int → Int} {F : Int → Int → Int} (hf : ∀ y, 0 ≤ y → y < 16 → C y → 0 ≤ f y) (hF : ∀ j v, 0 ≤ j → j < 16 → (C j → F j v = if v < f j then f j else v) ∧ (¬ C j → F j v = v)) : MX C f (it F (-1) 16) := by
  have key := it_inv (f := F) (a := -1) (n := 16) (i := 16) (fun i v => (v = -1 ∧ ∀ y, 0 ≤ y → y < i → ¬ C y) ∨ ∃ y, (0 ≤ y ∧ y < i) ∧ C y ∧ v = f y ∧ ∀ z, 0 ≤ z → z < i → C z → f z ≤ f y)
    (Or.inl ⟨rfl, fun y a b => absurd a (by omega)⟩) (fun j v h0 h1 h => ?_) (by decide) (by decide)
  · exact key
  · by_cases hc : C j
    · rw [(hF j v h0 h1).1 hc]
      have hj := hf j h0 h1 hc
      rcases h with ⟨a, b⟩ | ⟨y, hy, a, b, c⟩
      · rw [if_pos (by omega)]
        refine Or.inr ⟨j, ⟨h0, by omega⟩, hc, rfl, fun z p q r => ?_⟩
        by_cases e : z = j
        · rw [e]; exact Int.le_refl _
        · exact absurd r (b z p (by omega))
      · by_cases g : v < f j
        · rw [if_pos g]
          refine Or.inr ⟨j, ⟨h0, by omega⟩, hc, rfl, fun z p q r => ?_⟩
          by_cases e : z = j
          · rw [e]; exact Int.le_refl _
          · have := c z p (by omega) r; omega
        · rw [if_neg g]
          refine Or.inr ⟨y, ⟨hy.1, by omega⟩, a, b, fun z p q r => ?_⟩
          by_cases e : z = j
          · rw [e]; omega
          · exact c z p (by omega) r
    · rw [(hF j v h0 h1).2 hc]
      rcases h with ⟨a, b⟩ | ⟨y, hy, a, b, c⟩
      · refine Or.inl ⟨a, fun z p q r => ?_⟩
        by_cases e : z = j
        · rw [e] at r; exact hc r
        · exact b z p (by omega) r
      · refine Or.inr ⟨y, ⟨hy.1, by omega⟩, a, b, fun z p q r => ?_⟩
        by_cases e : z = j
        · rw [e] at r; exact absurd r hc
        · exact c z p (by omega) r
section LOOKS
variable {α β : Mem}
/-- .. over a pile's places -/
theorem MN_pile {N k : Int} {f : Int → Int} {F : Int → Int → Int} (hG : SG β 0 N) (hk : 0 ≤ k ∧ k < 4) (hf : ∀ y, 0 ≤ y → y < 16 → mS β 0 k y = 2 → 0 ≤ f y) (hF : ∀ p v, 0 ≤ p → p < mL β 0 k → F p v = if v < 0 ∨ f (mP β 0 k p) < v then f (mP β 0 k p) else v) : MN (fun y => mS β 0 k y = 2) f (it F (-1) (mL β 0 k)) := by
  have hL := (hG.kd hk).2
  have pk := (hG.pk hk).2.1
  have key := it_inv (f := F) (a := -1) (n := mL β 0 k) (i := mL β 0 k) (fun i v => (v = -1 ∧ i = 0) ∨ ∃ p, (0 ≤ p ∧ p < i) ∧ v = f (mP β 0 k p) ∧ ∀ q, 0 ≤ q → q < i → f (mP β 0 k p) ≤ f (mP β 0 k q))
    (Or.inl ⟨rfl, rfl⟩) (fun j v h0 h1 h => ?_) hL.1 (Int.le_refl _)
  · rcases key with ⟨a, b⟩ | ⟨p, hp, a, b⟩
    · refine Or.inl ⟨a, fun y q1 q2 r => ?_⟩
      have := (plc_ok hG hk ⟨q1, q2⟩ r).1
      omega
    · have hpp := pk p hp.1 hp.2
      refine Or.inr ⟨_, hpp.1, hpp.2, a, fun z q1 q2 r => ?_⟩
      have g := plc_ok hG hk ⟨q1, q2⟩ r
      have := b _ g.1.1 g.1.2
      rw [g.2] at this
      exact this
  · rw [hF j v h0 h1]
    have hj := pk j h0 h1
    have hfj := hf _ hj.1.1 hj.1.2 hj.2
    rcases h with ⟨a, b⟩ | ⟨p, hp, a, b⟩
    · rw [if_pos (by omega)]
      exact Or.inr ⟨j, ⟨h0, by omega⟩, rfl, fun q q1 q2 => by rw [show q = j by omega]; exact Int.le_refl _⟩
    · have hpp := pk p hp.1 (by omega)
      have hfp := hf _ hpp.1.1 hpp.1.2 hpp.2
      by_cases g : f (mP β 0 k j) < v
      · rw [if_pos (Or.inr g)]
        refine Or.inr ⟨j, ⟨h0, by omega⟩, rfl, fun q q1 q2 => ?_⟩
        by_cases e : q = j
        · rw [e]; exact Int.le_refl _
        · have := b q q1 (by omega); omega
      · rw [if_neg (by omega)]
        refine Or.inr ⟨p, ⟨hp.1, by omega⟩, a, fun q q1 q2 => ?_⟩
        by_cases e : q = j
        · rw [e]; omega
        · exact b q q1 (by omega)
theorem MX_pile {N k : Int} {f : Int → Int} {F : Int → Int → Int} (hG : SG β 0 N) (hk : 0 ≤ k ∧ k < 4) (hf : ∀ y, 0 ≤ y → y < 16 → mS β 0 k y = 2 → 0 ≤ f y) (hF : ∀ p v, 0 ≤ p → p < mL β 0 k → F p v = if v < f (mP β 0 k p) then f (mP β 0 k p) else v) : MX (fun y => mS β 0 k y = 2) f (it F (-1) (mL β 0 k)) := by
  have hL := (hG.kd hk).2
  have pk := (hG.pk hk).2.1
  have key := it_inv (f := F) (a := -1) (n := mL β 0 k) (i := mL β 0 k) (fun i v => (v = -1 ∧ i = 0) ∨ ∃ p, (0 ≤ p ∧ p < i) ∧ v = f (mP β 0 k p) ∧ ∀ q, 0 ≤ q → q < i → f (mP β 0 k q) ≤ f (mP β 0 k p))
    (Or.inl ⟨rfl, rfl⟩) (fun j v h0 h1 h => ?_) hL.1 (Int.le_refl _)
  · rcases key with ⟨a, b⟩ | ⟨p, hp, a, b⟩
    · refine Or.inl ⟨a, fun y q1 q2 r => ?_⟩
      have := (plc_ok hG hk ⟨q1, q2⟩ r).1
      omega
    · have hpp := pk p hp.1 hp.2
      refine Or.inr ⟨_, hpp.1, hpp.2, a, fun z q1 q2 r => ?_⟩
      have g := plc_ok hG hk ⟨q1, q2⟩ r
      have := b _ g.1.1 g.1.2
      rw [g.2] at this
      exact this
  · rw [hF j v h0 h1]
    have hj := pk j h0 h1
    have hfj := hf _ hj.1.1 hj.1.2 hj.2
    rcases h with ⟨a, b⟩ | ⟨p, hp, a, b⟩
    · rw [if_pos (by omega)]
      exact Or.inr ⟨j, ⟨h0, by omega⟩, rfl, fun q q1 q2 => by rw [show q = j by omega]; exact Int.le_refl _⟩
    · by_cases g : v < f (mP β 0 k j)
      · rw [if_pos g]
        refine Or.inr ⟨j, ⟨h0, by omega⟩, rfl, fun q q1 q2 => ?_⟩
        by_cases e : q = j
        · rw [e]; exact Int.le_refl _
        · have := b q q1 (by omega); omega
      · rw [if_neg g]
        refine Or.inr ⟨p, ⟨hp.1, by omega⟩, a, fun q q1 q2 => ?_⟩
        by_cases e : q = j
        · rw [e]; omega
        · exact b q q1 (by omega)
theorem hm0_pos {k : Int} (h : R1 α β) (hk : 0 ≤ k ∧ k < 4) : 0 < hm α k 0 ↔ 0 ≤ lof β 0 k := by
  have e := h.hmq hk (w := 0) (by decide)
  constructor
  · intro g
    by_cases q : 0 ≤ lof β 0 k
    · exact q
    · exfalso
      have n := (lof_AM (σ := β) (b := 0) (k := k)).neg (by omega)
      have z : cn (fun y => kq β 0 k y) 16 = 0 := cn_0f (by decide) (fun y a b r => by unfold kq at r; rw [if_neg (by decide)] at r; exact n y a b r)
      omega
  · intro g
    have n := (lof_AM (σ := β) (b := 0) (k := k)).pos g
    by_cases q : 0 < hm α k 0
    · exact q
    · exfalso
      have r := hm_rg (σ := α) (k := k) (w := 0)
      have z := cn_step (P := fun y => kq β 0 k y) (Q := fun y => kq β 0 k y ∧ y ≠ lof β 0 k) (n := 16) (y := lof β 0 k) g n.1 (by show kq β 0 k (lof β 0 k); unfold kq; rw [if_neg (by decide)]; exact n.2) (fun z => z.2 rfl) (fun j a b c => ⟨fun z => z.1, fun z => ⟨z, c⟩⟩)
      have r2 := cn_rg (P := fun y => kq β 0 k y ∧ y ≠ lof β 0 k) (i := 16) (by decide)
      omega
theorem R1.sn (h : R1 α β) {k : Int} (hk : 0 ≤ k ∧ k < 4) : dtk α k = mso β k := by
  have hs := h.se hk
  have hd := h.d
  have am := mdr_AM h.g hk
  have hS := (h.g.kd hk).1
  have hy := fun y => h.ky hk (y := y)
  have d1 : MN (fun y => mS β 0 k y = 2) (fun y => mky β k y 4) (it (dtkF α k) (-1) 16) := by
    refine MN_loop (fun y a b c => ?_) (fun j v a b => ⟨fun c => ?_, fun c => ?_⟩)
    · have := h.po hk ⟨a, b⟩ (w := 4) (by decide)
      show 0 ≤ mky β k y 4
      unfold mky
      rw [if_neg (by decide), if_neg (by decide), if_neg (by omega), if_neg (by decide), if_neg (by decide)]
      split <;> omega
    · have g := h.ky hk ⟨a, b⟩
      unfold RK at g
      have e := h.po hk ⟨a, b⟩ (w := 4) (by decide)
      unfold pok at e
      rw [if_neg (by decide), if_neg (by decide), if_neg (by rw [g.1]; omega), if_neg (by decide), if_neg (by decide)] at e
      unfold dtkF
      rw [if_pos (by rw [g.1]; exact c), e]
    · have g := h.ky hk ⟨a, b⟩
      unfold RK at g
      unfold dtkF
      rw [if_neg (by rw [g.1]; exact c)]
  have d2 : MN (fun y => mS β 0 k y = 2) (fun y => mky β k y 4) (it (msoF β k) (-1) (mL β 0 k)) := by
    refine MN_pile h.g hk (fun y a b c => ?_) (fun p v a b => rfl)
    unfold mky
    rw [if_neg (by decide), if_neg (by decide), if_neg (by omega), if_neg (by decide), if_neg (by decide)]
    split <;> omega
  have hp := hm0_pos h hk
  unfold dtk mso
  by_cases c : 0 ≤ mdr β 0 k
  · rw [if_pos c]
    by_cases q : 0 < hm α k 0
    · rw [if_pos q]
    · rw [if_neg q]
      have n := am.pos c
      have nf := (lof_AM (σ := β) (b := 0) (k := k)).neg (by omega)
      have hr : mrp β 0 k (mdr β 0 k) := by
        rcases n.2 with r | r
        · exact absurd r (nf _ c n.1)
        · exact r
      rcases d1 with ⟨e1, e2⟩ | ⟨y, hyr, e1, e2, e3⟩
      · exact absurd hr.1 (e2 _ c n.1)
      · have z1 : mky β k y 4 ≤ mky β k (mdr β 0 k) 4 := e3 _ c n.1 hr.1
        have e2 : it (dtkF α k) (-1) 16 = mky β k y 4 := e2
        have e1 : mS β 0 k y = 2 := e1
        have z2 : mky β k (mdr β 0 k) 4 = 0 := by
          unfold mky
          rw [if_neg (by decide), if_neg (by decide), if_neg (by have := hr.1; omega), if_neg (by decide), if_neg (by decide)]
          have := hr.2
          split <;> omega
        have z3 : 0 ≤ mky β k y 4 := by
          unfold mky
          rw [if_neg (by decide), if_neg (by decide), if_neg (by omega), if_neg (by decide), if_neg (by decide)]
          split <;> omega
        rw [e2]
        omega
  · rw [if_neg c]
    have q : ¬ 0 < hm α k 0 := by
      intro q
      have g := hp.mp q
      have n := (lof_AM (σ := β) (b := 0) (k := k)).pos g
      exact am.neg (by omega) _ g n.1 (Or.inl n.2)
    rw [if_neg q]
    exact d1.eq d2
theorem R1.lo (h : R1 α β) {k : Int} (hk : 0 ≤ k ∧ k < 4) : lgs α k = mlo β k := by
  have hd := h.d
  have hp := hm0_pos h hk
  have hr : ∀ y, 0 ≤ y → y < 16 → mS β 0 k y = 2 → 0 ≤ mD β 0 - mT β 0 k y := fun y a b _ => by have := (h.g.ky hk ⟨a, b⟩).2.2; omega
  have d1 : MX (fun y => mS β 0 k y = 2) (fun y => mD β 0 - mT β 0 k y) (it (lgsF α k) (-1) 16) := by
    refine MX_loop hr (fun j v a b => ⟨fun c => ?_, fun c => ?_⟩)
    · have g := h.ky hk ⟨a, b⟩
      unfold RK at g
      unfold lgsF
      rw [if_pos (by rw [g.1]; exact c), hd, (g.2.2.2.2.1 c).1]
    · have g := h.ky hk ⟨a, b⟩
      unfold RK at g
      unfold lgsF
      rw [if_neg (by rw [g.1]; exact c)]
  have d2 : MX (fun y => mS β 0 k y = 2) (fun y => mD β 0 - mT β 0 k y) (it (mloF β k) (-1) (mL β 0 k)) := MX_pile h.g hk hr (fun p v a b => rfl)
  unfold lgs mlo
  rw [d1.eq d2]
  by_cases q : 0 < hm α k 0
  · rw [if_pos q, if_pos (hp.mp q)]
  · rw [if_neg q, if_neg (fun z => q (hp.mpr z))]
theorem R1.sc (h : R1 α β) : scz α = mfw β := by
  have n : ∀ k, 0 ≤ k ∧ k < 4 → hm α k 0 + hrp α k = kin β k 0 + kin β k 4 := fun k hk => by rw [h.hmk hk (by decide), h.hr hk]
  have u : kin β 0 0 + kin β 0 4 ≤ 16 := by
    rw [kin_k (by decide), kin_k (by decide)]
    refine cn_disj (by decide) (fun j a b => ?_)
    unfold kq at a b
    rw [if_neg (by decide)] at a
    rw [if_pos rfl] at b
    have := b.1
    omega
  have n0 := n 0 (by decide)
  have n1 := n 1 (by decide)
  have n2 := n 2 (by decide)
  have n3 := n 3 (by decide)
  have e3 : it (mfwF β) 0 3 = mfwF β 2 (mfwF β 1 (mfwF β 0 0)) := rfl
  unfold scz mfw
  rw [it_4, e3]
  have s0 : sczF α 0 (0, 17) = (0, kin β 0 0 + kin β 0 4) := by unfold sczF; rw [n0]; exact if_pos (by show _ < (17 : Int); omega)
  have m0 : mfwF β 0 0 = if kin β 1 0 + kin β 1 4 < kin β 0 0 + kin β 0 4 then 1 else 0 := rfl
  have s1 : ∀ a b : Int, sczF α 1 (a, b) = if kin β 1 0 + kin β 1 4 < b then (1, kin β 1 0 + kin β 1 4) else (a, b) := fun a b => by unfold sczF; rw [n1]
  have s2 : ∀ a b : Int, sczF α 2 (a, b) = if kin β 2 0 + kin β 2 4 < b then (2, kin β 2 0 + kin β 2 4) else (a, b) := fun a b => by unfold sczF; rw [n2]
  have s3 : ∀ a b : Int, sczF α 3 (a, b) = if kin β 3 0 + kin β 3 4 < b then (3, kin β 3 0 + kin β 3 4) else (a, b) := fun a b => by unfold sczF; rw [n3]
  have m1 : ∀ v, mfwF β 1 v = if kin β 2 0 + kin β 2 4 < kin β v 0 + kin β v 4 then 2 else v := fun v => rfl
  have m2 : ∀ v, mfwF β 2 v = if kin β 3 0 + kin β 3 4 < kin β v 0 + kin β v 4 then 3 else v := fun v => rfl
  rw [s0, s1, m0]
  by_cases c1 : kin β 1 0 + kin β 1 4 < kin β 0 0 + kin β 0 4
  · rw [if_pos c1, if_pos c1, s2, m1]
    by_cases c2 : kin β 2 0 + kin β 2 4 < kin β 1 0 + kin β 1 4
    · rw [if_pos c2, if_pos c2, s3, m2]
      by_cases c3 : kin β 3 0 + kin β 3 4 < kin β 2 0 + kin β 2 4
      · rw [if_pos c3, if_pos c3]
      · rw [if_neg c3, if_neg c3]
    · rw [if_neg c2, if_neg c2, s3, m2]
      by_cases c3 : kin β 3 0 + kin β 3 4 < kin β 1 0 + kin β 1 4
      · rw [if_pos c3, if_pos c3]
      · rw [if_neg c3, if_neg c3]
  · rw [if_neg c1, if_neg c1, s2, m1]
    by_cases c2 : kin β 2 0 + kin β 2 4 < kin β 0 0 + kin β 0 4
    · rw [if_pos c2, if_pos c2, s3, m2]
      by_cases c3 : kin β 3 0 + kin β 3 4 < kin β 2 0 + kin β 2 4
      · rw [if_pos c3, if_pos c3]
      · rw [if_neg c3, if_neg c3]
    · rw [if_neg c2, if_neg c2, s3, m2]
      by_cases c3 : kin β 3 0 + kin β 3 4 < kin β 0 0 + kin β 0 4
      · rw [if_pos c3, if_pos c3]
      · rw [if_neg c3, if_neg c3]
/-- rows that ask one after the other: keys taken, and a copy of the state -/
def OR (β : Mem) (k : Int) (t : Nat) (μ : Mem) : Prop := (mRu μ 2619 = mRu β 0 ∧ mD μ 2619 = mD β 0 ∧ mSe μ 2619 k = mSe β 0 k) ∧ ∀ y, 0 ≤ y ∧ y < 16 → (t.testBit y.toNat = true → mS μ 2619 k y = 1) ∧ (t.testBit y.toNat = false → mS μ 2619 k y = mS β 0 k y ∧ mR μ 2619 k y = mR β 0 k y ∧ mT μ 2619 k y = mT β 0 k y ∧ ∀ z, 0 ≤ z ∧ z < 16 → t.testBit z.toNat = false → mS β 0 k y = 2 → mS β 0 k z = 2 → plc β 0 k y < plc β 0 k z → plc μ 2619 k y < plc μ 2619 k z)
theorem OR.cg {μ : Mem} {k y : Int} {t : Nat} (h : OR β k t μ) (hy : 0 ≤ y ∧ y < 16) : mcg μ 2619 k y ↔ t.testBit y.toNat = false ∧ mcg β 0 k y := by
  obtain ⟨⟨h1, h2, h3⟩, h4⟩ := h
  have g := h4 y hy
  constructor
  · intro q
    have q2 := mcg_2 q
    cases e : t.testBit y.toNat with
    | true => have := g.1 e; omega
    | false =>
      have r := g.2 e
      refine ⟨rfl, ?_⟩
      rcases q with q | q
      · exact Or.inl (by rw [← r.1]; exact q)
      · exact Or.inr ⟨by rw [← r.1]; exact q.1, by have := q.2; rw [h3, h2, r.2.2.1] at this; exact this⟩
  · intro q
    have r := g.2 q.1
    rcases q.2 with w | w
    · exact Or.inl (by rw [r.1]; exact w)
    · exact Or.inr ⟨by rw [r.1]; exact w.1, by rw [h3, h2, r.2.2.1]; exact w.2⟩
theorem mrk_0 {σ : Mem} {b k y : Int} (h : mS σ b k y = 0) : mrk σ b k y = if mRu σ b = 0 then y else if mRu σ b = 1 then 16 + y else if mRu σ b = 2 then y else mR σ b k y * 16 + y := by unfold mrk; rw [if_pos h, if_pos h]
theorem mrk_2 {σ : Mem} {b k y : Int} (h : mS σ b k y = 2) : mrk σ b k y = if mRu σ b = 0 then 16 + plc σ b k y else if mRu σ b = 1 then plc σ b k y else if mRu σ b = 2 then y else mR σ b k y * 16 + y := by
  have n : ¬ mS σ b k y = 0 := by omega
  unfold mrk; rw [if_neg n, if_neg n]
theorem ru_mono {r a b c d a' b' c' d' A B C D A' B' C' D' : Int} (h1 : a < a' → A < A') (h2 : b < b' → B < B') (h3 : c < c' → C < C') (h4 : d < d' → D < D') (h : (if r = 0 then a else if r = 1 then b else if r = 2 then c else d) < (if r = 0 then a' else if r = 1 then b' else if r = 2 then c' else d')) : (if r = 0 then A else if r = 1 then B else if r = 2 then C else D) < (if r = 0 then A' else if r = 1 then B' else if r = 2 then C' else D') := by
  by_cases r0 : r = 0
  · rw [if_pos r0, if_pos r0] at h ⊢; exact h1 h
  · rw [if_neg r0, if_neg r0] at h ⊢
    by_cases r1 : r = 1
    · rw [if_pos r1, if_pos r1] at h ⊢; exact h2 h
    · rw [if_neg r1, if_neg r1] at h ⊢
      by_cases r2 : r = 2
      · rw [if_pos r2, if_pos r2] at h ⊢; exact h3 h
      · rw [if_neg r2, if_neg r2] at h ⊢; exact h4 h
theorem OR.dr {μ : Mem} {k N : Int} {t : Nat} (h : R1 α β) (hO : OR β k t μ) (hG : SG μ 2619 N) (hk : 0 ≤ k ∧ k < 4) : drw α k (α 14 0) t = mdr μ 2619 k := by
  refine (drw_AM (t := t) (h.inj hk)).eq (mdr_AM hG hk) (fun y a b => ?_) (fun y z hy hz h1 h2 hlt => ?_)
  · rw [hO.cg ⟨a, b⟩, h.cg hk ⟨a, b⟩]
  · have g1 := (h.cg hk hy).mp h1.2
    have g2 := (h.cg hk hz).mp h2.2
    have e1 := h.rke hk hy g1
    have e2 := h.rke hk hz g2
    have hlt : rk α k y (α 14 0) < rk α k z (α 14 0) := hlt
    rw [e1, e2] at hlt
    have s1 := (hO.2 y hy).2 h1.1
    have s2 := (hO.2 z hz).2 h2.1
    have p1 := mcg_2 g1
    have p2 := mcg_2 g2
    have hL := (hG.kd hk).2
    have hLb := (h.g.kd hk).2
    have q1 := plc_rg (σ := μ) (b := 2619) (k := k) (y := y) hL.1
    have q2 := plc_rg (σ := μ) (b := 2619) (k := k) (y := z) hL.1
    have b1 := plc_rg (σ := β) (b := 0) (k := k) (y := y) hLb.1
    have b2 := plc_rg (σ := β) (b := 0) (k := k) (y := z) hLb.1
    have o2 : mS β 0 k z = 2 → 0 ≤ plc β 0 k z ∧ 0 ≤ plc μ 2619 k z := fun w => ⟨(plc_ok h.g hk hz w).1.1, (plc_ok hG hk hz (by rw [s2.1]; exact w)).1.1⟩
    have o1 : mS β 0 k y = 2 → 0 ≤ plc β 0 k y ∧ 0 ≤ plc μ 2619 k y := fun w => ⟨(plc_ok h.g hk hy w).1.1, (plc_ok hG hk hy (by rw [s1.1]; exact w)).1.1⟩
    have om := s1.2.2.2 z hz h2.1
    show mrk μ 2619 k y < mrk μ 2619 k z
    rcases p1 with p1 | p1
    · rcases p2 with p2 | p2
      · rw [mrk_0 p1, mrk_0 p2] at hlt
        rw [mrk_0 (by rw [s1.1]; exact p1), mrk_0 (by rw [s2.1]; exact p2), hO.1.1, s1.2.1, s2.2.1]
        exact hlt
      · have := o2 p2
        rw [mrk_0 p1, mrk_2 p2] at hlt
        rw [mrk_0 (by rw [s1.1]; exact p1), mrk_2 (by rw [s2.1]; exact p2), hO.1.1, s1.2.1, s2.2.1]
        exact ru_mono (fun q => by omega) (fun q => by omega) (fun q => q) (fun q => q) hlt
    · have := o1 p1
      rcases p2 with p2 | p2
      · rw [mrk_2 p1, mrk_0 p2] at hlt
        rw [mrk_2 (by rw [s1.1]; exact p1), mrk_0 (by rw [s2.1]; exact p2), hO.1.1, s1.2.1, s2.2.1]
        exact ru_mono (fun q => by omega) (fun q => by omega) (fun q => q) (fun q => q) hlt
      · have om2 := om p1 p2
        rw [mrk_2 p1, mrk_2 p2] at hlt
        rw [mrk_2 (by rw [s1.1]; exact p1), mrk_2 (by rw [s2.1]; exact p2), hO.1.1, s1.2.1, s2.2.1]
        exact ru_mono (fun q => by have := om2 (by omega); omega) (fun q => om2 q) (fun q => q) (fun q => q) hlt
theorem tb_or {t : Nat} {a y : Int} (ha : 0 ≤ a) (hy : 0 ≤ y) : (t ||| 2 ^ a.toNat).testBit y.toNat = (t.testBit y.toNat || decide (a = y)) := by
  rw [Nat.testBit_or, Nat.testBit_two_pow]
  congr 1
  exact decide_eq_decide.mpr (by omega)
theorem OR.next {μ : Mem} {k N a : Int} {t : Nat} (hO : OR β k t μ) (hG : SG μ 2619 N) (hN : N < 1000) (hk : 0 ≤ k ∧ k < 4) (ha : 0 ≤ a ∧ a < 16) (hc : mcg μ 2619 k a) : OR β k (t ||| 2 ^ a.toNat) (mgiv μ 2619 k a) := by
  have o := fun j q => mgiv_o (j := j) hG hk ha q
  have G2 := SG.giv hG hk ha hN
  refine ⟨⟨?_, ?_, ?_⟩, fun y hy => ⟨fun e => ?_, fun e => ?_⟩⟩
  · rw [show mRu (mgiv μ 2619 k a) 2619 = mRu μ 2619 from o _ (Or.inl (by omega))]; exact hO.1.1
  · rw [show mD (mgiv μ 2619 k a) 2619 = mD μ 2619 from o _ (Or.inl (by omega))]; exact hO.1.2.1
  · rw [show mSe (mgiv μ 2619 k a) 2619 k = mSe μ 2619 k from o _ (Or.inl (by omega))]; exact hO.1.2.2
  · rw [mgiv_S hG hk ha hk hy]
    by_cases q : y = a
    · rw [if_pos ⟨rfl, q⟩]
    · rw [if_neg (fun z => q z.2)]
      rw [tb_or ha.1 hy.1, decide_eq_false (fun z => q z.symm), Bool.or_false] at e
      exact (hO.2 y hy).1 e
  · rw [tb_or ha.1 hy.1, Bool.or_eq_false_iff] at e
    have q : ¬ y = a := fun z => by have := e.2; rw [decide_eq_true z.symm] at this; cases this
    have s := (hO.2 y hy).2 e.1
    rw [mgiv_S hG hk ha hk hy, if_neg (fun z => q z.2), mgiv_R hG hk ha hk hy, if_neg (fun z => q z.2), show mT (mgiv μ 2619 k a) 2619 k y = mT μ 2619 k y from o _ (Or.inr (Or.inr (Or.inr ⟨k, y, hk, hy, rfl⟩)))]
    refine ⟨s.1, s.2.1, s.2.2.1, fun z hz ez h1 h2 hlt => ?_⟩
    rw [tb_or ha.1 hz.1, Bool.or_eq_false_iff] at ez
    have qz : ¬ z = a := fun w => by have := ez.2; rw [decide_eq_true w.symm] at this; cases this
    have sz := (hO.2 z hz).2 ez.1
    have lt := s.2.2.2 z hz ez.1 h1 h2 hlt
    rw [plc_take (τ := mgiv μ 2619 k a) hG hk ha hk hy (G2.pk hk) (by rw [s.1]; exact h1) (fun w => q w.2) (mgiv_L hG hk ha hk) (fun w hw => mgiv_P hG hk ha hk hw), plc_take (τ := mgiv μ 2619 k a) hG hk ha hk hz (G2.pk hk) (by rw [sz.1]; exact h2) (fun w => qz w.2) (mgiv_L hG hk ha hk) (fun w hw => mgiv_P hG hk ha hk hw)]
    have ny : mS μ 2619 k a = 2 → plc μ 2619 k y ≠ plc μ 2619 k a := fun w => plc_ne hG hk hy ha (by rw [s.1]; exact h1) w q
    have nz : mS μ 2619 k a = 2 → plc μ 2619 k z ≠ plc μ 2619 k a := fun w => plc_ne hG hk hz ha (by rw [sz.1]; exact h2) w qz
    by_cases w : mS μ 2619 k a = 2
    · have := ny w
      have := nz w
      by_cases c1 : plc μ 2619 k a < plc μ 2619 k y
      · rw [if_pos ⟨⟨rfl, w⟩, c1⟩, if_pos ⟨⟨rfl, w⟩, by omega⟩]; omega
      · rw [if_neg (fun v => c1 v.2)]
        split <;> omega
    · rw [if_neg (fun v => w v.1.2), if_neg (fun v => w v.1.2)]; exact lt
theorem OR.zero (h : R1 α β) {k : Int} (hk : 0 ≤ k ∧ k < 4) : OR β k 0 (sgc β 0 9 291) := by
  have q : ∀ i j, i = 2619 + (j - 0) → 0 ≤ j → j < 291 → sgc β 0 9 291 134 i = β 134 j := fun i j a c d => by rw [a, sgc_in (by omega)]; exact m_at (by omega)
  have hL := (h.g.kd hk).2
  have hp : ∀ y, plc (sgc β 0 9 291) 2619 k y = plc β 0 k y := fun y => plc_m (q _ _ (by omega) (by omega) (by omega)) hL.1 (fun p a b => q _ _ (by omega) (by omega) (by omega))
  refine ⟨⟨q _ _ (by omega) (by omega) (by omega), q _ _ (by omega) (by omega) (by omega), q _ _ (by omega) (by omega) (by omega)⟩, fun y hy => ⟨fun e => ?_, fun _ => ⟨q _ _ (by omega) (by omega) (by omega), q _ _ (by omega) (by omega) (by omega), q _ _ (by omega) (by omega) (by omega), fun z hz _ _ _ hlt => by rw [hp, hp]; exact hlt⟩⟩⟩
  rw [Nat.zero_testBit] at e
  cases e
theorem R1.co (h : R1 α β) {k n : Int} (hk : 0 ≤ k ∧ k < 4) (hn : 0 ≤ n ∧ n ≤ 16) : kor α k n = mcR β k n ∧ (∀ c j, c ≠ 134 ∨ j < 2619 → (mcs β k n).1 c j = β c j) := by
  have key : ∀ d : Nat, (d : Int) ≤ 16 → ((it (korF α k) (0, -1) d).2 = (mcs β k d).2 ∧ ((mcs β k d).2 = -2 ∨ OR β k (it (korF α k) (0, -1) d).1 (mcs β k d).1)) ∧ SG (mcs β k d).1 2619 (9 + d) ∧ ∀ c j, c ≠ 134 ∨ j < 2619 → (mcs β k d).1 c j = β c j := by
    intro d
    induction d with
    | zero => exact fun _ => ⟨⟨rfl, Or.inr (OR.zero h hk)⟩, h.g.sg, fun c j q => by show sgc β 0 9 291 c j = _; unfold sgc; rw [if_neg (by omega)]⟩
    | succ d ih =>
      intro hd
      obtain ⟨⟨i1, i2⟩, i3, i4⟩ := ih (by omega)
      have e1 : it (korF α k) (0, -1) ((d + 1 : Nat) : Int) = korF α k d (it (korF α k) (0, -1) d) := it_s (i := (d : Int)) (by omega)
      have e2 : mcs β k ((d + 1 : Nat) : Int) = mcsF k d (mcs β k d) := mcs_s (i := (d : Int)) (by omega)
      rw [e1, e2]
      generalize it (korF α k) (0, -1) (d : Int) = v at i1 i2 ⊢
      generalize mcs β k (d : Int) = w at i1 i2 i3 i4 ⊢
      unfold korF mcsF
      by_cases q : w.2 = -2
      · rw [if_pos (by rw [i1]; exact q), if_pos q]
        exact ⟨⟨i1, Or.inl q⟩, i3.le (by omega) (by omega), i4⟩
      · have hO : OR β k v.1 w.1 := by
          rcases i2 with i2 | i2
          · exact absurd i2 q
          · exact i2
        have hdr := OR.dr h hO i3 hk
        have hrg := mdr_rg i3 hk
        rw [if_neg (by rw [i1]; exact q), if_neg q, hdr]
        by_cases c : mdr w.1 2619 k < 0
        · rw [if_pos (by omega), if_pos c]
          exact ⟨⟨rfl, Or.inl rfl⟩, i3.le (by omega) (by omega), i4⟩
        · rw [if_neg (by omega), if_neg c]
          have am := (mdr_AM i3 hk).pos (by omega)
          refine ⟨⟨rfl, Or.inr (hO.next i3 (by omega) hk ⟨by omega, am.1⟩ am.2)⟩, ?_, fun c' j hq => ?_⟩
          · have := SG.giv i3 hk (y := mdr w.1 2619 k) ⟨by omega, am.1⟩ (by omega)
            rw [show (9 : Int) + ((d + 1 : Nat) : Int) = 9 + d + 1 by omega]
            exact this
          · rw [← i4 c' j hq]
            by_cases z : c' = 134
            · subst z
              exact mgiv_o i3 hk ⟨by omega, am.1⟩ (Or.inr (Or.inr (Or.inl (by omega))))
            · have hL := (i3.kd hk).2
              show mgiv w.1 2619 k (mdr w.1 2619 k) c' j = _
              unfold mgiv
              rw [up_ap, if_neg (fun y => z y.1), up_ap, if_neg (fun y => z y.1), up_ap, if_neg (fun y => z y.1)]
              unfold mgv0 mtak
              split
              · unfold shl; rw [if_neg (fun y => z y.1), up_ap, if_neg (fun y => z y.1)]
              · rfl
  have k1 := key n.toNat (by omega)
  rw [show ((n.toNat : Nat) : Int) = n by omega] at k1
  refine ⟨?_, k1.2.2⟩
  unfold kor mcR
  rw [k1.1.1]
end LOOKS
