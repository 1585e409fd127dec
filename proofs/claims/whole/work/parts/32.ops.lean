/-! what is done, done by both, keeps it -/
theorem SG.tight {σ : Mem} {b M N : Int} (h : SG σ b M) (hN : 0 ≤ N ∧ N ≤ 1000) (hr : ∀ k y, 0 ≤ k ∧ k < 4 → 0 ≤ y ∧ y < 16 → mR σ b k y ≤ N) : SG σ b N := by
  obtain ⟨g0, g1, g2, g3, g4, g5⟩ := h
  refine ⟨by omega, g1, g2, g3, g4, fun k y hk hy => ?_⟩
  have := g5 k y hk hy
  have := hr k y hk hy
  omega
theorem nx {k k' y y' : Int} (hy : 0 ≤ y ∧ y < 16) (hy' : 0 ≤ y' ∧ y' < 16) : k' * 16 + y' = k * 16 + y ↔ k' = k ∧ y' = y := by omega
theorem tko_6 {α : Mem} {k y k' y' : Int} (hk : 0 ≤ k ∧ k < 4) (hk' : 0 ≤ k' ∧ k' < 4) (hy' : 0 ≤ y' ∧ y' < 16) : tko α k y 6 (k' * 16 + y') = if α 4 (k * 16 + y) = 2 ∧ k' = k ∧ α 6 (k * 16 + y) < α 6 (k' * 16 + y') then wr (α 6 (k' * 16 + y') - 1) else α 6 (k' * 16 + y') := by
  unfold tko
  by_cases h : α 4 (k * 16 + y) = 2
  · rw [if_pos h]
    have e : dec6 α (k * 16) (k * 16 + 16) (α 6 (k * 16 + y)) 6 (k' * 16 + y') = if (6 : Nat) = 6 ∧ k * 16 ≤ k' * 16 + y' ∧ k' * 16 + y' < k * 16 + 16 ∧ α 6 (k * 16 + y) < α 6 (k' * 16 + y') then wr (α 6 (k' * 16 + y') - 1) else α 6 (k' * 16 + y') := rfl
    rw [e]
    by_cases g : k' = k ∧ α 6 (k * 16 + y) < α 6 (k' * 16 + y')
    · rw [if_pos ⟨rfl, by omega, by omega, g.2⟩, if_pos ⟨h, g⟩]
    · rw [if_neg (fun q => g ⟨by omega, q.2.2.2⟩), if_neg (fun q => g q.2)]
  · rw [if_neg h, if_neg (fun q => h q.1)]
section OPS
variable {α β : Mem}
/-- the places of the keys left when one is taken out of its pile -/
theorem plc_take {τ σ : Mem} {b N k y k' y' : Int} (hG : SG σ b N) (hk : 0 ≤ k ∧ k < 4) (hy : 0 ≤ y ∧ y < 16) (hk' : 0 ≤ k' ∧ k' < 4) (hy' : 0 ≤ y' ∧ y' < 16) (hPK : PK (mL τ b k') (mP τ b k') (mS τ b k')) (h2' : mS σ b k' y' = 2) (ne : ¬ (k' = k ∧ y' = y))
    (hL : mL τ b k' = if k' = k ∧ mS σ b k y = 2 then mL σ b k - 1 else mL σ b k') (hP : ∀ q, 0 ≤ q ∧ q < 16 → mP τ b k' q = if k' = k ∧ mS σ b k y = 2 ∧ plc σ b k y ≤ q ∧ q < mL σ b k - 1 then mP σ b k (q + 1) else mP σ b k' q) :
    plc τ b k' y' = if (k' = k ∧ mS σ b k y = 2) ∧ plc σ b k y < plc σ b k' y' then plc σ b k' y' - 1 else plc σ b k' y' := by
  have g' := plc_ok hG hk' hy' h2'
  have hr := (hG.kd hk').2
  by_cases c : k' = k ∧ mS σ b k y = 2
  · obtain ⟨rfl, h2⟩ := c
    have g := plc_ok hG hk' hy h2
    have ne2 := plc_ne hG hk' hy' hy h2' h2 (fun e => ne ⟨rfl, e⟩)
    rw [if_pos ⟨rfl, h2⟩] at hL
    by_cases hlt : plc σ b k' y < plc σ b k' y'
    · rw [if_pos ⟨⟨rfl, h2⟩, hlt⟩]
      refine plc_at hPK ⟨by omega, by omega⟩ ?_
      rw [hP _ ⟨by omega, by omega⟩, if_pos ⟨rfl, h2, by omega, by omega⟩, show plc σ b k' y' - 1 + 1 = plc σ b k' y' by omega]
      exact g'.2
    · rw [if_neg (fun q => hlt q.2)]
      refine plc_at hPK ⟨by omega, by omega⟩ ?_
      rw [hP _ ⟨by omega, by omega⟩, if_neg (fun q => by omega)]
      exact g'.2
  · rw [if_neg c] at hL
    rw [if_neg (fun q => c q.1)]
    refine plc_at hPK ⟨by omega, by omega⟩ ?_
    rw [hP _ ⟨by omega, by omega⟩, if_neg (fun q => c ⟨q.1, q.2.1⟩)]
    exact g'.2
theorem mgiv_268 {σ : Mem} {N k y k' : Int} (hG : SG σ 0 N) (hk : 0 ≤ k ∧ k < 4) (hy : 0 ≤ y ∧ y < 16) (hk' : 0 ≤ k' ∧ k' < 4) : mgiv σ 0 k y 134 (268 + k') = if k' = k then wr (σ 134 (268 + k) + 1) else σ 134 (268 + k') := by
  unfold mgiv
  rw [up_ap]
  by_cases g : k' = k
  · rw [if_pos (by omega), if_pos g, show (0 : Int) + 268 + k = 268 + k by omega]
  · rw [if_neg (by omega), if_neg g, up_ap, if_neg (by omega), up_ap, if_neg (by omega), mgv0_f hG hk hy (by omega) (by omega)]
theorem R1.gvx (h : R1 α β) {k y : Int} (hk : 0 ≤ k ∧ k < 4) (hy : 0 ≤ y ∧ y < 16) (hc : mcg β 0 k y) : R1 (gvk α k y) (mgiv β 0 k y) := by
  have G := h.g
  have o := fun j q => mgiv_o (j := j) G hk hy q
  have e : ∀ c, c ≠ 4 → c ≠ 5 → c ≠ 6 → c ≠ 9 → gvk α k y c = α c := fun c a4 a5 a6 a9 => by unfold gvk; rw [up_o a9, giv_o a6 a5 a4]
  have e4 : ∀ i, gvk α k y 4 i = if i = k * 16 + y then 1 else α 4 i := fun i => by
    unfold gvk giv; rw [up_o (by decide), up_ap]; by_cases q : i = k * 16 + y
    · rw [if_pos ⟨rfl, q⟩, if_pos q]
    · rw [if_neg (fun z => q z.2), if_neg q, up_o (by decide), tko_o (by decide)]
  have e5 : ∀ i, gvk α k y 5 i = if i = k * 16 + y then α 5 (k * 16 + y) + 1 else α 5 i := fun i => by
    unfold gvk giv; rw [up_o (by decide), up_o (by decide), up_ap]; by_cases q : i = k * 16 + y
    · rw [if_pos ⟨rfl, q⟩, if_pos q]
    · rw [if_neg (fun z => q z.2), if_neg q, tko_o (by decide)]
  have e6 : ∀ i, gvk α k y 6 i = tko α k y 6 i := fun i => by unfold gvk giv; rw [up_o (by decide), up_o (by decide), up_o (by decide)]
  have e9 : ∀ i, gvk α k y 9 i = if i = k then wr (α 9 k + 1) else α 9 i := fun i => by
    unfold gvk; rw [up_ap]; by_cases q : i = k
    · rw [if_pos ⟨rfl, q⟩, if_pos q]
    · rw [if_neg (fun z => q z.2), if_neg q, giv_o (by decide) (by decide) (by decide)]
  have G2 := SG.giv G hk hy (by decide)
  have eD : mD (mgiv β 0 k y) 0 = mD β 0 := o _ (Or.inl (by omega))
  have hx := h.x
  have gk := h.ky hk hy
  unfold RK at gk
  have hr9 : mR β 0 k y ≤ 8 := by
    rcases mcg_2 hc with q | q
    · have := gk.2.2.2.2.2 q; omega
    · exact (gk.2.2.2.2.1 q).2.1
  refine ⟨?_, ?_, fun k' hk' => ?_, fun k' y' hk' hy' => ?_, ⟨fun k' hk' => ?_, ?_, fun k' hk' => ?_, ?_⟩, G2.tight (by decide) (fun k' y' hk' hy' => ?_)⟩
  · rw [e 2 (by decide) (by decide) (by decide) (by decide), eD]; exact h.d
  · rw [e 14 (by decide) (by decide) (by decide) (by decide), show mRu (mgiv β 0 k y) 0 = mRu β 0 from o _ (Or.inl (by omega)), show mX (mgiv β 0 k y) 0 1 = mX β 0 1 from o _ (Or.inl (by omega)), show mX (mgiv β 0 k y) 0 2 = mX β 0 2 from o _ (Or.inl (by omega))]; exact hx
  · rw [e 3 (by decide) (by decide) (by decide) (by decide), show mSe (mgiv β 0 k y) 0 k' = mSe β 0 k' from o _ (Or.inl (by omega))]; exact h.se hk'
  · have g := h.ky hk' hy'
    unfold RK at g ⊢
    have n := nx (k := k) (k' := k') hy hy'
    rw [e4, e5, e6, e 7 (by decide) (by decide) (by decide) (by decide), e 2 (by decide) (by decide) (by decide) (by decide), mgiv_S G hk hy hk' hy', mgiv_R G hk hy hk' hy', show mT (mgiv β 0 k y) 0 k' y' = mT β 0 k' y' from o _ (Or.inr (Or.inr (Or.inr ⟨k', y', hk', hy', rfl⟩))), tko_6 hk hk' hy']
    by_cases q : k' = k ∧ y' = y
    · rw [if_pos (n.mpr q), if_pos q, if_pos (n.mpr q), if_pos q, if_neg (fun z => by rw [q.1, q.2] at z; omega)]
      refine ⟨rfl, by rw [gk.2.1], g.2.2.1, g.2.2.2.1, fun z => absurd z (by decide), fun z => absurd z (by decide)⟩
    · rw [if_neg (fun z => q (n.mp z)), if_neg q, if_neg (fun z => q (n.mp z)), if_neg q]
      refine ⟨g.1, g.2.1, ?_, g.2.2.2.1, fun z => ?_, g.2.2.2.2.2⟩
      · split
        · exact wr_rg _
        · exact g.2.2.1
      · have g5 := g.2.2.2.2.1 z
        have hp := plc_take (τ := mgiv β 0 k y) G hk hy hk' hy' (G2.pk hk') z q (mgiv_L G hk hy hk') (fun w hw => mgiv_P G hk hy hk' hw)
        refine ⟨g5.1, g5.2.1, ?_⟩
        rw [hp, g5.2.2]
        have pr := (plc_ok G hk' hy' z).1
        have hL := (G.kd hk').2
        by_cases h2 : mS β 0 k y = 2
        · rw [(gk.2.2.2.2.1 h2).2.2, gk.1]
          by_cases hlt : k' = k ∧ plc β 0 k y < plc β 0 k' y'
          · rw [if_pos ⟨h2, hlt⟩, if_pos ⟨⟨hlt.1, h2⟩, hlt.2⟩]
            exact wr_eq ⟨by omega, by omega⟩
          · rw [if_neg (fun w => hlt w.2), if_neg (fun w => hlt ⟨w.1.1, w.2⟩)]
        · rw [if_neg (fun w => h2 (by rw [← gk.1]; exact w.1)), if_neg (fun w => h2 w.1.2)]
  · have c := h.ct.1 k' hk'
    rw [e9, e 10 (by decide) (by decide) (by decide) (by decide), e 11 (by decide) (by decide) (by decide) (by decide), e 12 (by decide) (by decide) (by decide) (by decide), e 13 (by decide) (by decide) (by decide) (by decide), mgiv_268 G hk hy hk', o (272 + k') (Or.inr (Or.inl (by omega))), o (284 + k') (Or.inr (Or.inl (by omega))), o (276 + k') (Or.inr (Or.inl (by omega))), o (280 + k') (Or.inr (Or.inl (by omega)))]
    refine ⟨?_, c.2⟩
    rw [(h.ct.1 k hk).1, c.1]
  · rw [e 8 (by decide) (by decide) (by decide) (by decide), o 288 (Or.inr (Or.inl (by omega))), o 289 (Or.inr (Or.inl (by omega))), o 290 (Or.inr (Or.inl (by omega)))]; exact h.ct.2.1
  · rw [e 13 (by decide) (by decide) (by decide) (by decide)]; exact h.ct.2.2.1 k' hk'
  · rw [e 8 (by decide) (by decide) (by decide) (by decide)]; exact h.ct.2.2.2
  · rw [mgiv_R G hk hy hk' hy']
    have := G.ky hk' hy'
    split <;> omega
/-- only counters change -/
theorem R1.cnt {α' β' : Mem} (h : R1 α β) (ea : ∀ c, (2 ≤ c ∧ c < 8) ∨ c = 14 → α' c = α c) (eb : ∀ j, 0 ≤ j → j < 268 → β' 134 j = β 134 j) (hc : RC α' β') : R1 α' β' := by
  obtain ⟨h1, h2, h3, h4, h5, h6⟩ := h
  have eD : mD β' 0 = mD β 0 := eb _ (by omega) (by omega)
  refine ⟨by rw [ea 2 (by decide), eD]; exact h1, ?_, fun k hk => ?_, fun k y hk hy => ?_, hc, h6.cnt eb⟩
  · rw [ea 14 (by decide), show mRu β' 0 = mRu β 0 from eb _ (by omega) (by omega), show mX β' 0 1 = mX β 0 1 from eb _ (by omega) (by omega), show mX β' 0 2 = mX β 0 2 from eb _ (by omega) (by omega)]; exact h2
  · rw [ea 3 (by decide), show mSe β' 0 k = mSe β 0 k from eb _ (by omega) (by omega)]; exact h3 k hk
  · have g := h4 k y hk hy
    have hL := (h6.kd hk).2
    unfold RK at g ⊢
    rw [ea 4 (by decide), ea 5 (by decide), ea 6 (by decide), ea 7 (by decide), ea 2 (by decide), plc_m (τ := β') (σ := β) (b' := 0) (b := 0) (k := k) (y := y) (eb _ (by omega) (by omega)) hL.1 (fun p a b => eb _ (by omega) (by omega)),
      show mS β' 0 k y = mS β 0 k y from eb _ (by omega) (by omega), show mR β' 0 k y = mR β 0 k y from eb _ (by omega) (by omega), show mT β' 0 k y = mT β 0 k y from eb _ (by omega) (by omega)]
    exact g
theorem R1.wo (h : R1 α β) {k q : Int} (hk : 0 ≤ k ∧ k < 4) : R1 (nwo α k q) (mwo β k q) := by
  have c := h.ct
  have hc := c.1 k hk
  have hi := c.2.2.1 k hk
  have w13 : wr (β 134 (280 + k)) = β 134 (280 + k) := by rw [← hc.2.2.2.2]; exact wr_eq hi
  refine h.cnt (fun c' hc' => ?_) (fun j a b => mwo_o hk (by omega)) ⟨fun k' hk' => ?_, ?_, fun k' hk' => ?_, ?_⟩
  · unfold nwo; split
    · rw [up_o (by omega), up_o (by omega)]
    · rw [up_o (by omega)]
  · have c' := c.1 k' hk'
    have m1 : mwo β k q 134 (268 + k') = β 134 (268 + k') := mwo_o hk (by omega)
    have m2 : mwo β k q 134 (272 + k') = β 134 (272 + k') := mwo_o hk (by omega)
    have m3 : mwo β k q 134 (284 + k') = β 134 (284 + k') := mwo_o hk (by omega)
    have m4 : mwo β k q 134 (276 + k') = if k' = k then wr (β 134 (276 + k) + 1) else β 134 (276 + k') := by
      unfold mwo; rw [up_ap, if_neg (by omega), up_ap]; by_cases g : k' = k
      · rw [if_pos (by omega), if_pos g]
      · rw [if_neg (by omega), if_neg g]
    have m5 : mwo β k q 134 (280 + k') = if k' = k then wr (β 134 (280 + k) + bz (q = 2 ∨ q = 5)) else β 134 (280 + k') := by
      unfold mwo; rw [up_ap]; by_cases g : k' = k
      · rw [if_pos (by omega), if_pos g]
      · rw [if_neg (by omega), if_neg g, up_ap, if_neg (by omega)]
    rw [m1, m2, m3, m4, m5]
    unfold nwo
    by_cases hp : q = 2 ∨ q = 5
    · rw [if_pos hp, bz_t hp, up_o (by decide), up_o (by decide), up_o (by decide), up_o (by decide), up_o (by decide), up_o (by decide), up_o (by decide), up_ap, up_ap]
      by_cases g : k' = k
      · rw [if_pos (show (12 : Nat) = 12 ∧ k' = k from ⟨rfl, g⟩), if_pos (show (13 : Nat) = 13 ∧ k' = k from ⟨rfl, g⟩), if_pos g, if_pos g]
        exact ⟨c'.1, c'.2.1, c'.2.2.1, by rw [hc.2.2.2.1], by rw [hc.2.2.2.2]⟩
      · rw [if_neg (show ¬ ((12 : Nat) = 12 ∧ k' = k) from fun z => g z.2), if_neg (show ¬ ((13 : Nat) = 13 ∧ k' = k) from fun z => g z.2), if_neg g, if_neg g, up_o (by decide)]; exact c'
    · rw [if_neg hp, bz_f hp, up_o (show (9 : Nat) ≠ 12 by decide), up_o (show (10 : Nat) ≠ 12 by decide), up_o (show (11 : Nat) ≠ 12 by decide), up_o (show (13 : Nat) ≠ 12 by decide), up_ap]
      by_cases g : k' = k
      · rw [if_pos (show (12 : Nat) = 12 ∧ k' = k from ⟨rfl, g⟩), if_pos g, if_pos g, Int.add_zero, w13, g, hc.2.2.2.1]
        rw [g] at c'
        exact ⟨c'.1, c'.2.1, c'.2.2.1, rfl, c'.2.2.2.2⟩
      · rw [if_neg (show ¬ ((12 : Nat) = 12 ∧ k' = k) from fun z => g z.2), if_neg g, if_neg g]; exact c'
  · have e8 : nwo α k q 8 = α 8 := by
      unfold nwo; split
      · rw [up_o (by omega), up_o (by omega)]
      · rw [up_o (by omega)]
    rw [e8, mwo_o hk (by omega), mwo_o hk (by omega), mwo_o hk (by omega)]; exact c.2.1
  · unfold nwo; split
    · rw [up_ap]; split
      · exact wr_rg _
      · rw [up_o (by decide)]; exact c.2.2.1 k' hk'
    · rw [up_o (by decide)]; exact c.2.2.1 k' hk'
  · have e8 : nwo α k q 8 = α 8 := by
      unfold nwo; split
      · rw [up_o (by omega), up_o (by omega)]
      · rw [up_o (by omega)]
    rw [e8]; exact c.2.2.2
theorem R1.fo (h : R1 α β) {r : Int} : R1 (nfo α r) (mfo β r) := by
  have c := h.ct
  have b6 : wr (β 134 289) = β 134 289 := by rw [← c.2.1.2.1]; exact wr_eq c.2.2.2.1
  have b7 : wr (β 134 290) = β 134 290 := by rw [← c.2.1.2.2]; exact wr_eq c.2.2.2.2
  have mo : ∀ j, j ≠ 288 → j ≠ 289 → j ≠ 290 → mfo β r 134 j = β 134 j := fun j a1 a2 a3 => by unfold mfo; rw [up_ap, if_neg (by omega), up_ap, if_neg (by omega), up_ap, if_neg (by omega)]
  have co : ∀ c', c' ≠ 8 → nfo α r c' = α c' := fun c' hc => by funext j; simp only [nfo]; rw [if_neg (fun z => hc z.1), if_neg (fun z => hc z.1), if_neg (fun z => hc z.1)]
  have n5 : nfo α r 8 5 = wr (α 8 5 + 1) := by simp [nfo]
  have n6 : nfo α r 8 6 = if r = 2 then wr (α 8 6 + 1) else α 8 6 := by simp [nfo]
  have n7 : nfo α r 8 7 = if r = 1 then wr (α 8 7 + 1) else α 8 7 := by simp [nfo]
  have m5 : mfo β r 134 288 = wr (β 134 288 + 1) := by simp [mfo, up_ap]
  have m6 : mfo β r 134 289 = wr (β 134 289 + bz (r = 2)) := by simp [mfo, up_ap]
  have m7 : mfo β r 134 290 = wr (β 134 290 + bz (r = 1)) := by simp [mfo, up_ap]
  refine h.cnt (fun c' hc' => co c' (by omega)) (fun j a b => mo j (by omega) (by omega) (by omega)) ⟨fun k hk => ?_, ?_, fun k hk => ?_, ?_⟩
  · rw [co 9 (by decide), co 10 (by decide), co 11 (by decide), co 12 (by decide), co 13 (by decide), mo _ (by omega) (by omega) (by omega), mo _ (by omega) (by omega) (by omega), mo _ (by omega) (by omega) (by omega), mo _ (by omega) (by omega) (by omega), mo _ (by omega) (by omega) (by omega)]; exact c.1 k hk
  · rw [n5, n6, n7, m5, m6, m7, c.2.1.1, c.2.1.2.1, c.2.1.2.2]
    refine ⟨rfl, ?_, ?_⟩
    · by_cases g : r = 2
      · rw [if_pos g, bz_t g]
      · rw [if_neg g, bz_f g, Int.add_zero, b6]
    · by_cases g : r = 1
      · rw [if_pos g, bz_t g]
      · rw [if_neg g, bz_f g, Int.add_zero, b7]
  · rw [co 13 (by decide)]; exact c.2.2.1 k hk
  · rw [n6, n7]
    constructor
    · split
      · exact wr_rg _
      · exact c.2.2.2.1
    · split
      · exact wr_rg _
      · exact c.2.2.2.2
end OPS
