section OPS2
variable {α β : Mem}
/-- a row deleted -/
theorem lot_4 {α : Mem} {k y i : Int} : lot α k y 4 i = if i = k * 16 + y then 2 else α 4 i := by
  unfold lot
  rw [up_o (by decide), up_o (by decide), up_ap]
  by_cases q : i = k * 16 + y
  · rw [if_pos ⟨rfl, q⟩, if_pos q]
  · rw [if_neg (fun z => q z.2), if_neg q]; simp only [inc6]; rw [if_neg (fun z => absurd z.1 (by decide))]
theorem lot_6 {α : Mem} {k y k' y' : Int} (hy : 0 ≤ y ∧ y < 16) (hy' : 0 ≤ y' ∧ y' < 16) : lot α k y 6 (k' * 16 + y') = if k' = k ∧ y' = y then 0 else if k' = k then wr (α 6 (k' * 16 + y') + 1) else α 6 (k' * 16 + y') := by
  unfold lot
  rw [up_o (by decide), up_ap]
  by_cases q : k' = k ∧ y' = y
  · rw [if_pos ⟨rfl, (nx hy hy').mpr q⟩, if_pos q]
  · rw [if_neg (fun z => q ((nx hy hy').mp z.2)), if_neg q]
    have e : inc6 α (k * 16) (k * 16 + 16) 6 (k' * 16 + y') = if (6 : Nat) = 6 ∧ k * 16 ≤ k' * 16 + y' ∧ k' * 16 + y' < k * 16 + 16 then wr (α 6 (k' * 16 + y') + 1) else α 6 (k' * 16 + y') := rfl
    rw [up_o (by decide), e]
    by_cases g : k' = k
    · rw [if_pos ⟨rfl, by omega, by omega⟩, if_pos g]
    · rw [if_neg (fun z => g (by omega)), if_neg g]
theorem lot_7 {α : Mem} {k y i : Int} : lot α k y 7 i = if i = k * 16 + y then α 2 0 else α 7 i := by
  unfold lot
  rw [up_ap]
  by_cases q : i = k * 16 + y
  · rw [if_pos ⟨rfl, q⟩, if_pos q]
  · rw [if_neg (fun z => q z.2), if_neg q, up_o (by decide), up_o (by decide)]; simp only [inc6]; rw [if_neg (fun z => absurd z.1 (by decide))]
theorem lot_o {α : Mem} {k y : Int} {c : Nat} (h4 : c ≠ 4) (h6 : c ≠ 6) (h7 : c ≠ 7) : lot α k y c = α c := by
  unfold lot
  rw [up_o h7, up_o h6, up_o h4]
  funext j; simp only [inc6]; rw [if_neg (fun z => h6 z.1)]
theorem R1.dl (h : R1 α β) {k y : Int} (hk : 0 ≤ k ∧ k < 4) (hy : 0 ≤ y ∧ y < 16) (h1 : mS β 0 k y = 1) : R1 (dlr α k y) (mdl β k y) := by
  have G := h.g
  have hL15 := SG.not2 G hk hy (by omega)
  have hL : 0 ≤ mL β 0 k ∧ mL β 0 k ≤ 15 := ⟨(G.kd hk).2.1, hL15⟩
  have o := fun j a b => mdl_o (j := j) hk hy hL a b
  have G2 := G.dl hk hy h1
  have gk := h.ky hk hy
  unfold RK at gk
  have hx := h.x
  have hx1 := G.x.1
  have hd10 : ∀ c, c ≠ 10 → del10 α k c = α c := fun c hc => up_o hc
  -- the class's cells
  have e : ∀ c, c ≠ 4 → c ≠ 6 → c ≠ 7 → c ≠ 10 → dlr α k y c = α c := fun c a4 a6 a7 a10 => by
    unfold dlr; split
    · rw [up_o a4, hd10 c a10]
    · rw [lot_o a4 a6 a7, hd10 c a10]
  have e10 : dlr α k y 10 = fun i => if i = k then wr (α 10 k + 1) else α 10 i := by
    have q : del10 α k 10 = fun i => if i = k then wr (α 10 k + 1) else α 10 i := by unfold del10; rw [up_s]
    unfold dlr; split
    · rw [up_o (by decide), q]
    · rw [lot_o (by decide) (by decide) (by decide), q]
  have e5 : dlr α k y 5 = α 5 := e 5 (by decide) (by decide) (by decide) (by decide)
  have e2 : dlr α k y 2 = α 2 := e 2 (by decide) (by decide) (by decide) (by decide)
  have cond : α 14 1 ≤ α 5 (k * 16 + y) ↔ mX β 0 1 ≤ mR β 0 k y := by rw [hx.2.1, gk.2.1]
  have e4 : ∀ i, dlr α k y 4 i = if i = k * 16 + y then (if mX β 0 1 ≤ mR β 0 k y then 3 else 2) else α 4 i := fun i => by
    unfold dlr
    by_cases c : mX β 0 1 ≤ mR β 0 k y
    · rw [if_pos (cond.mpr c), up_ap, if_pos c]
      by_cases q : i = k * 16 + y
      · rw [if_pos ⟨rfl, q⟩, if_pos q]
      · rw [if_neg (fun z => q z.2), if_neg q, hd10 4 (by decide)]
    · rw [if_neg (fun z => c (cond.mp z)), lot_4, hd10 4 (by decide), if_neg c]
  have eD : mD (mdl β k y) 0 = mD β 0 := o _ (by omega) (by omega)
  refine ⟨?_, ?_, fun k' hk' => ?_, fun k' y' hk' hy' => ?_, ⟨fun k' hk' => ?_, ?_, fun k' hk' => ?_, ?_⟩, G2⟩
  · rw [e2, eD]; exact h.d
  · rw [e 14 (by decide) (by decide) (by decide) (by decide), show mRu (mdl β k y) 0 = mRu β 0 from o _ (by omega) (by omega), show mX (mdl β k y) 0 1 = mX β 0 1 from o _ (by omega) (by omega), show mX (mdl β k y) 0 2 = mX β 0 2 from o _ (by omega) (by omega)]; exact hx
  · rw [e 3 (by decide) (by decide) (by decide) (by decide), show mSe (mdl β k y) 0 k' = mSe β 0 k' from o _ (by omega) (by omega)]; exact h.se hk'
  · have g := h.ky hk' hy'
    have hdd := G.d
    have hday := h.d
    have n := nx (k := k) (k' := k') hy hy'
    have eR : mR (mdl β k y) 0 k' y' = mR β 0 k' y' := o _ (by omega) (by omega)
    unfold RK at g ⊢
    rw [e4, e5, e2, mdl_S hk hy hL hk' hy', eR, mdl_T hk hy hL hk' hy']
    by_cases c : mX β 0 1 ≤ mR β 0 k y
    · have e6 : dlr α k y 6 = α 6 := by unfold dlr; rw [if_pos (cond.mpr c), up_o (by decide), hd10 6 (by decide)]
      have e7 : dlr α k y 7 = α 7 := by unfold dlr; rw [if_pos (cond.mpr c), up_o (by decide), hd10 7 (by decide)]
      rw [e6, e7, if_pos c]
      by_cases q : k' = k ∧ y' = y
      · rw [if_pos (n.mpr q), if_pos q]
        exact ⟨rfl, g.2.1, g.2.2.1, g.2.2.2.1, fun z => absurd z (by decide), fun z => absurd z (by decide)⟩
      · rw [if_neg (fun z => q (n.mp z)), if_neg q, if_neg (fun z => q ⟨z.1, z.2.1⟩)]
        refine ⟨g.1, g.2.1, g.2.2.1, g.2.2.2.1, fun z => ?_, g.2.2.2.2.2⟩
        have g5 := g.2.2.2.2.1 z
        refine ⟨g5.1, g5.2.1, ?_⟩
        rw [g5.2.2]
        have hL' := (G.kd hk').2
        refine (plc_m (τ := mdl β k y) (σ := β) (b' := 0) (b := 0) (k := k') (y := y') ?_ hL'.1 (fun p a b => ?_)).symm
        · rw [mdl_L hk hy hL hk', if_neg (fun z => z.2 c)]
        · rw [mdl_P hk hy hL hk' ⟨a, by omega⟩ hL'.2 (by omega), if_neg (fun z => z.2 c)]
    · have e6 : dlr α k y 6 (k' * 16 + y') = if k' = k ∧ y' = y then 0 else if k' = k then wr (α 6 (k' * 16 + y') + 1) else α 6 (k' * 16 + y') := by unfold dlr; rw [if_neg (fun z => c (cond.mp z)), lot_6 hy hy', hd10 6 (by decide)]
      have e7 : dlr α k y 7 (k' * 16 + y') = if k' * 16 + y' = k * 16 + y then α 2 0 else α 7 (k' * 16 + y') := by unfold dlr; rw [if_neg (fun z => c (cond.mp z)), lot_7, hd10 7 (by decide), hd10 2 (by decide)]
      rw [e6, e7, if_neg c]
      have hL' := (G.kd hk').2
      by_cases q : k' = k ∧ y' = y
      · rw [if_pos (n.mpr q), if_pos q, if_pos q, if_pos (n.mpr q), if_pos ⟨q.1, q.2, c⟩]
        refine ⟨rfl, g.2.1, ⟨by decide, by decide⟩, ⟨by omega, by omega⟩, fun _ => ⟨h.d, ?_, ?_⟩, fun z => absurd z (by decide)⟩
        · rw [q.1, q.2]; omega
        · refine (plc_at (G2.pk hk') ⟨by decide, ?_⟩ ?_).symm
          · rw [mdl_L hk hy hL hk', if_pos ⟨q.1, c⟩]; omega
          · rw [mdl_P hk hy hL hk' (by omega) hL'.2 (by decide), if_pos ⟨q.1, c⟩, if_pos rfl]; exact q.2.symm
      · rw [if_neg (fun z => q (n.mp z)), if_neg q, if_neg q, if_neg (fun z => q (n.mp z)), if_neg (show ¬ (k' = k ∧ y' = y ∧ ¬ mX β 0 1 ≤ mR β 0 k y) from fun z => q ⟨z.1, z.2.1⟩)]
        refine ⟨g.1, g.2.1, ?_, g.2.2.2.1, fun z => ?_, g.2.2.2.2.2⟩
        · split
          · exact wr_rg _
          · exact g.2.2.1
        · have g5 := g.2.2.2.2.1 z
          have pr := plc_ok G hk' hy' z
          refine ⟨g5.1, g5.2.1, ?_⟩
          by_cases w : k' = k
          · rw [if_pos w, g5.2.2, wr_eq ⟨by omega, by omega⟩]
            refine (plc_at (G2.pk hk') ⟨by omega, ?_⟩ ?_).symm
            · rw [mdl_L hk hy hL hk', if_pos ⟨w, c⟩, ← w]; omega
            · rw [mdl_P hk hy hL hk' ⟨by omega, by omega⟩ hL'.2 (by have := w ▸ hL; omega), if_pos ⟨w, c⟩, if_neg (by omega), show plc β 0 k' y' + 1 - 1 = plc β 0 k' y' by omega]; exact pr.2
          · rw [if_neg w, g5.2.2]
            refine (plc_m (τ := mdl β k y) (σ := β) (b' := 0) (b := 0) (k := k') (y := y') ?_ hL'.1 (fun p a b => ?_)).symm
            · rw [mdl_L hk hy hL hk', if_neg (fun z => w z.1)]
            · rw [mdl_P hk hy hL hk' ⟨a, by omega⟩ hL'.2 (by omega), if_neg (fun z => w z.1)]
  · have c := h.ct.1 k' hk'
    have m272 : mdl β k y 134 (272 + k') = if k' = k then wr (β 134 (272 + k) + 1) else β 134 (272 + k') := by
      have q : mdl0 β k 134 (272 + k') = if k' = k then wr (β 134 (272 + k) + 1) else β 134 (272 + k') := by
        unfold mdl0; rw [up_ap]; by_cases g : k' = k
        · rw [if_pos (by omega), if_pos g]
        · rw [if_neg (by omega), if_neg g]
      unfold mdl; split
      · rw [up_ap, if_neg (by omega), q]
      · rw [up_ap, if_neg (by omega), up_ap, if_neg (by omega), shr_at (by omega)]
        unfold mdl1; rw [up_ap, if_neg (by omega), up_ap, if_neg (by omega), q]
    rw [e10, e 9 (by decide) (by decide) (by decide) (by decide), e 11 (by decide) (by decide) (by decide) (by decide), e 12 (by decide) (by decide) (by decide) (by decide), e 13 (by decide) (by decide) (by decide) (by decide), m272, o (268 + k') (by omega) (by omega), o (284 + k') (by omega) (by omega), o (276 + k') (by omega) (by omega), o (280 + k') (by omega) (by omega)]
    refine ⟨c.1, ?_, c.2.2⟩
    show (if k' = k then wr (α 10 k + 1) else α 10 k') = _
    rw [(h.ct.1 k hk).2.1, c.2.1]
  · rw [e 8 (by decide) (by decide) (by decide) (by decide), o 288 (by omega) (by omega), o 289 (by omega) (by omega), o 290 (by omega) (by omega)]; exact h.ct.2.1
  · rw [e 13 (by decide) (by decide) (by decide) (by decide)]; exact h.ct.2.2.1 k' hk'
  · rw [e 8 (by decide) (by decide) (by decide) (by decide)]; exact h.ct.2.2.2
/-- a row brought back -/
theorem R1.bk (h : R1 α β) {k y : Int} (hk : 0 ≤ k ∧ k < 4) (hy : 0 ≤ y ∧ y < 16) (h2 : mS β 0 k y = 2) : R1 (brb α k y) (mbk β k y) := by
  have G := h.g
  have o := fun j a b => mbk_o (j := j) G hk hy h2 a b
  have G2 := G.bk hk hy h2
  have gk := h.ky hk hy
  unfold RK at gk
  have g5k := gk.2.2.2.2.1 h2
  have hx := h.x
  have e : ∀ c, c ≠ 4 → c ≠ 6 → c ≠ 11 → brb α k y c = α c := fun c a4 a6 a11 => by unfold brb; rw [up_o a11, rev_o a6 a4]
  have e4 : ∀ i, brb α k y 4 i = if i = k * 16 + y then 1 else α 4 i := fun i => by
    unfold brb rev; rw [up_o (by decide), up_ap]; by_cases q : i = k * 16 + y
    · rw [if_pos ⟨rfl, q⟩, if_pos q]
    · rw [if_neg (fun z => q z.2), if_neg q, tko_o (by decide)]
  have e6 : ∀ i, brb α k y 6 i = tko α k y 6 i := fun i => by unfold brb rev; rw [up_o (by decide), up_o (by decide)]
  have e11 : ∀ i, brb α k y 11 i = if i = k then wr (α 11 k + 1) else α 11 i := fun i => by
    unfold brb; rw [up_ap]; by_cases q : i = k
    · rw [if_pos ⟨rfl, q⟩, if_pos q]
    · rw [if_neg (fun z => q z.2), if_neg q, rev_o (by decide) (by decide)]
  have eD : mD (mbk β k y) 0 = mD β 0 := o _ (by omega) (by omega)
  refine ⟨?_, ?_, fun k' hk' => ?_, fun k' y' hk' hy' => ?_, ⟨fun k' hk' => ?_, ?_, fun k' hk' => ?_, ?_⟩, G2⟩
  · rw [e 2 (by decide) (by decide) (by decide), eD]; exact h.d
  · rw [e 14 (by decide) (by decide) (by decide), show mRu (mbk β k y) 0 = mRu β 0 from o _ (by omega) (by omega), show mX (mbk β k y) 0 1 = mX β 0 1 from o _ (by omega) (by omega), show mX (mbk β k y) 0 2 = mX β 0 2 from o _ (by omega) (by omega)]; exact hx
  · rw [e 3 (by decide) (by decide) (by decide), show mSe (mbk β k y) 0 k' = mSe β 0 k' from o _ (by omega) (by omega)]; exact h.se hk'
  · have g := h.ky hk' hy'
    have n := nx (k := k) (k' := k') hy hy'
    have eR : mR (mbk β k y) 0 k' y' = mR β 0 k' y' := o _ (by omega) (by omega)
    have eT : mT (mbk β k y) 0 k' y' = mT β 0 k' y' := o _ (by omega) (by omega)
    unfold RK at g ⊢
    rw [e4, e 5 (by decide) (by decide) (by decide), e6, e 7 (by decide) (by decide) (by decide), e 2 (by decide) (by decide) (by decide), mbk_S G hk hy h2 hk' hy', eR, eT, tko_6 hk hk' hy']
    by_cases q : k' = k ∧ y' = y
    · rw [if_pos (n.mpr q), if_pos q, if_neg (fun z => by rw [q.1, q.2] at z; omega)]
      exact ⟨rfl, g.2.1, g.2.2.1, g.2.2.2.1, fun z => absurd z (by decide), fun z => absurd z (by decide)⟩
    · rw [if_neg (fun z => q (n.mp z)), if_neg q]
      refine ⟨g.1, g.2.1, ?_, g.2.2.2.1, fun z => ?_, g.2.2.2.2.2⟩
      · split
        · exact wr_rg _
        · exact g.2.2.1
      · have g5 := g.2.2.2.2.1 z
        have hp := plc_take (τ := mbk β k y) G hk hy hk' hy' (G2.pk hk') z q (by rw [mbk_L G hk hy h2 hk']; by_cases w : k' = k; rw [if_pos w, if_pos ⟨w, h2⟩]; rw [if_neg w, if_neg (fun z => w z.1)])
          (fun w hw => by
            rw [mbk_P G hk hy h2 hk' hw]
            by_cases u : k' = k ∧ plc β 0 k y ≤ w ∧ w < mL β 0 k - 1
            · rw [if_pos u, if_pos ⟨u.1, h2, u.2⟩]
            · rw [if_neg u, if_neg (fun z => u ⟨z.1, z.2.2⟩)])
        refine ⟨g5.1, g5.2.1, ?_⟩
        rw [hp, g5.2.2, g5k.2.2, gk.1]
        have pr := (plc_ok G hk' hy' z).1
        have hL := (G.kd hk').2
        by_cases hlt : k' = k ∧ plc β 0 k y < plc β 0 k' y'
        · rw [if_pos ⟨h2, hlt⟩, if_pos ⟨⟨hlt.1, h2⟩, hlt.2⟩]
          exact wr_eq ⟨by omega, by omega⟩
        · rw [if_neg (fun w => hlt w.2), if_neg (fun w => hlt ⟨w.1.1, w.2⟩)]
  · have c := h.ct.1 k' hk'
    have m284 : mbk β k y 134 (284 + k') = if k' = k then wr (β 134 (284 + k) + 1) else β 134 (284 + k') := by
      by_cases g : k' = k
      · rw [if_pos g]; unfold mbk; rw [up_ap, if_pos (by omega)]
      · rw [if_neg g]; exact o _ (by omega) (by omega)
    rw [e11, e 9 (by decide) (by decide) (by decide), e 10 (by decide) (by decide) (by decide), e 12 (by decide) (by decide) (by decide), e 13 (by decide) (by decide) (by decide), m284, o (268 + k') (by omega) (by omega), o (272 + k') (by omega) (by omega), o (276 + k') (by omega) (by omega), o (280 + k') (by omega) (by omega)]
    refine ⟨c.1, c.2.1, ?_, c.2.2.2⟩
    rw [(h.ct.1 k hk).2.2.1, c.2.2.1]
  · rw [e 8 (by decide) (by decide) (by decide), o 288 (by omega) (by omega), o 289 (by omega) (by omega), o 290 (by omega) (by omega)]; exact h.ct.2.1
  · rw [e 13 (by decide) (by decide) (by decide)]; exact h.ct.2.2.1 k' hk'
  · rw [e 8 (by decide) (by decide) (by decide)]; exact h.ct.2.2.2
/-- a pile turned -/
theorem R1.tu (h : R1 α β) {k : Int} (hk : 0 ≤ k ∧ k < 4) : R1 (tup α k) (mtu β k) := by
  have G := h.g
  have hL := (G.kd hk).2
  have o := fun j a => mtu_o (j := j) hk hL a
  have G2 := G.tu hk
  have hx := h.x
  have e : ∀ c, c ≠ 6 → tup α k c = α c := fun c hc => by funext j; unfold tup; simp only [flip6]; rw [if_neg (fun z => hc z.1)]
  have eD : mD (mtu β k) 0 = mD β 0 := o _ (by omega)
  refine ⟨?_, ?_, fun k' hk' => ?_, fun k' y' hk' hy' => ?_, ⟨fun k' hk' => ?_, ?_, fun k' hk' => ?_, ?_⟩, G2⟩
  · rw [e 2 (by decide), eD]; exact h.d
  · rw [e 14 (by decide), show mRu (mtu β k) 0 = mRu β 0 from o _ (by omega), show mX (mtu β k) 0 1 = mX β 0 1 from o _ (by omega), show mX (mtu β k) 0 2 = mX β 0 2 from o _ (by omega)]; exact hx
  · rw [e 3 (by decide), show mSe (mtu β k) 0 k' = mSe β 0 k' from o _ (by omega)]; exact h.se hk'
  · have g := h.ky hk' hy'
    have eS : mS (mtu β k) 0 k' y' = mS β 0 k' y' := o _ (by omega)
    have eR : mR (mtu β k) 0 k' y' = mR β 0 k' y' := o _ (by omega)
    have eT : mT (mtu β k) 0 k' y' = mT β 0 k' y' := o _ (by omega)
    have eL : mL (mtu β k) 0 k' = mL β 0 k' := o _ (by omega)
    have e6 : tup α k 6 (k' * 16 + y') = if k' = k then wr (mL β 0 k - 1 - α 6 (k' * 16 + y')) else α 6 (k' * 16 + y') := by
      have e : tup α k 6 (k' * 16 + y') = if (6 : Nat) = 6 ∧ k * 16 ≤ k' * 16 + y' ∧ k' * 16 + y' < k * 16 + 16 then wr (hm α k 2 - 1 - α 6 (k' * 16 + y')) else α 6 (k' * 16 + y') := rfl
      rw [e, h.hL hk]
      by_cases w : k' = k
      · rw [if_pos ⟨rfl, by omega, by omega⟩, if_pos w]
      · rw [if_neg (fun z => w (by omega)), if_neg w]
    unfold RK at g ⊢
    rw [e6, e 4 (by decide), e 5 (by decide), e 7 (by decide), e 2 (by decide), eS, eR, eT]
    refine ⟨g.1, g.2.1, ?_, g.2.2.2.1, fun z => ?_, g.2.2.2.2.2⟩
    · split
      · exact wr_rg _
      · exact g.2.2.1
    · have g5 := g.2.2.2.2.1 z
      have pr := plc_ok G hk' hy' z
      have hL' := (G.kd hk').2
      refine ⟨g5.1, g5.2.1, ?_⟩
      by_cases w : k' = k
      · subst w
        rw [if_pos rfl, g5.2.2, wr_eq ⟨by omega, by omega⟩]
        refine (plc_at (G2.pk hk') ⟨by omega, by rw [eL]; omega⟩ ?_).symm
        rw [mtu_P hk hL hk' ⟨by omega, by omega⟩, if_pos ⟨rfl, by omega⟩, show mL β 0 k' - 1 - (mL β 0 k' - 1 - plc β 0 k' y') = plc β 0 k' y' by omega]
        exact pr.2
      · rw [if_neg w, g5.2.2]
        exact (plc_m (τ := mtu β k) (σ := β) (b' := 0) (b := 0) (k := k') (y := y') eL hL'.1 (fun p a b => by rw [mtu_P hk hL hk' ⟨a, by omega⟩, if_neg (fun z => w z.1)])).symm
  · rw [e 9 (by decide), e 10 (by decide), e 11 (by decide), e 12 (by decide), e 13 (by decide), o _ (by omega), o _ (by omega), o _ (by omega), o _ (by omega), o _ (by omega)]; exact h.ct.1 k' hk'
  · rw [e 8 (by decide), o _ (by omega), o _ (by omega), o _ (by omega)]; exact h.ct.2.1
  · rw [e 13 (by decide)]; exact h.ct.2.2.1 k' hk'
  · rw [e 8 (by decide)]; exact h.ct.2.2.2
/-- a place of the first stretch that is no key's and no pile's -/
theorem R1.set1 {α' : Mem} (h : R1 α β) {i v : Int} (hi : 0 ≤ i ∧ i < 8) (G2 : SG (up β 134 i v) 0 9) (hd : α' 2 0 = mD (up β 134 i v) 0) (hdm : α 2 0 ≤ α' 2 0) (hx : α' 14 0 = mRu (up β 134 i v) 0 ∧ α' 14 1 = mX (up β 134 i v) 0 1 ∧ α' 14 2 = mX (up β 134 i v) 0 2) (hs : ∀ k, 0 ≤ k ∧ k < 4 → α' 3 k = mSe (up β 134 i v) 0 k) (e : ∀ c, (4 ≤ c ∧ c < 14) → α' c = α c) : R1 α' (up β 134 i v) := by
  have o : ∀ j, 8 ≤ j → up β 134 i v 134 j = β 134 j := fun j hj => by rw [up_ap, if_neg (by omega)]
  have G := h.g
  refine ⟨hd, hx, hs, fun k y hk hy => ?_, ⟨fun k hk => ?_, ?_, fun k hk => ?_, ?_⟩, G2⟩
  · have g := h.ky hk hy
    have hL' := (G.kd hk).2
    unfold RK at g ⊢
    rw [e 4 (by decide), e 5 (by decide), e 6 (by decide), e 7 (by decide), plc_m (τ := up β 134 i v) (σ := β) (b' := 0) (b := 0) (k := k) (y := y) (o _ (by omega)) hL'.1 (fun p a b => o _ (by omega)),
      show mS (up β 134 i v) 0 k y = mS β 0 k y from o _ (by omega), show mR (up β 134 i v) 0 k y = mR β 0 k y from o _ (by omega), show mT (up β 134 i v) 0 k y = mT β 0 k y from o _ (by omega)]
    exact ⟨g.1, g.2.1, g.2.2.1, ⟨g.2.2.2.1.1, by have := g.2.2.2.1.2; omega⟩, g.2.2.2.2⟩
  · rw [e 9 (by decide), e 10 (by decide), e 11 (by decide), e 12 (by decide), e 13 (by decide), o _ (by omega), o _ (by omega), o _ (by omega), o _ (by omega), o _ (by omega)]; exact h.ct.1 k hk
  · rw [e 8 (by decide), o _ (by omega), o _ (by omega), o _ (by omega)]; exact h.ct.2.1
  · rw [e 13 (by decide)]; exact h.ct.2.2.1 k hk
  · rw [e 8 (by decide)]; exact h.ct.2.2.2
theorem SG.up1 {σ : Mem} {N i v : Int} (h : SG σ 0 N) (hi : 0 ≤ i ∧ i < 8 ∧ i ≠ 3) (hv : (i = 0 → 0 ≤ v ∧ v ≤ 3) ∧ (i = 1 → 1 ≤ v ∧ v ≤ 9) ∧ (i = 2 → 0 ≤ v ∧ v ≤ 20) ∧ (4 ≤ i → 0 ≤ v ∧ v ≤ 99)) : SG (up σ 134 i v) 0 N := by
  obtain ⟨g0, g1, g2, g3, g4, g5⟩ := h
  have o : ∀ j, j ≠ i → up σ 134 i v 134 j = σ 134 j := fun j hj => by rw [up_ap, if_neg (by omega)]
  have s : up σ 134 i v 134 i = v := by rw [up_ap, if_pos ⟨rfl, rfl⟩]
  have eD : mD (up σ 134 i v) 0 = mD σ 0 := o _ (by omega)
  refine ⟨g0, ?_, ?_, ?_, fun k hk => ⟨?_, ?_⟩, fun k y hk hy => ?_⟩
  · by_cases q : i = 0
    · subst q
      have : mRu (up σ 134 0 v) 0 = v := s
      rw [this]; exact hv.1 rfl
    · rw [show mRu (up σ 134 i v) 0 = mRu σ 0 from o _ (by omega)]; exact g1
  · have a1 : 1 ≤ mX (up σ 134 i v) 0 1 ∧ mX (up σ 134 i v) 0 1 ≤ 9 := by
      by_cases q : i = 1
      · subst q
        have : mX (up σ 134 1 v) 0 1 = v := s
        rw [this]; exact hv.2.1 rfl
      · rw [show mX (up σ 134 i v) 0 1 = mX σ 0 1 from o _ (by omega)]; exact g2.1
    have a2 : 0 ≤ mX (up σ 134 i v) 0 2 ∧ mX (up σ 134 i v) 0 2 ≤ 20 := by
      by_cases q : i = 2
      · subst q
        have : mX (up σ 134 2 v) 0 2 = v := s
        rw [this]; exact hv.2.2.1 rfl
      · rw [show mX (up σ 134 i v) 0 2 = mX σ 0 2 from o _ (by omega)]; exact g2.2
    exact ⟨a1, a2⟩
  · rw [eD]; exact g3
  · by_cases q : i = 4 + k
    · have : mSe (up σ 134 i v) 0 k = v := by unfold mSe; rw [show (0 : Int) + 4 + k = i by omega]; exact s
      rw [this]; exact hv.2.2.2 (by omega)
    · rw [show mSe (up σ 134 i v) 0 k = mSe σ 0 k from o _ (by omega)]; exact (g4 k hk).1
  · have h1 := (g4 k hk).2
    have hr := h1.rg
    exact h1.congr (o _ (by omega)) (fun p a b => o _ (by omega)) (fun y a b => by rw [show mS (up σ 134 i v) 0 k y = mS σ 0 k y from o _ (by omega)])
  · rw [show mS (up σ 134 i v) 0 k y = mS σ 0 k y from o _ (by omega), show mR (up σ 134 i v) 0 k y = mR σ 0 k y from o _ (by omega), show mT (up σ 134 i v) 0 k y = mT σ 0 k y from o _ (by omega), eD]; exact g5 k y hk hy
theorem R1.pa (h : R1 α β) {d : Int} (h0 : 0 ≤ d) (h1 : β 134 3 + d ≤ 9999) : R1 (up α 2 0 (α 2 0 + d)) (mpa β d) := by
  have e3 : α 2 0 = β 134 3 := h.d
  have eu : up α 2 0 (α 2 0 + d) 2 0 = α 2 0 + d := by simp [up_ap]
  refine h.set1 (i := 3) (by decide) (SG.pa h.g h0 h1) ?_ (by rw [eu]; omega) ?_ (fun k hk => ?_) (fun c hc => up_o (by omega))
  · rw [eu]; show _ = up β 134 3 (β 134 3 + d) 134 (0 + 3); rw [up_ap, if_pos ⟨rfl, by decide⟩, e3]
  · rw [up_o (by decide)]
    have x := h.x
    rw [show mRu (up β 134 3 (β 134 3 + d)) 0 = mRu β 0 from by unfold mRu; rw [up_ap, if_neg (by omega)], show mX (up β 134 3 (β 134 3 + d)) 0 1 = mX β 0 1 from by unfold mX; rw [up_ap, if_neg (by omega)], show mX (up β 134 3 (β 134 3 + d)) 0 2 = mX β 0 2 from by unfold mX; rw [up_ap, if_neg (by omega)]]
    exact x
  · rw [up_o (by decide), show mSe (up β 134 3 (β 134 3 + d)) 0 k = mSe β 0 k from by unfold mSe; rw [up_ap, if_neg (by omega)]]; exact h.se hk
theorem R1.ss (h : R1 α β) {k d : Int} (hk : 0 ≤ k ∧ k < 4) (hd : 0 ≤ d ∧ d ≤ 99) : R1 (up α 3 k d) (up β 134 (4 + k) d) := by
  have x := h.x
  refine h.set1 (i := 4 + k) (by omega) (h.g.up1 (by omega) ⟨fun q => by omega, fun q => by omega, fun q => by omega, fun _ => hd⟩) ?_ (by rw [up_o (by decide)]; exact Int.le_refl _) ?_ (fun k' hk' => ?_) (fun c hc => up_o (by omega))
  · rw [up_o (by decide), show mD (up β 134 (4 + k) d) 0 = mD β 0 from by unfold mD; rw [up_ap, if_neg (by omega)]]; exact h.d
  · rw [up_o (by decide), show mRu (up β 134 (4 + k) d) 0 = mRu β 0 from by unfold mRu; rw [up_ap, if_neg (by omega)], show mX (up β 134 (4 + k) d) 0 1 = mX β 0 1 from by unfold mX; rw [up_ap, if_neg (by omega)], show mX (up β 134 (4 + k) d) 0 2 = mX β 0 2 from by unfold mX; rw [up_ap, if_neg (by omega)]]
    exact x
  · unfold mSe
    rw [up_ap, up_ap]
    by_cases q : k' = k
    · rw [if_pos ⟨rfl, q⟩, if_pos (by omega)]
    · rw [if_neg (fun z => q z.2), if_neg (by omega)]; exact h.se hk'
theorem R1.st (h : R1 α β) {k d : Int} (hk : 0 ≤ k ∧ k ≤ 2) (hd : (if k = 1 then 1 else 0) ≤ d ∧ d ≤ (if k = 0 then 3 else if k = 1 then 9 else 20)) : R1 (up α 14 k d) (up β 134 k d) := by
  have x := h.x
  refine h.set1 (i := k) (by omega) (h.g.up1 (by omega) ⟨fun q => ?_, fun q => ?_, fun q => ?_, fun q => by omega⟩) ?_ (by rw [up_o (by decide)]; exact Int.le_refl _) ?_ (fun k' hk' => ?_) (fun c hc => up_o (by omega))
  · subst q; simpa using hd
  · subst q; simpa using hd
  · subst q; simpa using hd
  · rw [up_o (by decide), show mD (up β 134 k d) 0 = mD β 0 from by unfold mD; rw [up_ap, if_neg (by omega)]]; exact h.d
  · have r0 : mRu (up β 134 k d) 0 = if k = 0 then d else mRu β 0 := by
      unfold mRu; rw [up_ap]; by_cases q : k = 0
      · rw [if_pos ⟨rfl, q.symm⟩, if_pos q]
      · rw [if_neg (fun z => q z.2.symm), if_neg q]
    have r1 : mX (up β 134 k d) 0 1 = if k = 1 then d else mX β 0 1 := by
      unfold mX; rw [up_ap]; by_cases q : k = 1
      · rw [if_pos ⟨rfl, by omega⟩, if_pos q]
      · rw [if_neg (fun z => q (by omega)), if_neg q]
    have r2 : mX (up β 134 k d) 0 2 = if k = 2 then d else mX β 0 2 := by
      unfold mX; rw [up_ap]; by_cases q : k = 2
      · rw [if_pos ⟨rfl, by omega⟩, if_pos q]
      · rw [if_neg (fun z => q (by omega)), if_neg q]
    have c : ∀ i, up α 14 k d 14 i = if k = i then d else α 14 i := fun i => by
      rw [up_ap]; by_cases q : k = i
      · rw [if_pos ⟨rfl, q.symm⟩, if_pos q]
      · rw [if_neg (fun z => q z.2.symm), if_neg q]
    rw [r0, r1, r2, c, c, c, x.1, x.2.1, x.2.2]
    exact ⟨rfl, rfl, rfl⟩
  · rw [up_o (by decide), show mSe (up β 134 k d) 0 k' = mSe β 0 k' from by unfold mSe; rw [up_ap, if_neg (by omega)]]; exact h.se hk'
end OPS2
