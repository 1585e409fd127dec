theorem shl_in {σ : Mem} {a lo hi j : Int} (h : a + lo ≤ j ∧ j < a + hi) : shl σ a lo hi 134 j = σ 134 (j + 1) := by unfold shl; rw [if_pos ⟨rfl, h⟩]
theorem shr_in {σ : Mem} {a lo hi j : Int} (h : a + lo < j ∧ j ≤ a + hi) : shr σ a lo hi 134 j = σ 134 (j - 1) := by unfold shr; rw [if_pos ⟨rfl, h⟩]
theorem rvs_in {σ : Mem} {a n i j : Int} (h : (a ≤ j ∧ j < a + i) ∨ (a + n - 1 - i < j ∧ j ≤ a + n - 1)) : rvs σ a n i 134 j = σ 134 (a + (a + n - 1) - j) := by unfold rvs; rw [if_pos ⟨rfl, h⟩]
theorem sgc_in {σ : Mem} {f t i j : Int} (h : 291 * t ≤ j ∧ j < 291 * t + i) : sgc σ f t i 134 j = σ 134 (j - 291 * t + 291 * f) := by unfold sgc; rw [if_pos ⟨rfl, h⟩]
/-! a pile: a key taken out, one laid on the top, turned -/
theorem cn_step {P Q : Int → Prop} [DecidablePred P] [DecidablePred Q] {n y : Int} (h0 : 0 ≤ y) (h1 : y < n) (hP : P y) (hQ : ¬ Q y) (h : ∀ j, 0 ≤ j → j < n → j ≠ y → (Q j ↔ P j)) : cn P n = cn Q n + 1 := by
  obtain ⟨d, rfl⟩ : ∃ d : Nat, n = y + 1 + d := ⟨(n - (y + 1)).toNat, by omega⟩
  clear h1
  induction d with
  | zero =>
    rw [show y + 1 + ((0 : Nat) : Int) = y + 1 by omega, cn_s h0, cn_s h0, bz_t hP, bz_f hQ, cn_congr h0 (fun j a b => (h j a (by omega) (by omega)).symm)]
    omega
  | succ d ih =>
    have e : y + 1 + ((d + 1 : Nat) : Int) = (y + 1 + d) + 1 := by omega
    have h2 := h (y + 1 + d) (by omega) (by omega) (by omega)
    have h3 := ih (fun j a b c => h j a (by omega) c)
    rw [e, cn_s (by omega), cn_s (by omega), h3]
    by_cases hp : P (y + 1 + d)
    · rw [bz_t hp, bz_t (h2.mpr hp)]
    · rw [bz_f hp, bz_f (fun q => hp (h2.mp q))]; omega
theorem PK.take {L c y : Int} {P S S' : Int → Int} (h : PK L P S) (hc : 0 ≤ c ∧ c < L) (hy : P c = y) (hS : ∀ j, 0 ≤ j → j < 16 → j ≠ y → (S' j = 2 ↔ S j = 2)) (hn : S' y ≠ 2) : PK (L - 1) (fun p => if c ≤ p ∧ p < L - 1 then P (p + 1) else P p) S' := by
  obtain ⟨h1, h2, h3, h4⟩ := h
  have hcr := h2 c hc.1 hc.2
  rw [hy] at hcr
  have ne : ∀ p, 0 ≤ p → p < L → p ≠ c → P p ≠ y := by
    intro p a b q
    rw [← hy]
    rcases Int.lt_or_gt_of_ne q with g | g
    · exact h3 p c a g hc.2
    · exact Ne.symm (h3 c p hc.1 g b)
  refine ⟨?_, fun p a b => ?_, fun p q a b d => ?_, fun z a b d => ?_⟩
  · have := cn_step (P := fun y => S y = 2) (Q := fun y => S' y = 2) (n := 16) hcr.1.1 hcr.1.2 hcr.2 hn (fun j g1 g2 g3 => hS j g1 g2 g3)
    omega
  · by_cases g : c ≤ p ∧ p < L - 1
    · have g1 := h2 (p + 1) (by omega) (by omega)
      simp only [if_pos g]
      exact ⟨g1.1, (hS _ g1.1.1 g1.1.2 (ne (p + 1) (by omega) (by omega) (by omega))).mpr g1.2⟩
    · have g1 := h2 p a (by omega)
      simp only [if_neg g]
      exact ⟨g1.1, (hS _ g1.1.1 g1.1.2 (ne p a (by omega) (by omega))).mpr g1.2⟩
  · by_cases g : c ≤ p ∧ p < L - 1
    · have g2 : c ≤ q ∧ q < L - 1 := by omega
      simp only [if_pos g, if_pos g2]
      exact h3 (p + 1) (q + 1) (by omega) (by omega) (by omega)
    · simp only [if_neg g]
      by_cases g2 : c ≤ q ∧ q < L - 1
      · simp only [if_pos g2]; exact h3 p (q + 1) a (by omega) (by omega)
      · simp only [if_neg g2]; exact h3 p q a b (by omega)
  · have hz : z ≠ y := fun e => hn (by rw [← e]; exact d)
    obtain ⟨p, g1, g2, g3⟩ := h4 z a b ((hS z a b hz).mp d)
    have hpc : p ≠ c := fun e => hz (by rw [← g3, e, hy])
    by_cases g : p < c
    · refine ⟨p, g1, by omega, ?_⟩
      have g4 : ¬ (c ≤ p ∧ p < L - 1) := by omega
      simp only [if_neg g4]; exact g3
    · refine ⟨p - 1, by omega, by omega, ?_⟩
      have g4 : c ≤ p - 1 ∧ p - 1 < L - 1 := by omega
      simp only [if_pos g4]
      rw [show p - 1 + 1 = p by omega]; exact g3
theorem PK.push {L y : Int} {P S S' : Int → Int} (h : PK L P S) (hy : 0 ≤ y ∧ y < 16) (h2' : S y ≠ 2) (hS : ∀ j, 0 ≤ j → j < 16 → j ≠ y → (S' j = 2 ↔ S j = 2)) (hn : S' y = 2) : PK (L + 1) (fun p => if p = 0 then y else P (p - 1)) S' := by
  have hL := h.rg
  obtain ⟨h1, h2, h3, h4⟩ := h
  have ne : ∀ p, 0 ≤ p → p < L → P p ≠ y := fun p a b e => h2' (by rw [← e]; exact (h2 p a b).2)
  refine ⟨?_, fun p a b => ?_, fun p q a b d => ?_, fun z a b d => ?_⟩
  · have := cn_step (P := fun y => S' y = 2) (Q := fun y => S y = 2) (n := 16) hy.1 hy.2 hn h2' (fun j g1 g2 g3 => (hS j g1 g2 g3).symm)
    omega
  · by_cases g : p = 0
    · simp only [if_pos g]; exact ⟨hy, hn⟩
    · have g1 := h2 (p - 1) (by omega) (by omega)
      simp only [if_neg g]
      exact ⟨g1.1, (hS _ g1.1.1 g1.1.2 (ne _ (by omega) (by omega))).mpr g1.2⟩
  · have g2 : ¬ q = 0 := by omega
    simp only [if_neg g2]
    by_cases g : p = 0
    · simp only [if_pos g]; exact Ne.symm (ne _ (by omega) (by omega))
    · simp only [if_neg g]; exact h3 _ _ (by omega) (by omega) (by omega)
  · by_cases hz : z = y
    · refine ⟨0, by omega, by omega, ?_⟩
      simp only [if_true]; exact hz.symm
    · obtain ⟨p, g1, g2, g3⟩ := h4 z a b ((hS z a b hz).mp d)
      refine ⟨p + 1, by omega, by omega, ?_⟩
      have g4 : ¬ p + 1 = 0 := by omega
      simp only [if_neg g4]
      rw [show p + 1 - 1 = p by omega]; exact g3
theorem PK.turn {L : Int} {P S : Int → Int} (h : PK L P S) : PK L (fun p => P (L - 1 - p)) S := by
  obtain ⟨h1, h2, h3, h4⟩ := h
  refine ⟨h1, fun p a b => h2 _ (by omega) (by omega), fun p q a b d => Ne.symm (h3 _ _ (by omega) (by omega) (by omega)), fun z a b d => ?_⟩
  obtain ⟨p, g1, g2, g3⟩ := h4 z a b d
  exact ⟨L - 1 - p, by omega, by omega, by show P (L - 1 - (L - 1 - p)) = z; rw [show L - 1 - (L - 1 - p) = p by omega]; exact g3⟩
/-- the place of a key is found -/
theorem plc_at {σ : Mem} {b k y c : Int} (h : PK (mL σ b k) (mP σ b k) (mS σ b k)) (hc : 0 ≤ c ∧ c < mL σ b k) (hy : mP σ b k c = y) : plc σ b k y = c := by
  have ne : ∀ p, 0 ≤ p → p < mL σ b k → p ≠ c → mP σ b k p ≠ y := by
    intro p a b q
    rw [← hy]
    rcases Int.lt_or_gt_of_ne q with g | g
    · exact h.2.2.1 p c a g hc.2
    · exact Ne.symm (h.2.2.1 c p hc.1 g b)
  have key : ∀ d : Nat, (d : Int) ≤ mL σ b k → (c < d → it (plcF σ b k y) (-1) d = c) ∧ (d ≤ c → it (plcF σ b k y) (-1) d = -1) := by
    intro d
    induction d with
    | zero => intro _; exact ⟨fun q => absurd q (by omega), fun _ => rfl⟩
    | succ d ih =>
      intro hd
      have h1 := ih (by omega)
      have e : it (plcF σ b k y) (-1) ((d + 1 : Nat) : Int) = plcF σ b k y d (it (plcF σ b k y) (-1) d) := it_s (i := (d : Int)) (by omega)
      rw [e]
      unfold plcF
      by_cases g : (d : Int) = c
      · rw [if_pos (by rw [g]; exact hy)]
        exact ⟨fun _ => g, fun q => absurd q (by omega)⟩
      · rw [if_neg (ne d (by omega) (by omega) g)]
        exact ⟨fun q => h1.1 (by omega), fun q => h1.2 (by omega)⟩
  unfold plc
  have h1 := (key (mL σ b k).toNat (by omega)).1 (by omega)
  rw [show (((mL σ b k).toNat : Nat) : Int) = mL σ b k by omega] at h1
  exact h1
theorem plc_ok {σ : Mem} {b N k y : Int} (hG : SG σ b N) (hk : 0 ≤ k ∧ k < 4) (hy : 0 ≤ y ∧ y < 16) (h2 : mS σ b k y = 2) : (0 ≤ plc σ b k y ∧ plc σ b k y < mL σ b k) ∧ mP σ b k (plc σ b k y) = y := by
  obtain ⟨c, g1, g2, g3⟩ := (hG.pk hk).2.2.2 y hy.1 hy.2 h2
  rw [plc_at (hG.pk hk) ⟨g1, g2⟩ g3]
  exact ⟨⟨g1, g2⟩, g3⟩
/-- a key taken out of its pile, in the memory -/
theorem mtak_L {σ : Mem} {b N k y k' : Int} (hG : SG σ b N) (hk : 0 ≤ k ∧ k < 4) (hy : 0 ≤ y ∧ y < 16) (h2 : mS σ b k y = 2) (hk' : 0 ≤ k' ∧ k' < 4) : mL (mtak σ b k y) b k' = if k' = k then mL σ b k - 1 else mL σ b k' := by
  have hp := (plc_ok hG hk hy h2).1
  have hL := (hG.kd hk).2
  unfold mtak
  generalize plc σ b k y = c at hp ⊢
  show shl _ _ _ _ 134 (b + 264 + k') = _
  rw [shl_at (by omega), up_ap]
  by_cases g : k' = k
  · rw [if_pos ⟨rfl, by omega⟩, if_pos g]
  · rw [if_neg (by omega), if_neg g]; rfl
theorem mtak_P {σ : Mem} {b N k y k' q : Int} (hG : SG σ b N) (hk : 0 ≤ k ∧ k < 4) (hy : 0 ≤ y ∧ y < 16) (h2 : mS σ b k y = 2) (hk' : 0 ≤ k' ∧ k' < 4) (hq : 0 ≤ q ∧ q < 16) : mP (mtak σ b k y) b k' q = if k' = k ∧ plc σ b k y ≤ q ∧ q < mL σ b k - 1 then mP σ b k (q + 1) else mP σ b k' q := by
  have hp := (plc_ok hG hk hy h2).1
  have hL := (hG.kd hk).2
  unfold mtak
  generalize plc σ b k y = c at hp ⊢
  show shl _ _ _ _ 134 (b + 200 + 16 * k' + q) = _
  by_cases g : k' = k ∧ c ≤ q ∧ q < mL σ b k - 1
  · rw [shl_in (by omega), if_pos g, up_ap, if_neg (by omega)]; exact m_at (by omega)
  · rw [shl_at (by omega), if_neg g, up_ap, if_neg (by omega)]; rfl
theorem mgv0_f {σ : Mem} {b N k y j : Int} (hG : SG σ b N) (hk : 0 ≤ k ∧ k < 4) (hy : 0 ≤ y ∧ y < 16) (h1 : j ≠ b + 264 + k) (h2 : j < b + 200 + 16 * k ∨ b + 215 + 16 * k ≤ j) : mgv0 σ b k y 134 j = σ 134 j := by
  have hL := (hG.kd hk).2
  unfold mgv0
  by_cases h : mS σ b k y = 2
  · have hp := (plc_ok hG hk hy h).1
    rw [if_pos h]
    unfold mtak
    rw [shl_at (by omega), up_ap, if_neg (by omega)]
  · rw [if_neg h]
theorem mgiv_L {σ : Mem} {b N k y k' : Int} (hG : SG σ b N) (hk : 0 ≤ k ∧ k < 4) (hy : 0 ≤ y ∧ y < 16) (hk' : 0 ≤ k' ∧ k' < 4) : mL (mgiv σ b k y) b k' = if k' = k ∧ mS σ b k y = 2 then mL σ b k - 1 else mL σ b k' := by
  have e : mL (mgiv σ b k y) b k' = mL (mgv0 σ b k y) b k' := by
    unfold mgiv mL; rw [up_ap, if_neg (by omega), up_ap, if_neg (by omega), up_ap, if_neg (by omega)]
  rw [e]; unfold mgv0
  by_cases h2 : mS σ b k y = 2
  · rw [if_pos h2, mtak_L hG hk hy h2 hk']
    by_cases g : k' = k
    · rw [if_pos g, if_pos ⟨g, h2⟩]
    · rw [if_neg g, if_neg (fun q => g q.1)]
  · rw [if_neg h2, if_neg (fun q => h2 q.2)]
theorem mgiv_P {σ : Mem} {b N k y k' q : Int} (hG : SG σ b N) (hk : 0 ≤ k ∧ k < 4) (hy : 0 ≤ y ∧ y < 16) (hk' : 0 ≤ k' ∧ k' < 4) (hq : 0 ≤ q ∧ q < 16) : mP (mgiv σ b k y) b k' q = if k' = k ∧ mS σ b k y = 2 ∧ plc σ b k y ≤ q ∧ q < mL σ b k - 1 then mP σ b k (q + 1) else mP σ b k' q := by
  have e : mP (mgiv σ b k y) b k' q = mP (mgv0 σ b k y) b k' q := by
    unfold mgiv mP; rw [up_ap, if_neg (by omega), up_ap, if_neg (by omega), up_ap, if_neg (by omega)]
  rw [e]; unfold mgv0
  by_cases h2 : mS σ b k y = 2
  · rw [if_pos h2, mtak_P hG hk hy h2 hk' hq]
    by_cases g : k' = k ∧ plc σ b k y ≤ q ∧ q < mL σ b k - 1
    · rw [if_pos g, if_pos ⟨g.1, h2, g.2⟩]
    · rw [if_neg g, if_neg (fun q => g ⟨q.1, q.2.2⟩)]
  · rw [if_neg h2, if_neg (fun q => h2 q.2.1)]
theorem mgiv_S {σ : Mem} {b N k y k' y' : Int} (hG : SG σ b N) (hk : 0 ≤ k ∧ k < 4) (hy : 0 ≤ y ∧ y < 16) (hk' : 0 ≤ k' ∧ k' < 4) (hy' : 0 ≤ y' ∧ y' < 16) : mS (mgiv σ b k y) b k' y' = if k' = k ∧ y' = y then 1 else mS σ b k' y' := by
  unfold mgiv mS
  rw [up_ap, if_neg (by omega), up_ap, if_neg (by omega), up_ap]
  by_cases g : k' = k ∧ y' = y
  · rw [if_pos (by omega), if_pos g]
  · rw [if_neg (by omega), if_neg g, mgv0_f hG hk hy (by omega) (by omega)]
theorem mgiv_R {σ : Mem} {b N k y k' y' : Int} (hG : SG σ b N) (hk : 0 ≤ k ∧ k < 4) (hy : 0 ≤ y ∧ y < 16) (hk' : 0 ≤ k' ∧ k' < 4) (hy' : 0 ≤ y' ∧ y' < 16) : mR (mgiv σ b k y) b k' y' = if k' = k ∧ y' = y then mR σ b k y + 1 else mR σ b k' y' := by
  unfold mgiv mR
  rw [up_ap, if_neg (by omega), up_ap]
  by_cases g : k' = k ∧ y' = y
  · rw [if_pos (by omega), if_pos g]
  · rw [if_neg (by omega), if_neg g, up_ap, if_neg (by omega), mgv0_f hG hk hy (by omega) (by omega)]
theorem mgiv_o {σ : Mem} {b N k y j : Int} (hG : SG σ b N) (hk : 0 ≤ k ∧ k < 4) (hy : 0 ≤ y ∧ y < 16) (h : (b ≤ j ∧ j < b + 8) ∨ (b + 272 ≤ j) ∨ (j < b) ∨ ∃ k' y', (0 ≤ k' ∧ k' < 4) ∧ (0 ≤ y' ∧ y' < 16) ∧ j = b + 8 + 3 * (16 * k' + y') + 2) : mgiv σ b k y 134 j = σ 134 j := by
  unfold mgiv
  rcases h with h | h | h | ⟨k', y', a, b', rfl⟩
  all_goals rw [up_ap, if_neg (by omega), up_ap, if_neg (by omega), up_ap, if_neg (by omega), mgv0_f hG hk hy (by omega) (by omega)]
/-- a state stays one when a key is given -/
theorem SG.giv {σ : Mem} {b N k y : Int} (hG : SG σ b N) (hk : 0 ≤ k ∧ k < 4) (hy : 0 ≤ y ∧ y < 16) (hN : N < 1000) : SG (mgiv σ b k y) b (N + 1) := by
  have hG' := hG
  obtain ⟨g0, g1, g2, g3, g4, g5⟩ := hG
  have o := fun j h => mgiv_o (j := j) hG' hk hy h
  have eD : mD (mgiv σ b k y) b = mD σ b := o _ (Or.inl (by omega))
  refine ⟨by omega, ?_, ?_, ?_, fun k' hk' => ⟨?_, ?_⟩, fun k' y' hk' hy' => ?_⟩
  · rw [show mRu (mgiv σ b k y) b = mRu σ b from o _ (Or.inl (by omega))]; exact g1
  · rw [show mX (mgiv σ b k y) b 1 = mX σ b 1 from o _ (Or.inl (by omega)), show mX (mgiv σ b k y) b 2 = mX σ b 2 from o _ (Or.inl (by omega))]; exact g2
  · rw [eD]; exact g3
  · rw [show mSe (mgiv σ b k y) b k' = mSe σ b k' from o _ (Or.inl (by omega))]; exact (g4 k' hk').1
  · have h1 := hG'.pk hk'
    have hr := h1.rg
    by_cases g : k' = k ∧ mS σ b k y = 2
    · obtain ⟨rfl, h2⟩ := g
      have hp := plc_ok hG' hk hy h2
      refine (h1.take (S' := mS (mgiv σ b k' y) b k') hp.1 hp.2 (fun j a c d => ?_) ?_).congr ?_ (fun p a c => ?_) (fun j a c => Iff.rfl)
      · rw [mgiv_S hG' hk hy hk ⟨a, c⟩, if_neg (by omega)]
      · rw [mgiv_S hG' hk hy hk hy, if_pos ⟨rfl, rfl⟩]; decide
      · rw [mgiv_L hG' hk hy hk, if_pos ⟨rfl, h2⟩]
      · rw [mgiv_P hG' hk hy hk ⟨a, by omega⟩]
        by_cases g : plc σ b k' y ≤ p ∧ p < mL σ b k' - 1
        · rw [if_pos ⟨rfl, h2, g⟩, if_pos g]
        · rw [if_neg (fun q => g q.2.2), if_neg g]
    · refine h1.congr ?_ (fun p a c => ?_) (fun j a c => ?_)
      · rw [mgiv_L hG' hk hy hk', if_neg g]
      · rw [mgiv_P hG' hk hy hk' ⟨a, by omega⟩, if_neg (fun q => g ⟨q.1, q.2.1⟩)]
      · rw [mgiv_S hG' hk hy hk' ⟨a, c⟩]
        by_cases e : k' = k ∧ j = y
        · rw [if_pos e]
          obtain ⟨rfl, rfl⟩ := e
          exact ⟨fun q => absurd q (by decide), fun q => absurd ⟨rfl, q⟩ g⟩
        · rw [if_neg e]
  · have h1 := g5 k' y' hk' hy'
    have h2 := g5 k y hk hy
    rw [mgiv_S hG' hk hy hk' hy', mgiv_R hG' hk hy hk' hy', show mT (mgiv σ b k y) b k' y' = mT σ b k' y' from o _ (Or.inr (Or.inr (Or.inr ⟨k', y', hk', hy', rfl⟩))), eD]
    (repeat' split) <;> omega
/-- .. when a row is deleted, brought back, a pile turned -/
theorem mbk_o {σ : Mem} {N k y j : Int} (hG : SG σ 0 N) (hk : 0 ≤ k ∧ k < 4) (hy : 0 ≤ y ∧ y < 16) (h2 : mS σ 0 k y = 2) (h1 : j ≠ 264 + k ∧ j ≠ 0 + 8 + 3 * (16 * k + y) ∧ j ≠ 284 + k) (h3 : j < 200 + 16 * k ∨ 215 + 16 * k ≤ j) : mbk σ k y 134 j = σ 134 j := by
  have hp := (plc_ok hG hk hy h2).1
  have hL := (hG.kd hk).2
  unfold mbk
  rw [up_ap, if_neg (by omega), up_ap, if_neg (by omega)]
  unfold mtak
  rw [shl_at (by omega), up_ap, if_neg (by omega)]
theorem mbk_S {σ : Mem} {N k y k' y' : Int} (hG : SG σ 0 N) (hk : 0 ≤ k ∧ k < 4) (hy : 0 ≤ y ∧ y < 16) (h2 : mS σ 0 k y = 2) (hk' : 0 ≤ k' ∧ k' < 4) (hy' : 0 ≤ y' ∧ y' < 16) : mS (mbk σ k y) 0 k' y' = if k' = k ∧ y' = y then 1 else mS σ 0 k' y' := by
  by_cases g : k' = k ∧ y' = y
  · rw [if_pos g]; unfold mbk mS; rw [up_ap, if_neg (by omega), up_ap, if_pos ⟨rfl, by omega⟩]
  · rw [if_neg g]; exact mbk_o hG hk hy h2 (by omega) (by omega)
theorem mbk_L {σ : Mem} {N k y k' : Int} (hG : SG σ 0 N) (hk : 0 ≤ k ∧ k < 4) (hy : 0 ≤ y ∧ y < 16) (h2 : mS σ 0 k y = 2) (hk' : 0 ≤ k' ∧ k' < 4) : mL (mbk σ k y) 0 k' = if k' = k then mL σ 0 k - 1 else mL σ 0 k' := by
  rw [← mtak_L hG hk hy h2 hk']
  unfold mbk mL; rw [up_ap, if_neg (by omega), up_ap, if_neg (by omega)]
theorem mbk_P {σ : Mem} {N k y k' q : Int} (hG : SG σ 0 N) (hk : 0 ≤ k ∧ k < 4) (hy : 0 ≤ y ∧ y < 16) (h2 : mS σ 0 k y = 2) (hk' : 0 ≤ k' ∧ k' < 4) (hq : 0 ≤ q ∧ q < 16) : mP (mbk σ k y) 0 k' q = if k' = k ∧ plc σ 0 k y ≤ q ∧ q < mL σ 0 k - 1 then mP σ 0 k (q + 1) else mP σ 0 k' q := by
  rw [← mtak_P hG hk hy h2 hk' hq]
  unfold mbk mP; rw [up_ap, if_neg (by omega), up_ap, if_neg (by omega)]
theorem SG.bk {σ : Mem} {N k y : Int} (hG : SG σ 0 N) (hk : 0 ≤ k ∧ k < 4) (hy : 0 ≤ y ∧ y < 16) (h2 : mS σ 0 k y = 2) : SG (mbk σ k y) 0 N := by
  have hG' := hG
  obtain ⟨g0, g1, g2, g3, g4, g5⟩ := hG
  have o := fun j a b => mbk_o (j := j) hG' hk hy h2 a b
  have eD : mD (mbk σ k y) 0 = mD σ 0 := o _ (by omega) (by omega)
  refine ⟨g0, ?_, ?_, ?_, fun k' hk' => ⟨?_, ?_⟩, fun k' y' hk' hy' => ?_⟩
  · rw [show mRu (mbk σ k y) 0 = mRu σ 0 from o _ (by omega) (by omega)]; exact g1
  · rw [show mX (mbk σ k y) 0 1 = mX σ 0 1 from o _ (by omega) (by omega), show mX (mbk σ k y) 0 2 = mX σ 0 2 from o _ (by omega) (by omega)]; exact g2
  · rw [eD]; exact g3
  · rw [show mSe (mbk σ k y) 0 k' = mSe σ 0 k' from o _ (by omega) (by omega)]; exact (g4 k' hk').1
  · have h1 := hG'.pk hk'
    have hr := h1.rg
    by_cases g : k' = k
    · subst g
      have hp := plc_ok hG' hk hy h2
      refine (h1.take (S' := mS (mbk σ k' y) 0 k') hp.1 hp.2 (fun j a c d => ?_) ?_).congr ?_ (fun p a c => ?_) (fun j a c => Iff.rfl)
      · rw [mbk_S hG' hk hy h2 hk ⟨a, c⟩, if_neg (by omega)]
      · rw [mbk_S hG' hk hy h2 hk hy, if_pos ⟨rfl, rfl⟩]; decide
      · rw [mbk_L hG' hk hy h2 hk, if_pos rfl]
      · rw [mbk_P hG' hk hy h2 hk ⟨a, by omega⟩]
        by_cases g : plc σ 0 k' y ≤ p ∧ p < mL σ 0 k' - 1
        · rw [if_pos ⟨rfl, g⟩, if_pos g]
        · rw [if_neg (fun q => g q.2), if_neg g]
    · refine h1.congr ?_ (fun p a c => ?_) (fun j a c => ?_)
      · rw [mbk_L hG' hk hy h2 hk', if_neg g]
      · rw [mbk_P hG' hk hy h2 hk' ⟨a, by omega⟩, if_neg (fun q => g q.1)]
      · rw [mbk_S hG' hk hy h2 hk' ⟨a, c⟩, if_neg (fun q => g q.1)]
  · have h1 := g5 k' y' hk' hy'
    rw [mbk_S hG' hk hy h2 hk' hy', show mR (mbk σ k y) 0 k' y' = mR σ 0 k' y' from o _ (by omega) (by omega), show mT (mbk σ k y) 0 k' y' = mT σ 0 k' y' from o _ (by omega) (by omega), eD]
    (repeat' split) <;> omega
theorem mdl_o {σ : Mem} {k y j : Int} (hk : 0 ≤ k ∧ k < 4) (hy : 0 ≤ y ∧ y < 16) (hL : 0 ≤ mL σ 0 k ∧ mL σ 0 k ≤ 15) (h1 : j ≠ 264 + k ∧ j ≠ 272 + k ∧ j ≠ 0 + 8 + 3 * (16 * k + y) ∧ j ≠ 0 + 8 + 3 * (16 * k + y) + 2) (h3 : j < 200 + 16 * k ∨ 216 + 16 * k ≤ j) : mdl σ k y 134 j = σ 134 j := by
  unfold mdl
  split
  · rw [up_ap, if_neg (by omega)]; unfold mdl0; rw [up_ap, if_neg (by omega)]
  · rw [up_ap, if_neg (by omega), up_ap, if_neg (by omega), shr_at (by omega)]
    unfold mdl1 mdl0
    rw [up_ap, if_neg (by omega), up_ap, if_neg (by omega), up_ap, if_neg (by omega)]
theorem mdl_S {σ : Mem} {k y k' y' : Int} (hk : 0 ≤ k ∧ k < 4) (hy : 0 ≤ y ∧ y < 16) (hL : 0 ≤ mL σ 0 k ∧ mL σ 0 k ≤ 15) (hk' : 0 ≤ k' ∧ k' < 4) (hy' : 0 ≤ y' ∧ y' < 16) : mS (mdl σ k y) 0 k' y' = if k' = k ∧ y' = y then (if mX σ 0 1 ≤ mR σ 0 k y then 3 else 2) else mS σ 0 k' y' := by
  by_cases g : k' = k ∧ y' = y
  · rw [if_pos g]; unfold mdl
    by_cases h : mX σ 0 1 ≤ mR σ 0 k y
    · rw [if_pos h, if_pos h]; unfold mS; rw [up_ap, if_pos ⟨rfl, by omega⟩]
    · rw [if_neg h, if_neg h]; unfold mS; rw [up_ap, if_neg (by omega), up_ap, if_neg (by omega), shr_at (by omega)]
      unfold mdl1; rw [up_ap, if_neg (by omega), up_ap, if_pos ⟨rfl, by omega⟩]
  · rw [if_neg g]; exact mdl_o hk hy hL (by omega) (by omega)
theorem mdl_T {σ : Mem} {k y k' y' : Int} (hk : 0 ≤ k ∧ k < 4) (hy : 0 ≤ y ∧ y < 16) (hL : 0 ≤ mL σ 0 k ∧ mL σ 0 k ≤ 15) (hk' : 0 ≤ k' ∧ k' < 4) (hy' : 0 ≤ y' ∧ y' < 16) : mT (mdl σ k y) 0 k' y' = if k' = k ∧ y' = y ∧ ¬ mX σ 0 1 ≤ mR σ 0 k y then mD σ 0 else mT σ 0 k' y' := by
  by_cases g : k' = k ∧ y' = y
  · unfold mdl
    by_cases h : mX σ 0 1 ≤ mR σ 0 k y
    · rw [if_pos h, if_neg (by omega)]; unfold mT; rw [up_ap, if_neg (by omega)]; unfold mdl0; rw [up_ap, if_neg (by omega)]
    · rw [if_neg h, if_pos ⟨g.1, g.2, h⟩]; unfold mT; rw [up_ap, if_neg (by omega), up_ap, if_neg (by omega), shr_at (by omega)]
      unfold mdl1; rw [up_ap, if_pos ⟨rfl, by omega⟩]
  · rw [if_neg (by omega)]; exact mdl_o hk hy hL (by omega) (by omega)
theorem mdl_L {σ : Mem} {k y k' : Int} (hk : 0 ≤ k ∧ k < 4) (hy : 0 ≤ y ∧ y < 16) (hL : 0 ≤ mL σ 0 k ∧ mL σ 0 k ≤ 15) (hk' : 0 ≤ k' ∧ k' < 4) : mL (mdl σ k y) 0 k' = if k' = k ∧ ¬ mX σ 0 1 ≤ mR σ 0 k y then mL σ 0 k + 1 else mL σ 0 k' := by
  by_cases g : k' = k
  · unfold mdl
    by_cases h : mX σ 0 1 ≤ mR σ 0 k y
    · rw [if_pos h, if_neg (by omega)]; unfold mL; rw [up_ap, if_neg (by omega)]; unfold mdl0; rw [up_ap, if_neg (by omega)]
    · rw [if_neg h, if_pos ⟨g, h⟩]; show up _ _ _ _ 134 (0 + 264 + k') = _; rw [up_ap, if_pos ⟨rfl, by omega⟩]
  · rw [if_neg (by omega)]; exact mdl_o hk hy hL (by omega) (by omega)
theorem mdl_P {σ : Mem} {k y k' q : Int} (hk : 0 ≤ k ∧ k < 4) (hy : 0 ≤ y ∧ y < 16) (hL : 0 ≤ mL σ 0 k ∧ mL σ 0 k ≤ 15) (hk' : 0 ≤ k' ∧ k' < 4) (hq : 0 ≤ q ∧ q ≤ mL σ 0 k') (hL' : mL σ 0 k' ≤ 16) (hq' : q < 16) : mP (mdl σ k y) 0 k' q = if k' = k ∧ ¬ mX σ 0 1 ≤ mR σ 0 k y then (if q = 0 then y else mP σ 0 k' (q - 1)) else mP σ 0 k' q := by
  by_cases g : k' = k
  · unfold mdl
    by_cases h : mX σ 0 1 ≤ mR σ 0 k y
    · rw [if_pos h, if_neg (by omega)]; unfold mP; rw [up_ap, if_neg (by omega)]; unfold mdl0; rw [up_ap, if_neg (by omega)]
    · rw [if_neg h, if_pos ⟨g, h⟩]
      show up _ _ _ _ 134 (0 + 200 + 16 * k' + q) = _
      by_cases h0 : q = 0
      · rw [up_ap, if_neg (by omega), up_ap, if_pos ⟨rfl, by omega⟩, if_pos h0]
      · rw [up_ap, if_neg (by omega), up_ap, if_neg (by omega), if_neg h0, shr_in (by rw [g] at hq; omega)]
        unfold mdl1 mdl0
        rw [up_ap, if_neg (by omega), up_ap, if_neg (by omega), up_ap, if_neg (by omega)]
        exact m_at (by omega)
  · rw [if_neg (by omega)]; exact mdl_o hk hy hL (by omega) (by omega)
theorem SG.dl {σ : Mem} {N k y : Int} (hG : SG σ 0 N) (hk : 0 ≤ k ∧ k < 4) (hy : 0 ≤ y ∧ y < 16) (h2 : mS σ 0 k y = 1) : SG (mdl σ k y) 0 N := by
  have hG' := hG
  have hL15 := SG.not2 hG hk hy (by omega)
  have hL : 0 ≤ mL σ 0 k ∧ mL σ 0 k ≤ 15 := ⟨(hG.kd hk).2.1, hL15⟩
  obtain ⟨g0, g1, g2, g3, g4, g5⟩ := hG
  have o := fun j a b => mdl_o (j := j) hk hy hL a b
  have eD : mD (mdl σ k y) 0 = mD σ 0 := o _ (by omega) (by omega)
  refine ⟨g0, ?_, ?_, ?_, fun k' hk' => ⟨?_, ?_⟩, fun k' y' hk' hy' => ?_⟩
  · rw [show mRu (mdl σ k y) 0 = mRu σ 0 from o _ (by omega) (by omega)]; exact g1
  · rw [show mX (mdl σ k y) 0 1 = mX σ 0 1 from o _ (by omega) (by omega), show mX (mdl σ k y) 0 2 = mX σ 0 2 from o _ (by omega) (by omega)]; exact g2
  · rw [eD]; exact g3
  · rw [show mSe (mdl σ k y) 0 k' = mSe σ 0 k' from o _ (by omega) (by omega)]; exact (g4 k' hk').1
  · have h1 := hG'.pk hk'
    have hr := h1.rg
    by_cases g : k' = k ∧ ¬ mX σ 0 1 ≤ mR σ 0 k y
    · obtain ⟨rfl, h3⟩ := g
      refine (h1.push (S' := mS (mdl σ k' y) 0 k') hy (by omega) (fun j a c d => ?_) ?_).congr ?_ (fun p a c => ?_) (fun j a c => Iff.rfl)
      · rw [mdl_S hk hy hL hk ⟨a, c⟩, if_neg (by omega)]
      · rw [mdl_S hk hy hL hk hy, if_pos ⟨rfl, rfl⟩, if_neg h3]
      · rw [mdl_L hk hy hL hk, if_pos ⟨rfl, h3⟩]
      · rw [mdl_P hk hy hL hk ⟨a, by omega⟩ (by omega) (by omega), if_pos ⟨rfl, h3⟩]
    · refine h1.congr ?_ (fun p a c => ?_) (fun j a c => ?_)
      · rw [mdl_L hk hy hL hk', if_neg g]
      · rw [mdl_P hk hy hL hk' ⟨a, by omega⟩ (by omega) (by omega), if_neg g]
      · rw [mdl_S hk hy hL hk' ⟨a, c⟩]
        by_cases e : k' = k ∧ j = y
        · rw [if_pos e, if_pos (by omega)]
          obtain ⟨rfl, rfl⟩ := e
          omega
        · rw [if_neg e]
  · have h1 := g5 k' y' hk' hy'
    rw [mdl_S hk hy hL hk' hy', mdl_T hk hy hL hk' hy', show mR (mdl σ k y) 0 k' y' = mR σ 0 k' y' from o _ (by omega) (by omega), eD]
    (repeat' split) <;> omega
theorem mtu_P {σ : Mem} {k k' q : Int} (hk : 0 ≤ k ∧ k < 4) (hL : 0 ≤ mL σ 0 k ∧ mL σ 0 k ≤ 16) (hk' : 0 ≤ k' ∧ k' < 4) (hq : 0 ≤ q ∧ q < 16) : mP (mtu σ k) 0 k' q = if k' = k ∧ q < mL σ 0 k then mP σ 0 k (mL σ 0 k - 1 - q) else mP σ 0 k' q := by
  show mtu σ k 134 (0 + 200 + 16 * k' + q) = _
  unfold mtu
  by_cases g : k' = k ∧ q < mL σ 0 k
  · rw [if_pos g]
    by_cases h : q = mL σ 0 k - 1 - q
    · rw [rvs_at (by omega)]; exact m_at (by omega)
    · rw [rvs_in (by omega)]; exact m_at (by omega)
  · rw [if_neg g, rvs_at (by omega)]; rfl
theorem mtu_o {σ : Mem} {k j : Int} (hk : 0 ≤ k ∧ k < 4) (hL : 0 ≤ mL σ 0 k ∧ mL σ 0 k ≤ 16) (h : j < 200 + 16 * k ∨ 216 + 16 * k ≤ j) : mtu σ k 134 j = σ 134 j := by
  unfold mtu; rw [rvs_at (by omega)]
theorem SG.tu {σ : Mem} {N k : Int} (hG : SG σ 0 N) (hk : 0 ≤ k ∧ k < 4) : SG (mtu σ k) 0 N := by
  have hG' := hG
  have hL := (hG.kd hk).2
  obtain ⟨g0, g1, g2, g3, g4, g5⟩ := hG
  have o := fun j a => mtu_o (j := j) hk hL a
  have eD : mD (mtu σ k) 0 = mD σ 0 := o _ (by omega)
  refine ⟨g0, ?_, ?_, ?_, fun k' hk' => ⟨?_, ?_⟩, fun k' y' hk' hy' => ?_⟩
  · rw [show mRu (mtu σ k) 0 = mRu σ 0 from o _ (by omega)]; exact g1
  · rw [show mX (mtu σ k) 0 1 = mX σ 0 1 from o _ (by omega), show mX (mtu σ k) 0 2 = mX σ 0 2 from o _ (by omega)]; exact g2
  · rw [eD]; exact g3
  · rw [show mSe (mtu σ k) 0 k' = mSe σ 0 k' from o _ (by omega)]; exact (g4 k' hk').1
  · have h1 := hG'.pk hk'
    have hr := h1.rg
    have eS : ∀ j, 0 ≤ j → j < 16 → (mS (mtu σ k) 0 k' j = 2 ↔ mS σ 0 k' j = 2) := fun j a c => by rw [show mS (mtu σ k) 0 k' j = mS σ 0 k' j from o _ (by omega)]
    by_cases g : k' = k
    · subst g
      exact h1.turn.congr (o _ (by omega)) (fun p a c => by rw [mtu_P hk hL hk ⟨a, by omega⟩, if_pos ⟨rfl, c⟩]) eS
    · exact h1.congr (o _ (by omega)) (fun p a c => by rw [mtu_P hk hL hk' ⟨a, by omega⟩, if_neg (fun q => g q.1)]) eS
  · rw [show mS (mtu σ k) 0 k' y' = mS σ 0 k' y' from o _ (by omega), show mR (mtu σ k) 0 k' y' = mR σ 0 k' y' from o _ (by omega), show mT (mtu σ k) 0 k' y' = mT σ 0 k' y' from o _ (by omega), eD]
    exact g5 k' y' hk' hy'
theorem mwo_o {σ : Mem} {k q j : Int} (hk : 0 ≤ k ∧ k < 4) (h : j < 276 ∨ 284 ≤ j) : mwo σ k q 134 j = σ 134 j := by
  unfold mwo; rw [up_ap, if_neg (by omega), up_ap, if_neg (by omega)]
/-- counters are no part of it -/
theorem SG.cnt {σ τ : Mem} {N : Int} (h : SG σ 0 N) (e : ∀ j, 0 ≤ j → j < 268 → τ 134 j = σ 134 j) : SG τ 0 N := by
  obtain ⟨h0, h1, h2, h3, h4, h5⟩ := h
  have eD : mD τ 0 = mD σ 0 := e _ (by omega) (by omega)
  refine ⟨h0, ?_, ?_, ?_, fun k hk => ?_, fun k y hk hy => ?_⟩
  · rw [show mRu τ 0 = mRu σ 0 from e _ (by omega) (by omega)]; exact h1
  · rw [show mX τ 0 1 = mX σ 0 1 from e _ (by omega) (by omega), show mX τ 0 2 = mX σ 0 2 from e _ (by omega) (by omega)]; exact h2
  · rw [eD]; exact h3
  · have h6 := h4 k hk
    have h7 := h6.2.rg
    exact ⟨by rw [show mSe τ 0 k = mSe σ 0 k from e _ (by omega) (by omega)]; exact h6.1, h6.2.congr (e _ (by omega) (by omega)) (fun q a c => e _ (by omega) (by omega)) (fun y a c => by rw [show mS τ 0 k y = mS σ 0 k y from e _ (by omega) (by omega)])⟩
  · rw [show mS τ 0 k y = mS σ 0 k y from e _ (by omega) (by omega), show mR τ 0 k y = mR σ 0 k y from e _ (by omega) (by omega), show mT τ 0 k y = mT σ 0 k y from e _ (by omega) (by omega), eD]; exact h5 k y hk hy
theorem SG.le {σ : Mem} {b N M : Int} (h : SG σ b N) (h1 : N ≤ M) (h2 : M ≤ 1000) : SG σ b M := by
  obtain ⟨g0, g1, g2, g3, g4, g5⟩ := h
  refine ⟨by omega, g1, g2, g3, g4, fun k y hk hy => ?_⟩
  have := g5 k y hk hy
  omega
theorem SG.asM {σ : Mem} {N k : Int} (hG : SG σ 0 N) (hk : 0 ≤ k ∧ k < 4) (hN : N < 1000) : SG (masM σ k) 0 (N + 1) := by
  have hd := mdr_rg hG hk
  unfold masM
  split
  · exact (hG.cnt (fun j _ h => mwo_o hk (by omega))).le (by omega) (by omega)
  · exact hG.giv hk ⟨by omega, by omega⟩ hN
theorem SG.sg {σ : Mem} {N : Int} (h : SG σ 0 N) : SG (sgc σ 0 9 291) 2619 N := by
  obtain ⟨h0, h1, h2, h3, h4, h5⟩ := h
  have e : ∀ j, 0 ≤ j → j < 291 → sgc σ 0 9 291 134 (2619 + j) = σ 134 (0 + j) := fun j a c => by rw [sgc_in (by omega)]; exact m_at (by omega)
  have q : ∀ i j, i = 2619 + (j - 0) → 0 ≤ j → j < 291 → sgc σ 0 9 291 134 i = σ 134 j := fun i j a c d => by rw [a, sgc_in (by omega)]; exact m_at (by omega)
  have eD : mD (sgc σ 0 9 291) 2619 = mD σ 0 := q _ _ (by omega) (by omega) (by omega)
  refine ⟨by omega, ?_, ?_, ?_, fun k hk => ?_, fun k y hk hy => ?_⟩
  · rw [show mRu (sgc σ 0 9 291) 2619 = mRu σ 0 from q _ _ (by omega) (by omega) (by omega)]; exact h1
  · rw [show mX (sgc σ 0 9 291) 2619 1 = mX σ 0 1 from q _ _ (by omega) (by omega) (by omega), show mX (sgc σ 0 9 291) 2619 2 = mX σ 0 2 from q _ _ (by omega) (by omega) (by omega)]; exact h2
  · rw [eD]; exact h3
  · have h6 := h4 k hk
    have h7 := h6.2.rg
    exact ⟨by rw [show mSe (sgc σ 0 9 291) 2619 k = mSe σ 0 k from q _ _ (by omega) (by omega) (by omega)]; exact h6.1, h6.2.congr (q _ _ (by omega) (by omega) (by omega)) (fun p a c => q _ _ (by omega) (by omega) (by omega)) (fun y a c => by rw [show mS (sgc σ 0 9 291) 2619 k y = mS σ 0 k y from q _ _ (by omega) (by omega) (by omega)])⟩
  · rw [show mS (sgc σ 0 9 291) 2619 k y = mS σ 0 k y from q _ _ (by omega) (by omega) (by omega), show mR (sgc σ 0 9 291) 2619 k y = mR σ 0 k y from q _ _ (by omega) (by omega) (by omega), show mT (sgc σ 0 9 291) 2619 k y = mT σ 0 k y from q _ _ (by omega) (by omega) (by omega), eD]; exact h5 k y hk hy
