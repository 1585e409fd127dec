theorem cn_congr {P Q : Int → Prop} [DecidablePred P] [DecidablePred Q] {n : Int} (h0 : 0 ≤ n) (h : ∀ j, 0 ≤ j → j < n → (P j ↔ Q j)) : cn P n = cn Q n := by
  obtain ⟨k, rfl⟩ := Int.eq_ofNat_of_zero_le h0
  clear h0
  induction k with
  | zero => rfl
  | succ k ih =>
    have e1 : cn P ((k + 1 : Nat) : Int) = cn P k + bz (P k) := cn_s (i := (k : Int)) (by omega)
    have e2 : cn Q ((k + 1 : Nat) : Int) = cn Q k + bz (Q k) := cn_s (i := (k : Int)) (by omega)
    rw [e1, e2, ih (fun j a b => h j a (by omega))]
    have h1 := h k (by omega) (by omega)
    by_cases hp : P k
    · rw [bz_t hp, bz_t (h1.mp hp)]
    · rw [bz_f hp, bz_f (fun q => hp (h1.mpr q))]
theorem PK.congr {L L' : Int} {P P' S S' : Int → Int} (h : PK L P S) (hL : L' = L) (hP : ∀ p, 0 ≤ p → p < L → P' p = P p) (hS : ∀ y, 0 ≤ y → y < 16 → (S' y = 2 ↔ S y = 2)) : PK L' P' S' := by
  subst hL
  obtain ⟨h1, h2, h3, h4⟩ := h
  refine ⟨?_, fun p a b => ?_, fun p q a b c => ?_, fun y a b c => ?_⟩
  · rw [h1]; exact cn_congr (by omega) (fun j a b => (hS j a b).symm)
  · have h5 := h2 p a b
    rw [hP p a b]
    exact ⟨h5.1, (hS _ h5.1.1 h5.1.2).mpr h5.2⟩
  · rw [hP p a (by omega), hP q (by omega) c]; exact h3 p q a b c
  · obtain ⟨p, g1, g2, g3⟩ := h4 y a b ((hS y a b).mp c)
    exact ⟨p, g1, g2, by rw [hP p g1 g2]; exact g3⟩
/-- another memory with the same numbers in a state's stretch but at the places told -/
theorem SG.m {σ τ : Mem} {b N : Int} (h : SG σ b N) (e : ∀ j, b ≤ j → j < b + 291 → τ 134 j = σ 134 j) : SG τ b N := by
  obtain ⟨h0, h1, h2, h3, h4, h5⟩ := h
  have eS : ∀ k y, 0 ≤ k ∧ k < 4 → 0 ≤ y ∧ y < 16 → mS τ b k y = mS σ b k y := fun k y hk hy => e _ (by omega) (by omega)
  have eR : ∀ k y, 0 ≤ k ∧ k < 4 → 0 ≤ y ∧ y < 16 → mR τ b k y = mR σ b k y := fun k y hk hy => e _ (by omega) (by omega)
  have eT : ∀ k y, 0 ≤ k ∧ k < 4 → 0 ≤ y ∧ y < 16 → mT τ b k y = mT σ b k y := fun k y hk hy => e _ (by omega) (by omega)
  have eL : ∀ k, 0 ≤ k ∧ k < 4 → mL τ b k = mL σ b k := fun k hk => e _ (by omega) (by omega)
  have eE : ∀ k, 0 ≤ k ∧ k < 4 → mSe τ b k = mSe σ b k := fun k hk => e _ (by omega) (by omega)
  have eD : mD τ b = mD σ b := e _ (by omega) (by omega)
  refine ⟨h0, ?_, ?_, ?_, fun k hk => ?_, fun k y hk hy => ?_⟩
  · rw [show mRu τ b = mRu σ b from e _ (by omega) (by omega)]; exact h1
  · rw [show mX τ b 1 = mX σ b 1 from e _ (by omega) (by omega), show mX τ b 2 = mX σ b 2 from e _ (by omega) (by omega)]; exact h2
  · rw [eD]; exact h3
  · have h6 := h4 k hk
    have h7 := h6.2.rg
    refine ⟨by rw [eE k hk]; exact h6.1, h6.2.congr (eL k hk) (fun q a c => e _ (by omega) (by omega)) (fun y a c => by rw [eS k y hk ⟨a, c⟩])⟩
  · rw [eS k y hk hy, eR k y hk hy, eT k y hk hy, eD]; exact h5 k y hk hy
theorem SG.f {σ : Mem} {b N : Int} {i v : Int} (h : SG σ b N) : SG (up σ 133 i v) b N := h.m (fun j _ _ => by rw [up_ap, if_neg (by omega)])
def shfc (σ : Mem) (i : Int) : Mem := fun c j => if c = 134 ∧ 291 ≤ j ∧ j < 291 * i then σ 134 (j + 291) else σ c j
theorem shfc_1 {σ : Mem} : shfc σ 1 = σ := by apply m_ext; intro c j; simp only [shfc]; rw [if_neg (by omega)]
theorem shfc_s {σ : Mem} {i : Int} (h : 1 ≤ i) : sgc (shfc σ i) (i + 1) i 291 = shfc σ (i + 1) := by
  apply m_ext; intro c j
  simp only [sgc, shfc]
  by_cases h1 : c = 134 ∧ 291 * i ≤ j ∧ j < 291 * i + 291
  · rw [if_pos h1, if_neg (by omega), if_pos (by omega)]; exact m_at (by omega)
  · rw [if_neg h1]
    by_cases h2 : c = 134 ∧ 291 ≤ j ∧ j < 291 * i
    · rw [if_pos h2, if_pos (by omega)]
    · rw [if_neg h2, if_neg (by omega)]
theorem up_up {σ : Mem} {c : Nat} {i v w : Int} : up (up σ c i v) c i w = up σ c i w := by
  apply m_ext; intro c' j; by_cases h : c' = c ∧ j = i
  · simp only [up_ap, if_pos h]
  · simp only [up_ap, if_neg h]
def svM (σ : Mem) : Mem := if σ 133 1 = 6 then sgc (up (shfc σ 6) 133 1 6) 0 6 291 else sgc (up σ 133 1 (σ 133 1 + 1)) 0 (σ 133 1 + 1) 291
theorem svM_0 {σ : Mem} {j : Int} (hs : 0 ≤ σ 133 1 ∧ σ 133 1 ≤ 6) (h : j < 291) : svM σ 134 j = σ 134 j := by
  unfold svM; split
  · rw [sgc_at (by omega), up_ap, if_neg (by omega)]; simp only [shfc]; rw [if_neg (by omega)]
  · rw [sgc_at (by omega), up_ap, if_neg (by omega)]
theorem svM_o {σ : Mem} {c : Nat} {j : Int} (h : c ≠ 134) (h1 : c ≠ 133 ∨ j ≠ 1) : svM σ c j = σ c j := by
  have e : ∀ (μ : Mem) (f t : Int), sgc μ f t 291 c j = μ c j := fun μ f t => by simp only [sgc]; rw [if_neg (by omega)]
  unfold svM; split
  · rw [e, up_ap, if_neg (by omega)]; simp only [shfc]; rw [if_neg (by omega)]
  · rw [e, up_ap, if_neg (by omega)]
def thr (P Q : Prop) [Decidable P] [Decidable Q] : Int := if P then (if Q then 0 else 2) else 1
abbrev isK (k : Int) : Prop := 0 ≤ k ∧ k ≤ 3
abbrev isY (k y : Int) : Prop := (0 ≤ k ∧ k ≤ 3) ∧ 0 ≤ y ∧ y ≤ 15
/-- the state that a call of the reference goes on from, once it throws nothing: told, saved -/
def goM (σ : Mem) : Mem := svM (up σ 133 3 0)
theorem SG.go {σ : Mem} {N : Int} (h : SG σ 0 N) (hs : 0 ≤ σ 133 1 ∧ σ 133 1 ≤ 6) : SG (goM σ) 0 N := h.m (fun j _ hj => by
  unfold goM
  have e : (up σ 133 3 0) 133 1 = σ 133 1 := by simp [up_ap]
  rw [svM_0 (by rw [e]; exact hs) (by omega), up_ap, if_neg (by omega)])
def mfo (σ : Mem) (r : Int) : Mem := up (up (up σ 134 288 (wr (σ 134 288 + 1))) 134 289 (wr (σ 134 289 + bz (r = 2)))) 134 290 (wr (σ 134 290 + bz (r = 1)))
theorem mrf_rg {σ : Mem} {k y q : Int} : 0 ≤ mrf σ k y q ∧ mrf σ k y q ≤ 2 := by unfold mrf; (repeat' split) <;> constructor <;> omega
def mpa (σ : Mem) (d : Int) : Mem := up σ 134 3 (σ 134 3 + d)
theorem SG.pa {σ : Mem} {N d : Int} (h : SG σ 0 N) (h0 : 0 ≤ d) (h1 : σ 134 3 + d ≤ 9999) : SG (mpa σ d) 0 N := by
  obtain ⟨g0, g1, g2, g3, g4, g5⟩ := h
  have e : ∀ j, j ≠ 3 → mpa σ d 134 j = σ 134 j := fun j hj => by unfold mpa; rw [up_ap, if_neg (by omega)]
  have eD : mD (mpa σ d) 0 = mD σ 0 + d := by unfold mD mpa; rw [up_ap, if_pos ⟨rfl, by omega⟩]; rfl
  have eL : ∀ k, 0 ≤ k ∧ k < 4 → mL (mpa σ d) 0 k = mL σ 0 k := fun k hk => e _ (by omega)
  have eS : ∀ k y, 0 ≤ k ∧ k < 4 → 0 ≤ y ∧ y < 16 → mS (mpa σ d) 0 k y = mS σ 0 k y := fun k y hk hy => e _ (by omega)
  refine ⟨g0, ?_, ?_, ?_, fun k hk => ?_, fun k y hk hy => ?_⟩
  · rw [show mRu (mpa σ d) 0 = mRu σ 0 from e _ (by omega)]; exact g1
  · rw [show mX (mpa σ d) 0 1 = mX σ 0 1 from e _ (by omega), show mX (mpa σ d) 0 2 = mX σ 0 2 from e _ (by omega)]; exact g2
  · rw [eD]; have : mD σ 0 = σ 134 3 := rfl; omega
  · have h6 := g4 k hk
    have h7 := h6.2.rg
    exact ⟨by rw [show mSe (mpa σ d) 0 k = mSe σ 0 k from e _ (by omega)]; exact h6.1, h6.2.congr (eL k hk) (fun q a c => e _ (by omega)) (fun y a c => by rw [eS k y hk ⟨a, c⟩])⟩
  · rw [eS k y hk hy, show mR (mpa σ d) 0 k y = mR σ 0 k y from e _ (by omega), show mT (mpa σ d) 0 k y = mT σ 0 k y from e _ (by omega), eD]
    have h6 := g5 k y hk hy
    omega
set_option maxRecDepth 100000 in
set_option maxHeartbeats 4000000 in
theorem k_X6_copies (l : Launch) {σ : Mem} {f t : Int} (hf : 0 ≤ f ∧ f ≤ 9) (ht : 0 ≤ t ∧ t ≤ 9) : CtV l yX6_copies (Cond.code yX6_copies cX6_copies 4 none) 0 0 (fun z => [.ref (z + 133), .int (kI f), .int (kI t)]) σ (sgc σ f t 291) := by
  intro D T z
  refine Ct_of (by decide) (Nat.le_of_ble_eq_true rfl) ?_
  intro p e s m below meth c ls hx hb hml hr hts hown hlk G hl
  have hown : s.vm.findClass RX6 = some m.cls := hown
  have hl : lv_has ls 4 [(0, .ref (z + 133)), (1, .int (kI f)), (2, .int (kI t))] := hl
  refine r_iconst hx hb dX6_copies_0 ?_
  refine lv_istore_n (lv' := [(3, .int (kI 0)), (0, .ref (z + 133)), (1, .int (kI f)), (2, .int (kI t))]) hx hb dX6_copies_1 rfl hl (by decide) rfl (fun ls hl => ?_)
  have lp2 : ∀ (d : Nat) (i : Int), (0 ≤ i) → (i ≤ 291) → (291 - i : Int) < (d : Int) → ∀ (H : Heap) (locs : List Loc), Wd D T z 139 (sgc σ f t i) s H locs → ∀ (ls : Array Slot), lv_has ls 4 [(0, .ref (z + 133)), (1, .int (kI f)), (2, .int (kI t)), (3, .int (kI i))] → W p l e (rmN 0 0) s m ([.ref (z + 133), .int (kI f), .int (kI t)] : List Value).toArray below meth c H locs 0 0 (MQ below (QV D T z 139 (sgc σ f t 291)) ([.ref (z + 133), .int (kI f), .int (kI t)] : List Value).toArray s 0 0 (Own z)) (F0 m 2 ls []) := by
    intro d
    induction d with
    | zero => intro i h0 h1 hd; exact absurd hd (by omega)
    | succ d ih2 =>
      intro i h0 h1 hd H locs G ls hl
      refine lv_iload_n hx hb dX6_copies_2 rfl (lv_at hl 3 rfl) ?_
      refine r_sipush hx hb dX6_copies_3 (by decide +kernel) ?_
      refine r_icmp_ge (tgt := 39) hx hb ⟨by omega, by omega⟩ ⟨by decide, by decide⟩ dX6_copies_6 (by decide) (fun h_1 => ?_) (fun h_1 => ?_)
      · skip
        exact r_vret hx hb hr hlk G (by rw [show i = 291 by omega]) dX6_copies_39
      · skip
        refine lv_aload_n hx hb dX6_copies_9 rfl (lv_at hl 0 rfl) ?_
        refine gf_X6_7 hx hb hts hown G dX6_copies_10 ?_
        refine r_sipush hx hb dX6_copies_13 (by decide +kernel) ?_
        refine lv_iload_n hx hb dX6_copies_16 rfl (lv_at hl 2 rfl) ?_
        refine r_imul hx hb dX6_copies_17 ?_
        refine lv_iload_n hx hb dX6_copies_18 rfl (lv_at hl 3 rfl) ?_
        refine r_iadd hx hb dX6_copies_19 ?_
        refine lv_aload_n hx hb dX6_copies_20 rfl (lv_at hl 0 rfl) ?_
        refine gf_X6_7 hx hb hts hown G dX6_copies_21 ?_
        refine r_sipush hx hb dX6_copies_24 (by decide +kernel) ?_
        refine lv_iload_n hx hb dX6_copies_27 rfl (lv_at hl 1 rfl) ?_
        refine r_imul hx hb dX6_copies_28 ?_
        refine lv_iload_n hx hb dX6_copies_29 rfl (lv_at hl 3 rfl) ?_
        refine r_iadd hx hb dX6_copies_30 ?_
        refine r_iald hx hb G 134 (by decide) (N := 2910) (fun _ => rfl) (by omega) (by omega) (by decide) dX6_copies_31 ?_
        refine r_top (b := σ 134 (291 * f + i)) (sgc_at (by omega)) ?_
        refine r_iast hx hb G 134 (by decide) (N := 2910) (fun _ => rfl) (by omega) (by omega) (by decide) dX6_copies_32 (fun H locs G => ?_)
        have G := G.cong (τ := sgc σ f t (i + 1)) (sgc_s h0)
        refine r_iinc (lv' := [(3, .int (kI (i + 1))), (0, .ref (z + 133)), (1, .int (kI f)), (2, .int (kI t))]) hx hb dX6_copies_33 hl (k := 3) rfl (by decide) rfl (fun ls hl => ?_)
        refine lv_goto (tgt := 2) hx hb dX6_copies_36 (by decide) ?_
        exact ih2 (i + 1) (by omega) (by omega) (by omega) _ _ G _ (lv_sub hl [1, 2, 3, 0] rfl)
  have G := G.cong (sgc_0 (σ := σ) (f := f) (t := t)).symm
  exact lp2 292 0 (by omega) (by omega) (by omega) _ _ G _ (lv_sub hl [1, 2, 3, 0] rfl)
set_option maxRecDepth 100000 in
set_option maxHeartbeats 4000000 in
theorem k_X6_saves (l : Launch) {σ : Mem} (hs : 0 ≤ σ 133 1 ∧ σ 133 1 ≤ 6) : CtV l yX6_saves (Cond.code yX6_saves cX6_saves 2 none) 1 23 (fun z => [.ref (z + 133)]) σ (svM σ) := by
  intro D T z
  refine Ct_of (by decide) (Nat.le_of_ble_eq_true rfl) ?_
  intro p e s m below meth c ls hx hb hml hr hts hown hlk G hl
  have hown : s.vm.findClass RX6 = some m.cls := hown
  have hl : lv_has ls 2 [(0, .ref (z + 133))] := hl
  refine lv_aload_n hx hb dX6_saves_0 rfl (lv_at hl 0 rfl) ?_
  refine gf_X6_25 hx hb hts hown G dX6_saves_1 ?_
  refine r_bipush hx hb dX6_saves_4 (by decide +kernel) ?_
  refine r_icmp_ne (tgt := 41) hx hb ⟨by omega, by omega⟩ ⟨by decide, by decide⟩ dX6_saves_6 (by decide) (fun h_1 => ?_) (fun h_1 => ?_)
  · skip
    have h6 := h_1
    refine lv_aload_n hx hb dX6_saves_41 rfl (lv_at hl 0 rfl) ?_
    refine lv_dup hx hb dX6_saves_42 rfl ?_
    refine gf_X6_25 hx hb hts hown G dX6_saves_43 ?_
    refine r_iconst hx hb dX6_saves_46 ?_
    refine r_iadd hx hb dX6_saves_47 ?_
    refine pf_X6_25 hx hb hts hown G dX6_saves_48 (fun H locs G => ?_)
    refine lv_aload_n hx hb dX6_saves_51 rfl (lv_at hl 0 rfl) ?_
    refine r_iconst hx hb dX6_saves_52 ?_
    refine lv_aload_n hx hb dX6_saves_53 rfl (lv_at hl 0 rfl) ?_
    refine gf_X6_25 hx hb hts hown G dX6_saves_54 ?_
    refine r_top (b := σ 133 1 + 1) (by simp [up_ap]) ?_
    refine r_callVV ⟨hx, hb, hml, hown, hts⟩ G (k_X6_copies l (f := 0) (t := σ 133 1 + 1) (σ := up σ 133 1 (σ 133 1 + 1)) (⟨by omega, by omega⟩) (⟨by omega, by omega⟩)) (kV_X6_copies hts qM_X6_28 ⟨by decide, by decide⟩) (rc_X6 G) rfl rfl hl.1 rfl (Nat.le_of_ble_eq_true rfl) dX6_saves_57 ⟨Nat.le_refl _, Nat.le_refl _⟩ (fun H locs G => ?_)
    exact r_vret hx hb hr hlk G (by unfold svM; first | rw [if_neg h6] | rw [if_pos h6, up_up, show σ 133 1 - 1 + 1 = 6 by omega]) dX6_saves_60
  · skip
    have h6 := h_1
    refine r_iconst hx hb dX6_saves_9 ?_
    refine lv_istore_n (lv' := [(1, .int (kI 1)), (0, .ref (z + 133))]) hx hb dX6_saves_10 rfl hl (by decide) rfl (fun ls hl => ?_)
    have lp11 : ∀ (d : Nat) (i : Int), (1 ≤ i) → (i ≤ 6) → (6 - i : Int) < (d : Int) → ∀ (H : Heap) (locs : List Loc), Wd D T z 139 (shfc σ i) s H locs → ∀ (ls : Array Slot), lv_has ls 2 [(0, .ref (z + 133)), (1, .int (kI i))] → W p l e (rmN 1 23) s m ([.ref (z + 133)] : List Value).toArray below meth c H locs 0 0 (MQ below (QV D T z 139 (svM σ)) ([.ref (z + 133)] : List Value).toArray s 0 0 (Own z)) (F0 m 11 ls []) := by
      intro d
      induction d with
      | zero => intro i h0 h1 hd; exact absurd hd (by omega)
      | succ d ih11 =>
        intro i h0 h1 hd H locs G ls hl
        refine lv_iload_n hx hb dX6_saves_11 rfl (lv_at hl 1 rfl) ?_
        refine r_bipush hx hb dX6_saves_12 (by decide +kernel) ?_
        refine r_icmp_ge (tgt := 31) hx hb ⟨by omega, by omega⟩ ⟨by decide, by decide⟩ dX6_saves_14 (by decide) (fun h_2 => ?_) (fun h_2 => ?_)
        · skip
          have G := G.cong (τ := shfc σ 6) (by rw [show i = 6 by omega])
          refine lv_aload_n hx hb dX6_saves_31 rfl (lv_at hl 0 rfl) ?_
          refine lv_dup hx hb dX6_saves_32 rfl ?_
          refine gf_X6_25 hx hb hts hown G dX6_saves_33 ?_
          refine r_top (b := σ 133 1) (by simp [shfc]) ?_
          refine r_iconst hx hb dX6_saves_36 ?_
          refine r_isub hx hb dX6_saves_37 ?_
          refine pf_X6_25 hx hb hts hown G dX6_saves_38 (fun H locs G => ?_)
          refine lv_aload_n hx hb dX6_saves_41 rfl (lv_at hl 0 rfl) ?_
          refine lv_dup hx hb dX6_saves_42 rfl ?_
          refine gf_X6_25 hx hb hts hown G dX6_saves_43 ?_
          refine r_top (b := σ 133 1 - 1) (by simp [up_ap]) ?_
          refine r_iconst hx hb dX6_saves_46 ?_
          refine r_iadd hx hb dX6_saves_47 ?_
          refine pf_X6_25 hx hb hts hown G dX6_saves_48 (fun H locs G => ?_)
          refine lv_aload_n hx hb dX6_saves_51 rfl (lv_at hl 0 rfl) ?_
          refine r_iconst hx hb dX6_saves_52 ?_
          refine lv_aload_n hx hb dX6_saves_53 rfl (lv_at hl 0 rfl) ?_
          refine gf_X6_25 hx hb hts hown G dX6_saves_54 ?_
          refine r_top (b := σ 133 1 - 1 + 1) (by simp [up_ap]) ?_
          refine r_callVV ⟨hx, hb, hml, hown, hts⟩ G (k_X6_copies l (f := 0) (t := σ 133 1 - 1 + 1) (σ := up (up (shfc σ 6) 133 1 (σ 133 1 - 1)) 133 1 (σ 133 1 - 1 + 1)) (⟨by omega, by omega⟩) (⟨by omega, by omega⟩)) (kV_X6_copies hts qM_X6_28 ⟨by decide, by decide⟩) (rc_X6 G) rfl rfl hl.1 rfl (Nat.le_of_ble_eq_true rfl) dX6_saves_57 ⟨Nat.le_refl _, Nat.le_refl _⟩ (fun H locs G => ?_)
          exact r_vret hx hb hr hlk G (by unfold svM; first | rw [if_neg h6] | rw [if_pos h6, up_up, show σ 133 1 - 1 + 1 = 6 by omega]) dX6_saves_60
        · skip
          refine lv_aload_n hx hb dX6_saves_17 rfl (lv_at hl 0 rfl) ?_
          refine lv_iload_n hx hb dX6_saves_18 rfl (lv_at hl 1 rfl) ?_
          refine r_iconst hx hb dX6_saves_19 ?_
          refine r_iadd hx hb dX6_saves_20 ?_
          refine lv_iload_n hx hb dX6_saves_21 rfl (lv_at hl 1 rfl) ?_
          refine r_callVV ⟨hx, hb, hml, hown, hts⟩ G (k_X6_copies l (f := i + 1) (t := i) (σ := shfc σ i) (⟨by omega, by omega⟩) (⟨by omega, by omega⟩)) (kV_X6_copies hts qM_X6_28 ⟨by decide, by decide⟩) (rc_X6 G) rfl rfl hl.1 rfl (Nat.le_of_ble_eq_true rfl) dX6_saves_22 ⟨Nat.le_refl _, Nat.le_refl _⟩ (fun H locs G => ?_)
          have G := G.cong (τ := shfc σ (i + 1)) (shfc_s (by omega))
          refine r_iinc (lv' := [(1, .int (kI (i + 1))), (0, .ref (z + 133))]) hx hb dX6_saves_25 hl (k := 1) rfl (by decide) rfl (fun ls hl => ?_)
          refine lv_goto (tgt := 11) hx hb dX6_saves_28 (by decide) ?_
          exact ih11 (i + 1) (by omega) (by omega) (by omega) _ _ G _ (lv_sub hl [1, 0] rfl)
    have G := G.cong (shfc_1 (σ := σ)).symm
    exact lp11 6 1 (by omega) (by omega) (by omega) _ _ G _ (lv_sub hl [1, 0] rfl)
set_option maxRecDepth 100000 in
set_option maxHeartbeats 4000000 in
theorem k_X6_ask (l : Launch) {σ : Mem} {N k : Int} (hk0 : inR k) (hs : 0 ≤ σ 133 1 ∧ σ 133 1 ≤ 6) (hG : SG σ 0 N) : CtI l yX6_ask (Cond.code yX6_ask cX6_ask 2 (some .int)) 6 143 (fun z => [.ref (z + 133), .int (kI k)]) σ (if isK k ∧ True then mas (goM σ) k else 0) (if isK k ∧ True then masM (goM σ) k else up σ 133 3 (if isK k then (if True then 0 else 2) else 1)) := by
  intro D T z
  refine Ct_of (by decide) (Nat.le_of_ble_eq_true rfl) ?_
  intro p e s m below meth c ls hx hb hml hr hts hown hlk G hl
  have hown : s.vm.findClass RX6 = some m.cls := hown
  have hl : lv_has ls 2 [(0, .ref (z + 133)), (1, .int (kI k))] := hl
  refine lv_aload_n hx hb dX6_ask_0 rfl (lv_at hl 0 rfl) ?_
  refine lv_iload_n hx hb dX6_ask_1 rfl (lv_at hl 1 rfl) ?_
  refine r_callSI ⟨hx, hb, hml, hown, hts⟩ G (k_X6_isKind l (v := k) (σ := σ) (⟨by omega, by omega⟩)) (kS_X6_isKind hts qM_X6_36 ⟨by decide, by decide⟩) rfl rfl hl.1 rfl (Nat.le_of_ble_eq_true rfl) dX6_ask_2 ⟨Nat.le_refl _, Nat.le_refl _⟩ (fun H locs G => ?_)
  refine r_iconst hx hb dX6_ask_5 ?_
  refine r_callVI ⟨hx, hb, hml, hown, hts⟩ G (k_X6_goes l (P := 0 ≤ k ∧ k ≤ 3) (Q := True) (σ := σ) ) (kV_X6_goes hts qM_X6_83 ⟨by decide, by decide⟩) (rc_X6 G) rfl rfl hl.1 rfl (Nat.le_of_ble_eq_true rfl) dX6_ask_6 ⟨Nat.le_refl _, Nat.le_refl _⟩ (fun H locs G => ?_)
  refine r_zne (tgt := 14) hx hb dX6_ask_9 (by decide) (fun h_1 => ?_) (fun h_1 => ?_)
  · skip
    have hPQ := h_1
    have G := G.cong (τ := up σ 133 3 0) (by rw [if_pos hPQ.1, if_pos hPQ.2])
    refine lv_aload_n hx hb dX6_ask_14 rfl (lv_at hl 0 rfl) ?_
    refine r_callVV ⟨hx, hb, hml, hown, hts⟩ G (k_X6_saves l (σ := up σ 133 3 0) (⟨by simp [up_ap]; omega, by simp [up_ap]; omega⟩)) (kV_X6_saves hts qM_X6_87 ⟨by decide, by decide⟩) (rc_X6 G) rfl rfl hl.1 rfl (Nat.le_of_ble_eq_true rfl) dX6_ask_15 ⟨Nat.le_refl _, Nat.le_refl _⟩ (fun H locs G => ?_)
    have G := G.cong (τ := goM σ) (rfl)
    refine lv_aload_n hx hb dX6_ask_18 rfl (lv_at hl 0 rfl) ?_
    refine lv_iload_n hx hb dX6_ask_19 rfl (lv_at hl 1 rfl) ?_
    refine r_callVI ⟨hx, hb, hml, hown, hts⟩ G (k_X6_asks l (k := k) (σ := goM σ) (⟨by omega, by omega⟩) (hG.go hs)) (kV_X6_asks hts qM_X6_90 ⟨by decide, by decide⟩) (rc_X6 G) rfl rfl hl.1 rfl (Nat.le_of_ble_eq_true rfl) dX6_ask_20 ⟨Nat.le_refl _, Nat.le_refl _⟩ (fun H locs G => ?_)
    exact r_iret hx hb hr hlk G (by first | exact (if_neg hPQ).symm | exact (if_pos hPQ).symm) (by first | exact (if_neg hPQ).symm | exact (if_pos hPQ).symm) dX6_ask_23
  · skip
    have hPQ := h_1
    refine r_iconst hx hb dX6_ask_12 ?_
    exact r_iret hx hb hr hlk G (by first | exact (if_neg hPQ).symm | exact (if_pos hPQ).symm) (by first | exact (if_neg hPQ).symm | exact (if_pos hPQ).symm) dX6_ask_13
set_option maxRecDepth 100000 in
set_option maxHeartbeats 4000000 in
theorem k_X6_want (l : Launch) {σ : Mem} {N k y : Int} (hk0 : inR k) (hy0 : inR y) (hs : 0 ≤ σ 133 1 ∧ σ 133 1 ≤ 6) (hG : SG σ 0 N) : CtI l yX6_want (Cond.code yX6_want cX6_want 3 (some .int)) 5 120 (fun z => [.ref (z + 133), .int (kI k), .int (kI y)]) σ (if isY k y ∧ True then mwa (goM σ) k y else 0) (if isY k y ∧ True then mwaM (goM σ) k y else up σ 133 3 (if isY k y then (if True then 0 else 2) else 1)) := by
  intro D T z
  refine Ct_of (by decide) (Nat.le_of_ble_eq_true rfl) ?_
  intro p e s m below meth c ls hx hb hml hr hts hown hlk G hl
  have hown : s.vm.findClass RX6 = some m.cls := hown
  have hl : lv_has ls 3 [(0, .ref (z + 133)), (1, .int (kI k)), (2, .int (kI y))] := hl
  refine lv_aload_n hx hb dX6_want_0 rfl (lv_at hl 0 rfl) ?_
  refine lv_iload_n hx hb dX6_want_1 rfl (lv_at hl 1 rfl) ?_
  refine lv_iload_n hx hb dX6_want_2 rfl (lv_at hl 2 rfl) ?_
  refine r_callSI ⟨hx, hb, hml, hown, hts⟩ G (k_X6_isKey l (k := k) (y := y) (σ := σ) (⟨by omega, by omega⟩) (⟨by omega, by omega⟩)) (kS_X6_isKey hts qM_X6_93 ⟨by decide, by decide⟩) rfl rfl hl.1 rfl (Nat.le_of_ble_eq_true rfl) dX6_want_3 ⟨Nat.le_refl _, Nat.le_refl _⟩ (fun H locs G => ?_)
  refine r_iconst hx hb dX6_want_6 ?_
  refine r_callVI ⟨hx, hb, hml, hown, hts⟩ G (k_X6_goes l (P := (0 ≤ k ∧ k ≤ 3) ∧ 0 ≤ y ∧ y ≤ 15) (Q := True) (σ := σ) ) (kV_X6_goes hts qM_X6_83 ⟨by decide, by decide⟩) (rc_X6 G) rfl rfl hl.1 rfl (Nat.le_of_ble_eq_true rfl) dX6_want_7 ⟨Nat.le_refl _, Nat.le_refl _⟩ (fun H locs G => ?_)
  refine r_zne (tgt := 15) hx hb dX6_want_10 (by decide) (fun h_1 => ?_) (fun h_1 => ?_)
  · skip
    have hPQ := h_1
    have G := G.cong (τ := up σ 133 3 0) (by rw [if_pos hPQ.1, if_pos hPQ.2])
    refine lv_aload_n hx hb dX6_want_15 rfl (lv_at hl 0 rfl) ?_
    refine r_callVV ⟨hx, hb, hml, hown, hts⟩ G (k_X6_saves l (σ := up σ 133 3 0) (⟨by simp [up_ap]; omega, by simp [up_ap]; omega⟩)) (kV_X6_saves hts qM_X6_87 ⟨by decide, by decide⟩) (rc_X6 G) rfl rfl hl.1 rfl (Nat.le_of_ble_eq_true rfl) dX6_want_16 ⟨Nat.le_refl _, Nat.le_refl _⟩ (fun H locs G => ?_)
    have G := G.cong (τ := goM σ) (rfl)
    refine lv_aload_n hx hb dX6_want_19 rfl (lv_at hl 0 rfl) ?_
    refine lv_iload_n hx hb dX6_want_20 rfl (lv_at hl 1 rfl) ?_
    refine lv_iload_n hx hb dX6_want_21 rfl (lv_at hl 2 rfl) ?_
    refine r_callVI ⟨hx, hb, hml, hown, hts⟩ G (k_X6_wants l (k := k) (y := y) (σ := goM σ) (⟨by omega, by omega⟩) (⟨by omega, by omega⟩) (hG.go hs)) (kV_X6_wants hts qM_X6_97 ⟨by decide, by decide⟩) (rc_X6 G) rfl rfl hl.1 rfl (Nat.le_of_ble_eq_true rfl) dX6_want_22 ⟨Nat.le_refl _, Nat.le_refl _⟩ (fun H locs G => ?_)
    exact r_iret hx hb hr hlk G (by first | exact (if_neg hPQ).symm | exact (if_pos hPQ).symm) (by first | exact (if_neg hPQ).symm | exact (if_pos hPQ).symm) dX6_want_25
  · skip
    have hPQ := h_1
    refine r_iconst hx hb dX6_want_13 ?_
    exact r_iret hx hb hr hlk G (by first | exact (if_neg hPQ).symm | exact (if_pos hPQ).symm) (by first | exact (if_neg hPQ).symm | exact (if_pos hPQ).symm) dX6_want_14
theorem goM_S {σ : Mem} {k y : Int} (hs : 0 ≤ σ 133 1 ∧ σ 133 1 ≤ 6) (hk : 0 ≤ k ∧ k < 4) (hy : 0 ≤ y ∧ y < 16) : mS (goM σ) 0 k y = mS σ 0 k y := by
  unfold mS goM; rw [svM_0 (by simp [up_ap]; omega) (by omega), up_ap, if_neg (by omega)]
set_option maxRecDepth 100000 in
set_option maxHeartbeats 4000000 in
theorem k_X6_delete (l : Launch) {σ : Mem} {N k y : Int} (hk0 : inR k) (hy0 : inR y) (hs : 0 ≤ σ 133 1 ∧ σ 133 1 ≤ 6) (hG : SG σ 0 N) : CtI l yX6_delete (Cond.code yX6_delete cX6_delete 4 (some .int)) 3 63 (fun z => [.ref (z + 133), .int (kI k), .int (kI y)]) σ (if isY k y ∧ (isY k y ∧ mS σ 0 k y = 1) then bz (mX (goM σ) 0 1 ≤ mR (goM σ) 0 k y) else 0) (if isY k y ∧ (isY k y ∧ mS σ 0 k y = 1) then mdl (goM σ) k y else up σ 133 3 (if isY k y then (if (isY k y ∧ mS σ 0 k y = 1) then 0 else 2) else 1)) := by
  intro D T z
  refine Ct_of (by decide) (Nat.le_of_ble_eq_true rfl) ?_
  intro p e s m below meth c ls hx hb hml hr hts hown hlk G hl
  have hown : s.vm.findClass RX6 = some m.cls := hown
  have hl : lv_has ls 4 [(0, .ref (z + 133)), (1, .int (kI k)), (2, .int (kI y))] := hl
  refine lv_iload_n hx hb dX6_delete_0 rfl (lv_at hl 1 rfl) ?_
  refine lv_iload_n hx hb dX6_delete_1 rfl (lv_at hl 2 rfl) ?_
  refine r_callSI ⟨hx, hb, hml, hown, hts⟩ G (k_X6_isKey l (k := k) (y := y) (σ := σ) (⟨by omega, by omega⟩) (⟨by omega, by omega⟩)) (kS_X6_isKey hts qM_X6_93 ⟨by decide, by decide⟩) rfl rfl hl.1 rfl (Nat.le_of_ble_eq_true rfl) dX6_delete_2 ⟨Nat.le_refl _, Nat.le_refl _⟩ (fun H locs G => ?_)
  refine lv_istore_n (lv' := [(3, .int (kI (bz ((0 ≤ k ∧ k ≤ 3) ∧ 0 ≤ y ∧ y ≤ 15)))), (0, .ref (z + 133)), (1, .int (kI k)), (2, .int (kI y))]) hx hb dX6_delete_5 rfl hl (by decide) rfl (fun ls hl => ?_)
  refine lv_aload_n hx hb dX6_delete_6 rfl (lv_at hl 1 rfl) ?_
  refine lv_iload_n hx hb dX6_delete_7 rfl (lv_at hl 0 rfl) ?_
  refine lv_iload_n hx hb dX6_delete_8 rfl (lv_at hl 0 rfl) ?_
  refine r_zeq (tgt := 25) hx hb dX6_delete_9 (by decide) (fun h_1 => ?_) (fun h_1 => ?_)
  · skip
    refine r_iconst hx hb dX6_delete_25 ?_
    refine r_top (b := bz (isY k y ∧ mS σ 0 k y = 1)) (by first | exact one_bz (by omega) | exact zero_bz (by omega)) ?_
    skip
    refine r_callVI ⟨hx, hb, hml, hown, hts⟩ G (k_X6_goes l (P := (0 ≤ k ∧ k ≤ 3) ∧ 0 ≤ y ∧ y ≤ 15) (Q := isY k y ∧ mS σ 0 k y = 1) (σ := σ) ) (kV_X6_goes hts qM_X6_83 ⟨by decide, by decide⟩) (rc_X6 G) rfl rfl hl.1 rfl (Nat.le_of_ble_eq_true rfl) dX6_delete_26 ⟨Nat.le_refl _, Nat.le_refl _⟩ (fun H locs G => ?_)
    refine r_zne (tgt := 34) hx hb dX6_delete_29 (by decide) (fun h_2 => ?_) (fun h_2 => ?_)
    · skip
      have hPQ := h_2
      have G := G.cong (τ := up σ 133 3 0) (by rw [if_pos hPQ.1, if_pos hPQ.2])
      refine lv_aload_n hx hb dX6_delete_34 rfl (lv_at hl 1 rfl) ?_
      refine r_callVV ⟨hx, hb, hml, hown, hts⟩ G (k_X6_saves l (σ := up σ 133 3 0) (⟨by simp [up_ap]; omega, by simp [up_ap]; omega⟩)) (kV_X6_saves hts qM_X6_87 ⟨by decide, by decide⟩) (rc_X6 G) rfl rfl hl.1 rfl (Nat.le_of_ble_eq_true rfl) dX6_delete_35 ⟨Nat.le_refl _, Nat.le_refl _⟩ (fun H locs G => ?_)
      have G := G.cong (τ := goM σ) (rfl)
      refine lv_aload_n hx hb dX6_delete_38 rfl (lv_at hl 1 rfl) ?_
      refine lv_iload_n hx hb dX6_delete_39 rfl (lv_at hl 2 rfl) ?_
      refine lv_iload_n hx hb dX6_delete_40 rfl (lv_at hl 3 rfl) ?_
      refine r_callVI ⟨hx, hb, hml, hown, hts⟩ G (k_X6_deletes l (k := k) (y := y) (σ := goM σ) (⟨by omega, by omega⟩) (⟨by omega, by omega⟩) (by rw [goM_S hs ⟨by omega, by omega⟩ ⟨by omega, by omega⟩]; exact hPQ.2.2) (hG.go hs)) (kV_X6_deletes hts qM_X6_103 ⟨by decide, by decide⟩) (rc_X6 G) rfl rfl hl.1 rfl (Nat.le_of_ble_eq_true rfl) dX6_delete_41 ⟨Nat.le_refl _, Nat.le_refl _⟩ (fun H locs G => ?_)
      exact r_iret hx hb hr hlk G (by first | exact (if_neg hPQ).symm | exact (if_pos hPQ).symm) (by first | exact (if_neg hPQ).symm | exact (if_pos hPQ).symm) dX6_delete_44
    · skip
      have hPQ := h_2
      refine r_iconst hx hb dX6_delete_32 ?_
      exact r_iret hx hb hr hlk G (by first | exact (if_neg hPQ).symm | exact (if_pos hPQ).symm) (by first | exact (if_neg hPQ).symm | exact (if_pos hPQ).symm) dX6_delete_33
  · skip
    refine lv_aload_n hx hb dX6_delete_12 rfl (lv_at hl 1 rfl) ?_
    refine lv_iload_n hx hb dX6_delete_13 rfl (lv_at hl 2 rfl) ?_
    refine lv_iload_n hx hb dX6_delete_14 rfl (lv_at hl 3 rfl) ?_
    refine r_callVI ⟨hx, hb, hml, hown, hts⟩ G (k_X6_isAlive l (k := k) (y := y) (σ := σ) (⟨by omega, by omega⟩) (⟨by omega, by omega⟩) (hG)) (kV_X6_isAlive hts qM_X6_100 ⟨by decide, by decide⟩) (rc_X6 G) rfl rfl hl.1 rfl (Nat.le_of_ble_eq_true rfl) dX6_delete_15 ⟨Nat.le_refl _, Nat.le_refl _⟩ (fun H locs G => ?_)
    refine r_zeq (tgt := 25) hx hb dX6_delete_18 (by decide) (fun h_3 => ?_) (fun h_3 => ?_)
    · skip
      refine r_iconst hx hb dX6_delete_25 ?_
      refine r_top (b := bz (isY k y ∧ mS σ 0 k y = 1)) (by first | exact one_bz (by omega) | exact zero_bz (by omega)) ?_
      skip
      refine r_callVI ⟨hx, hb, hml, hown, hts⟩ G (k_X6_goes l (P := (0 ≤ k ∧ k ≤ 3) ∧ 0 ≤ y ∧ y ≤ 15) (Q := isY k y ∧ mS σ 0 k y = 1) (σ := σ) ) (kV_X6_goes hts qM_X6_83 ⟨by decide, by decide⟩) (rc_X6 G) rfl rfl hl.1 rfl (Nat.le_of_ble_eq_true rfl) dX6_delete_26 ⟨Nat.le_refl _, Nat.le_refl _⟩ (fun H locs G => ?_)
      refine r_zne (tgt := 34) hx hb dX6_delete_29 (by decide) (fun h_4 => ?_) (fun h_4 => ?_)
      · skip
        have hPQ := h_4
        have G := G.cong (τ := up σ 133 3 0) (by rw [if_pos hPQ.1, if_pos hPQ.2])
        refine lv_aload_n hx hb dX6_delete_34 rfl (lv_at hl 1 rfl) ?_
        refine r_callVV ⟨hx, hb, hml, hown, hts⟩ G (k_X6_saves l (σ := up σ 133 3 0) (⟨by simp [up_ap]; omega, by simp [up_ap]; omega⟩)) (kV_X6_saves hts qM_X6_87 ⟨by decide, by decide⟩) (rc_X6 G) rfl rfl hl.1 rfl (Nat.le_of_ble_eq_true rfl) dX6_delete_35 ⟨Nat.le_refl _, Nat.le_refl _⟩ (fun H locs G => ?_)
        have G := G.cong (τ := goM σ) (rfl)
        refine lv_aload_n hx hb dX6_delete_38 rfl (lv_at hl 1 rfl) ?_
        refine lv_iload_n hx hb dX6_delete_39 rfl (lv_at hl 2 rfl) ?_
        refine lv_iload_n hx hb dX6_delete_40 rfl (lv_at hl 3 rfl) ?_
        refine r_callVI ⟨hx, hb, hml, hown, hts⟩ G (k_X6_deletes l (k := k) (y := y) (σ := goM σ) (⟨by omega, by omega⟩) (⟨by omega, by omega⟩) (by rw [goM_S hs ⟨by omega, by omega⟩ ⟨by omega, by omega⟩]; exact hPQ.2.2) (hG.go hs)) (kV_X6_deletes hts qM_X6_103 ⟨by decide, by decide⟩) (rc_X6 G) rfl rfl hl.1 rfl (Nat.le_of_ble_eq_true rfl) dX6_delete_41 ⟨Nat.le_refl _, Nat.le_refl _⟩ (fun H locs G => ?_)
        exact r_iret hx hb hr hlk G (by first | exact (if_neg hPQ).symm | exact (if_pos hPQ).symm) (by first | exact (if_neg hPQ).symm | exact (if_pos hPQ).symm) dX6_delete_44
      · skip
        have hPQ := h_4
        refine r_iconst hx hb dX6_delete_32 ?_
        exact r_iret hx hb hr hlk G (by first | exact (if_neg hPQ).symm | exact (if_pos hPQ).symm) (by first | exact (if_neg hPQ).symm | exact (if_pos hPQ).symm) dX6_delete_33
    · skip
      refine r_iconst hx hb dX6_delete_21 ?_
      refine lv_goto (tgt := 26) hx hb dX6_delete_22 (by decide) ?_
      refine r_top (b := bz (isY k y ∧ mS σ 0 k y = 1)) (by first | exact one_bz (by omega) | exact zero_bz (by omega)) ?_
      skip
      refine r_callVI ⟨hx, hb, hml, hown, hts⟩ G (k_X6_goes l (P := (0 ≤ k ∧ k ≤ 3) ∧ 0 ≤ y ∧ y ≤ 15) (Q := isY k y ∧ mS σ 0 k y = 1) (σ := σ) ) (kV_X6_goes hts qM_X6_83 ⟨by decide, by decide⟩) (rc_X6 G) rfl rfl hl.1 rfl (Nat.le_of_ble_eq_true rfl) dX6_delete_26 ⟨Nat.le_refl _, Nat.le_refl _⟩ (fun H locs G => ?_)
      refine r_zne (tgt := 34) hx hb dX6_delete_29 (by decide) (fun h_5 => ?_) (fun h_5 => ?_)
      · skip
        have hPQ := h_5
        have G := G.cong (τ := up σ 133 3 0) (by rw [if_pos hPQ.1, if_pos hPQ.2])
        refine lv_aload_n hx hb dX6_delete_34 rfl (lv_at hl 1 rfl) ?_
        refine r_callVV ⟨hx, hb, hml, hown, hts⟩ G (k_X6_saves l (σ := up σ 133 3 0) (⟨by simp [up_ap]; omega, by simp [up_ap]; omega⟩)) (kV_X6_saves hts qM_X6_87 ⟨by decide, by decide⟩) (rc_X6 G) rfl rfl hl.1 rfl (Nat.le_of_ble_eq_true rfl) dX6_delete_35 ⟨Nat.le_refl _, Nat.le_refl _⟩ (fun H locs G => ?_)
        have G := G.cong (τ := goM σ) (rfl)
        refine lv_aload_n hx hb dX6_delete_38 rfl (lv_at hl 1 rfl) ?_
        refine lv_iload_n hx hb dX6_delete_39 rfl (lv_at hl 2 rfl) ?_
        refine lv_iload_n hx hb dX6_delete_40 rfl (lv_at hl 3 rfl) ?_
        refine r_callVI ⟨hx, hb, hml, hown, hts⟩ G (k_X6_deletes l (k := k) (y := y) (σ := goM σ) (⟨by omega, by omega⟩) (⟨by omega, by omega⟩) (by rw [goM_S hs ⟨by omega, by omega⟩ ⟨by omega, by omega⟩]; exact hPQ.2.2) (hG.go hs)) (kV_X6_deletes hts qM_X6_103 ⟨by decide, by decide⟩) (rc_X6 G) rfl rfl hl.1 rfl (Nat.le_of_ble_eq_true rfl) dX6_delete_41 ⟨Nat.le_refl _, Nat.le_refl _⟩ (fun H locs G => ?_)
        exact r_iret hx hb hr hlk G (by first | exact (if_neg hPQ).symm | exact (if_pos hPQ).symm) (by first | exact (if_neg hPQ).symm | exact (if_pos hPQ).symm) dX6_delete_44
      · skip
        have hPQ := h_5
        refine r_iconst hx hb dX6_delete_32 ?_
        exact r_iret hx hb hr hlk G (by first | exact (if_neg hPQ).symm | exact (if_pos hPQ).symm) (by first | exact (if_neg hPQ).symm | exact (if_pos hPQ).symm) dX6_delete_33
set_option maxRecDepth 100000 in
set_option maxHeartbeats 4000000 in
theorem k_X6_bringBack (l : Launch) {σ : Mem} {N k y : Int} (hk0 : inR k) (hy0 : inR y) (hs : 0 ≤ σ 133 1 ∧ σ 133 1 ≤ 6) (hG : SG σ 0 N) : CtI l yX6_bringBack (Cond.code yX6_bringBack cX6_bringBack 4 (some .int)) 4 96 (fun z => [.ref (z + 133), .int (kI k), .int (kI y)]) σ (if isY k y ∧ (isY k y ∧ mcb σ k y) then mR (goM σ) 0 k y else 0) (if isY k y ∧ (isY k y ∧ mcb σ k y) then mbk (goM σ) k y else up σ 133 3 (if isY k y then (if (isY k y ∧ mcb σ k y) then 0 else 2) else 1)) := by
  intro D T z
  refine Ct_of (by decide) (Nat.le_of_ble_eq_true rfl) ?_
  intro p e s m below meth c ls hx hb hml hr hts hown hlk G hl
  have hown : s.vm.findClass RX6 = some m.cls := hown
  have hl : lv_has ls 4 [(0, .ref (z + 133)), (1, .int (kI k)), (2, .int (kI y))] := hl
  refine lv_iload_n hx hb dX6_bringBack_0 rfl (lv_at hl 1 rfl) ?_
  refine lv_iload_n hx hb dX6_bringBack_1 rfl (lv_at hl 2 rfl) ?_
  refine r_callSI ⟨hx, hb, hml, hown, hts⟩ G (k_X6_isKey l (k := k) (y := y) (σ := σ) (⟨by omega, by omega⟩) (⟨by omega, by omega⟩)) (kS_X6_isKey hts qM_X6_93 ⟨by decide, by decide⟩) rfl rfl hl.1 rfl (Nat.le_of_ble_eq_true rfl) dX6_bringBack_2 ⟨Nat.le_refl _, Nat.le_refl _⟩ (fun H locs G => ?_)
  refine lv_istore_n (lv' := [(3, .int (kI (bz ((0 ≤ k ∧ k ≤ 3) ∧ 0 ≤ y ∧ y ≤ 15)))), (0, .ref (z + 133)), (1, .int (kI k)), (2, .int (kI y))]) hx hb dX6_bringBack_5 rfl hl (by decide) rfl (fun ls hl => ?_)
  refine lv_aload_n hx hb dX6_bringBack_6 rfl (lv_at hl 1 rfl) ?_
  refine lv_iload_n hx hb dX6_bringBack_7 rfl (lv_at hl 0 rfl) ?_
  refine lv_iload_n hx hb dX6_bringBack_8 rfl (lv_at hl 0 rfl) ?_
  refine r_zeq (tgt := 25) hx hb dX6_bringBack_9 (by decide) (fun h_1 => ?_) (fun h_1 => ?_)
  · skip
    refine r_iconst hx hb dX6_bringBack_25 ?_
    refine r_top (b := bz (isY k y ∧ mcb σ k y)) (by first | exact one_bz (by omega) | exact zero_bz (by omega)) ?_
    skip
    refine r_callVI ⟨hx, hb, hml, hown, hts⟩ G (k_X6_goes l (P := (0 ≤ k ∧ k ≤ 3) ∧ 0 ≤ y ∧ y ≤ 15) (Q := isY k y ∧ mcb σ k y) (σ := σ) ) (kV_X6_goes hts qM_X6_83 ⟨by decide, by decide⟩) (rc_X6 G) rfl rfl hl.1 rfl (Nat.le_of_ble_eq_true rfl) dX6_bringBack_26 ⟨Nat.le_refl _, Nat.le_refl _⟩ (fun H locs G => ?_)
    refine r_zne (tgt := 34) hx hb dX6_bringBack_29 (by decide) (fun h_2 => ?_) (fun h_2 => ?_)
    · skip
      have hPQ := h_2
      have G := G.cong (τ := up σ 133 3 0) (by rw [if_pos hPQ.1, if_pos hPQ.2])
      refine lv_aload_n hx hb dX6_bringBack_34 rfl (lv_at hl 1 rfl) ?_
      refine r_callVV ⟨hx, hb, hml, hown, hts⟩ G (k_X6_saves l (σ := up σ 133 3 0) (⟨by simp [up_ap]; omega, by simp [up_ap]; omega⟩)) (kV_X6_saves hts qM_X6_87 ⟨by decide, by decide⟩) (rc_X6 G) rfl rfl hl.1 rfl (Nat.le_of_ble_eq_true rfl) dX6_bringBack_35 ⟨Nat.le_refl _, Nat.le_refl _⟩ (fun H locs G => ?_)
      have G := G.cong (τ := goM σ) (rfl)
      refine lv_aload_n hx hb dX6_bringBack_38 rfl (lv_at hl 1 rfl) ?_
      refine lv_iload_n hx hb dX6_bringBack_39 rfl (lv_at hl 2 rfl) ?_
      refine lv_iload_n hx hb dX6_bringBack_40 rfl (lv_at hl 3 rfl) ?_
      refine r_callVI ⟨hx, hb, hml, hown, hts⟩ G (k_X6_comesBack l (k := k) (y := y) (σ := goM σ) (⟨by omega, by omega⟩) (⟨by omega, by omega⟩) (hG.go hs)) (kV_X6_comesBack hts qM_X6_109 ⟨by decide, by decide⟩) (rc_X6 G) rfl rfl hl.1 rfl (Nat.le_of_ble_eq_true rfl) dX6_bringBack_41 ⟨Nat.le_refl _, Nat.le_refl _⟩ (fun H locs G => ?_)
      exact r_iret hx hb hr hlk G (by first | exact (if_neg hPQ).symm | exact (if_pos hPQ).symm) (by first | exact (if_neg hPQ).symm | exact (if_pos hPQ).symm) dX6_bringBack_44
    · skip
      have hPQ := h_2
      refine r_iconst hx hb dX6_bringBack_32 ?_
      exact r_iret hx hb hr hlk G (by first | exact (if_neg hPQ).symm | exact (if_pos hPQ).symm) (by first | exact (if_neg hPQ).symm | exact (if_pos hPQ).symm) dX6_bringBack_33
  · skip
    refine lv_aload_n hx hb dX6_bringBack_12 rfl (lv_at hl 1 rfl) ?_
    refine lv_iload_n hx hb dX6_bringBack_13 rfl (lv_at hl 2 rfl) ?_
    refine lv_iload_n hx hb dX6_bringBack_14 rfl (lv_at hl 3 rfl) ?_
    refine r_callVI ⟨hx, hb, hml, hown, hts⟩ G (k_X6_canComeBack l (k := k) (y := y) (σ := σ) (⟨by omega, by omega⟩) (⟨by omega, by omega⟩) (hG)) (kV_X6_canComeBack hts qM_X6_106 ⟨by decide, by decide⟩) (rc_X6 G) rfl rfl hl.1 rfl (Nat.le_of_ble_eq_true rfl) dX6_bringBack_15 ⟨Nat.le_refl _, Nat.le_refl _⟩ (fun H locs G => ?_)
    refine r_zeq (tgt := 25) hx hb dX6_bringBack_18 (by decide) (fun h_3 => ?_) (fun h_3 => ?_)
    · skip
      refine r_iconst hx hb dX6_bringBack_25 ?_
      refine r_top (b := bz (isY k y ∧ mcb σ k y)) (by first | exact one_bz (by omega) | exact zero_bz (by omega)) ?_
      skip
      refine r_callVI ⟨hx, hb, hml, hown, hts⟩ G (k_X6_goes l (P := (0 ≤ k ∧ k ≤ 3) ∧ 0 ≤ y ∧ y ≤ 15) (Q := isY k y ∧ mcb σ k y) (σ := σ) ) (kV_X6_goes hts qM_X6_83 ⟨by decide, by decide⟩) (rc_X6 G) rfl rfl hl.1 rfl (Nat.le_of_ble_eq_true rfl) dX6_bringBack_26 ⟨Nat.le_refl _, Nat.le_refl _⟩ (fun H locs G => ?_)
      refine r_zne (tgt := 34) hx hb dX6_bringBack_29 (by decide) (fun h_4 => ?_) (fun h_4 => ?_)
      · skip
        have hPQ := h_4
        have G := G.cong (τ := up σ 133 3 0) (by rw [if_pos hPQ.1, if_pos hPQ.2])
        refine lv_aload_n hx hb dX6_bringBack_34 rfl (lv_at hl 1 rfl) ?_
        refine r_callVV ⟨hx, hb, hml, hown, hts⟩ G (k_X6_saves l (σ := up σ 133 3 0) (⟨by simp [up_ap]; omega, by simp [up_ap]; omega⟩)) (kV_X6_saves hts qM_X6_87 ⟨by decide, by decide⟩) (rc_X6 G) rfl rfl hl.1 rfl (Nat.le_of_ble_eq_true rfl) dX6_bringBack_35 ⟨Nat.le_refl _, Nat.le_refl _⟩ (fun H locs G => ?_)
        have G := G.cong (τ := goM σ) (rfl)
        refine lv_aload_n hx hb dX6_bringBack_38 rfl (lv_at hl 1 rfl) ?_
        refine lv_iload_n hx hb dX6_bringBack_39 rfl (lv_at hl 2 rfl) ?_
        refine lv_iload_n hx hb dX6_bringBack_40 rfl (lv_at hl 3 rfl) ?_
        refine r_callVI ⟨hx, hb, hml, hown, hts⟩ G (k_X6_comesBack l (k := k) (y := y) (σ := goM σ) (⟨by omega, by omega⟩) (⟨by omega, by omega⟩) (hG.go hs)) (kV_X6_comesBack hts qM_X6_109 ⟨by decide, by decide⟩) (rc_X6 G) rfl rfl hl.1 rfl (Nat.le_of_ble_eq_true rfl) dX6_bringBack_41 ⟨Nat.le_refl _, Nat.le_refl _⟩ (fun H locs G => ?_)
        exact r_iret hx hb hr hlk G (by first | exact (if_neg hPQ).symm | exact (if_pos hPQ).symm) (by first | exact (if_neg hPQ).symm | exact (if_pos hPQ).symm) dX6_bringBack_44
      · skip
        have hPQ := h_4
        refine r_iconst hx hb dX6_bringBack_32 ?_
        exact r_iret hx hb hr hlk G (by first | exact (if_neg hPQ).symm | exact (if_pos hPQ).symm) (by first | exact (if_neg hPQ).symm | exact (if_pos hPQ).symm) dX6_bringBack_33
    · skip
      refine r_iconst hx hb dX6_bringBack_21 ?_
      refine lv_goto (tgt := 26) hx hb dX6_bringBack_22 (by decide) ?_
      refine r_top (b := bz (isY k y ∧ mcb σ k y)) (by first | exact one_bz (by omega) | exact zero_bz (by omega)) ?_
      skip
      refine r_callVI ⟨hx, hb, hml, hown, hts⟩ G (k_X6_goes l (P := (0 ≤ k ∧ k ≤ 3) ∧ 0 ≤ y ∧ y ≤ 15) (Q := isY k y ∧ mcb σ k y) (σ := σ) ) (kV_X6_goes hts qM_X6_83 ⟨by decide, by decide⟩) (rc_X6 G) rfl rfl hl.1 rfl (Nat.le_of_ble_eq_true rfl) dX6_bringBack_26 ⟨Nat.le_refl _, Nat.le_refl _⟩ (fun H locs G => ?_)
      refine r_zne (tgt := 34) hx hb dX6_bringBack_29 (by decide) (fun h_5 => ?_) (fun h_5 => ?_)
      · skip
        have hPQ := h_5
        have G := G.cong (τ := up σ 133 3 0) (by rw [if_pos hPQ.1, if_pos hPQ.2])
        refine lv_aload_n hx hb dX6_bringBack_34 rfl (lv_at hl 1 rfl) ?_
        refine r_callVV ⟨hx, hb, hml, hown, hts⟩ G (k_X6_saves l (σ := up σ 133 3 0) (⟨by simp [up_ap]; omega, by simp [up_ap]; omega⟩)) (kV_X6_saves hts qM_X6_87 ⟨by decide, by decide⟩) (rc_X6 G) rfl rfl hl.1 rfl (Nat.le_of_ble_eq_true rfl) dX6_bringBack_35 ⟨Nat.le_refl _, Nat.le_refl _⟩ (fun H locs G => ?_)
        have G := G.cong (τ := goM σ) (rfl)
        refine lv_aload_n hx hb dX6_bringBack_38 rfl (lv_at hl 1 rfl) ?_
        refine lv_iload_n hx hb dX6_bringBack_39 rfl (lv_at hl 2 rfl) ?_
        refine lv_iload_n hx hb dX6_bringBack_40 rfl (lv_at hl 3 rfl) ?_
        refine r_callVI ⟨hx, hb, hml, hown, hts⟩ G (k_X6_comesBack l (k := k) (y := y) (σ := goM σ) (⟨by omega, by omega⟩) (⟨by omega, by omega⟩) (hG.go hs)) (kV_X6_comesBack hts qM_X6_109 ⟨by decide, by decide⟩) (rc_X6 G) rfl rfl hl.1 rfl (Nat.le_of_ble_eq_true rfl) dX6_bringBack_41 ⟨Nat.le_refl _, Nat.le_refl _⟩ (fun H locs G => ?_)
        exact r_iret hx hb hr hlk G (by first | exact (if_neg hPQ).symm | exact (if_pos hPQ).symm) (by first | exact (if_neg hPQ).symm | exact (if_pos hPQ).symm) dX6_bringBack_44
      · skip
        have hPQ := h_5
        refine r_iconst hx hb dX6_bringBack_32 ?_
        exact r_iret hx hb hr hlk G (by first | exact (if_neg hPQ).symm | exact (if_pos hPQ).symm) (by first | exact (if_neg hPQ).symm | exact (if_pos hPQ).symm) dX6_bringBack_33
set_option maxRecDepth 100000 in
set_option maxHeartbeats 4000000 in
theorem k_X6_turn (l : Launch) {σ : Mem} {N k : Int} (hk0 : inR k) (hs : 0 ≤ σ 133 1 ∧ σ 133 1 ≤ 6) (hG : SG σ 0 N) : CtI l yX6_turn (Cond.code yX6_turn cX6_turn 2 (some .int)) 2 49 (fun z => [.ref (z + 133), .int (kI k)]) σ (if isK k ∧ True then mtuR (goM σ) k else 0) (if isK k ∧ True then mtu (goM σ) k else up σ 133 3 (if isK k then (if True then 0 else 2) else 1)) := by
  intro D T z
  refine Ct_of (by decide) (Nat.le_of_ble_eq_true rfl) ?_
  intro p e s m below meth c ls hx hb hml hr hts hown hlk G hl
  have hown : s.vm.findClass RX6 = some m.cls := hown
  have hl : lv_has ls 2 [(0, .ref (z + 133)), (1, .int (kI k))] := hl
  refine lv_aload_n hx hb dX6_turn_0 rfl (lv_at hl 0 rfl) ?_
  refine lv_iload_n hx hb dX6_turn_1 rfl (lv_at hl 1 rfl) ?_
  refine r_callSI ⟨hx, hb, hml, hown, hts⟩ G (k_X6_isKind l (v := k) (σ := σ) (⟨by omega, by omega⟩)) (kS_X6_isKind hts qM_X6_36 ⟨by decide, by decide⟩) rfl rfl hl.1 rfl (Nat.le_of_ble_eq_true rfl) dX6_turn_2 ⟨Nat.le_refl _, Nat.le_refl _⟩ (fun H locs G => ?_)
  refine r_iconst hx hb dX6_turn_5 ?_
  refine r_callVI ⟨hx, hb, hml, hown, hts⟩ G (k_X6_goes l (P := 0 ≤ k ∧ k ≤ 3) (Q := True) (σ := σ) ) (kV_X6_goes hts qM_X6_83 ⟨by decide, by decide⟩) (rc_X6 G) rfl rfl hl.1 rfl (Nat.le_of_ble_eq_true rfl) dX6_turn_6 ⟨Nat.le_refl _, Nat.le_refl _⟩ (fun H locs G => ?_)
  refine r_zne (tgt := 14) hx hb dX6_turn_9 (by decide) (fun h_1 => ?_) (fun h_1 => ?_)
  · skip
    have hPQ := h_1
    have G := G.cong (τ := up σ 133 3 0) (by rw [if_pos hPQ.1, if_pos hPQ.2])
    refine lv_aload_n hx hb dX6_turn_14 rfl (lv_at hl 0 rfl) ?_
    refine r_callVV ⟨hx, hb, hml, hown, hts⟩ G (k_X6_saves l (σ := up σ 133 3 0) (⟨by simp [up_ap]; omega, by simp [up_ap]; omega⟩)) (kV_X6_saves hts qM_X6_87 ⟨by decide, by decide⟩) (rc_X6 G) rfl rfl hl.1 rfl (Nat.le_of_ble_eq_true rfl) dX6_turn_15 ⟨Nat.le_refl _, Nat.le_refl _⟩ (fun H locs G => ?_)
    have G := G.cong (τ := goM σ) (rfl)
    refine lv_aload_n hx hb dX6_turn_18 rfl (lv_at hl 0 rfl) ?_
    refine lv_iload_n hx hb dX6_turn_19 rfl (lv_at hl 1 rfl) ?_
    refine r_callVI ⟨hx, hb, hml, hown, hts⟩ G (k_X6_turns l (k := k) (σ := goM σ) (⟨by omega, by omega⟩) (hG.go hs)) (kV_X6_turns hts qM_X6_112 ⟨by decide, by decide⟩) (rc_X6 G) rfl rfl hl.1 rfl (Nat.le_of_ble_eq_true rfl) dX6_turn_20 ⟨Nat.le_refl _, Nat.le_refl _⟩ (fun H locs G => ?_)
    exact r_iret hx hb hr hlk G (by first | exact (if_neg hPQ).symm | exact (if_pos hPQ).symm) (by first | exact (if_neg hPQ).symm | exact (if_pos hPQ).symm) dX6_turn_23
  · skip
    have hPQ := h_1
    refine r_iconst hx hb dX6_turn_12 ?_
    exact r_iret hx hb hr hlk G (by first | exact (if_neg hPQ).symm | exact (if_pos hPQ).symm) (by first | exact (if_neg hPQ).symm | exact (if_pos hPQ).symm) dX6_turn_13
set_option maxRecDepth 100000 in
set_option maxHeartbeats 4000000 in
theorem k_X6_follow (l : Launch) {σ : Mem} {N k y q : Int} (hk0 : inR k) (hy0 : inR y) (hq0 : inR q) (hs : 0 ≤ σ 133 1 ∧ σ 133 1 ≤ 6) (hG : SG σ 0 N) : CtI l yX6_follow (Cond.code yX6_follow cX6_follow 5 (some .int)) 3 68 (fun z => [.ref (z + 133), .int (kI k), .int (kI y), .int (kI q)]) σ (if isY k y ∧ (1 ≤ q) then mrf (goM σ) k y q else 0) (if isY k y ∧ (1 ≤ q) then mfo (goM σ) (mrf (goM σ) k y q) else up σ 133 3 (if isY k y then (if (1 ≤ q) then 0 else 2) else 1)) := by
  intro D T z
  refine Ct_of (by decide) (Nat.le_of_ble_eq_true rfl) ?_
  intro p e s m below meth c ls hx hb hml hr hts hown hlk G hl
  have hown : s.vm.findClass RX6 = some m.cls := hown
  have hl : lv_has ls 5 [(0, .ref (z + 133)), (1, .int (kI k)), (2, .int (kI y)), (3, .int (kI q))] := hl
  refine lv_aload_n hx hb dX6_follow_0 rfl (lv_at hl 0 rfl) ?_
  refine lv_iload_n hx hb dX6_follow_1 rfl (lv_at hl 1 rfl) ?_
  refine lv_iload_n hx hb dX6_follow_2 rfl (lv_at hl 2 rfl) ?_
  refine r_callSI ⟨hx, hb, hml, hown, hts⟩ G (k_X6_isKey l (k := k) (y := y) (σ := σ) (⟨by omega, by omega⟩) (⟨by omega, by omega⟩)) (kS_X6_isKey hts qM_X6_93 ⟨by decide, by decide⟩) rfl rfl hl.1 rfl (Nat.le_of_ble_eq_true rfl) dX6_follow_3 ⟨Nat.le_refl _, Nat.le_refl _⟩ (fun H locs G => ?_)
  refine lv_iload_n hx hb dX6_follow_6 rfl (lv_at hl 3 rfl) ?_
  refine r_iconst hx hb dX6_follow_7 ?_
  refine r_icmp_lt (tgt := 15) hx hb ⟨by omega, by omega⟩ ⟨by decide, by decide⟩ dX6_follow_8 (by decide) (fun h_1 => ?_) (fun h_1 => ?_)
  · skip
    refine r_iconst hx hb dX6_follow_15 ?_
    refine r_top (b := bz (1 ≤ q)) (by first | exact one_bz (by omega) | exact zero_bz (by omega)) ?_
    skip
    refine r_callVI ⟨hx, hb, hml, hown, hts⟩ G (k_X6_goes l (P := (0 ≤ k ∧ k ≤ 3) ∧ 0 ≤ y ∧ y ≤ 15) (Q := 1 ≤ q) (σ := σ) ) (kV_X6_goes hts qM_X6_83 ⟨by decide, by decide⟩) (rc_X6 G) rfl rfl hl.1 rfl (Nat.le_of_ble_eq_true rfl) dX6_follow_16 ⟨Nat.le_refl _, Nat.le_refl _⟩ (fun H locs G => ?_)
    refine r_zne (tgt := 24) hx hb dX6_follow_19 (by decide) (fun h_2 => ?_) (fun h_2 => ?_)
    · skip
      have hPQ := h_2
      have G := G.cong (τ := up σ 133 3 0) (by rw [if_pos hPQ.1, if_pos hPQ.2])
      refine lv_aload_n hx hb dX6_follow_24 rfl (lv_at hl 0 rfl) ?_
      refine r_callVV ⟨hx, hb, hml, hown, hts⟩ G (k_X6_saves l (σ := up σ 133 3 0) (⟨by simp [up_ap]; omega, by simp [up_ap]; omega⟩)) (kV_X6_saves hts qM_X6_87 ⟨by decide, by decide⟩) (rc_X6 G) rfl rfl hl.1 rfl (Nat.le_of_ble_eq_true rfl) dX6_follow_25 ⟨Nat.le_refl _, Nat.le_refl _⟩ (fun H locs G => ?_)
      have G := G.cong (τ := goM σ) (rfl)
      refine lv_aload_n hx hb dX6_follow_28 rfl (lv_at hl 0 rfl) ?_
      refine lv_iload_n hx hb dX6_follow_29 rfl (lv_at hl 1 rfl) ?_
      refine lv_iload_n hx hb dX6_follow_30 rfl (lv_at hl 2 rfl) ?_
      refine lv_iload_n hx hb dX6_follow_31 rfl (lv_at hl 3 rfl) ?_
      refine r_callVI ⟨hx, hb, hml, hown, hts⟩ G (k_X6_refers l (k := k) (y := y) (q := q) (σ := goM σ) (⟨by omega, by omega⟩) (⟨by omega, by omega⟩) (hq0) (hG.go hs)) (kV_X6_refers hts qM_X6_115 ⟨by decide, by decide⟩) (rc_X6 G) rfl rfl hl.1 rfl (Nat.le_of_ble_eq_true rfl) dX6_follow_32 ⟨Nat.le_refl _, Nat.le_refl _⟩ (fun H locs G => ?_)
      have hrr := mrf_rg (σ := goM σ) (k := k) (y := y) (q := q)
      refine lv_istore (lv' := [(4, .int (kI (mrf (goM σ) k y q))), (0, .ref (z + 133)), (1, .int (kI k)), (2, .int (kI y)), (3, .int (kI q))]) hx hb dX6_follow_35 hl (by decide) rfl (fun ls hl => ?_)
      refine lv_aload_n hx hb dX6_follow_37 rfl (lv_at hl 1 rfl) ?_
      refine gf_X6_7 hx hb hts hown G dX6_follow_38 ?_
      refine r_sipush hx hb dX6_follow_41 (by decide +kernel) ?_
      refine lv_dup2_11 hx hb dX6_follow_44 rfl rfl ?_
      refine r_iald hx hb G 134 (by decide) (N := 2910) (fun _ => rfl) (by omega) (by omega) (by decide) dX6_follow_45 ?_
      refine r_iconst hx hb dX6_follow_46 ?_
      refine r_iadd hx hb dX6_follow_47 ?_
      refine r_topk (b := wr (goM σ 134 288 + 1)) (kI_wr _).symm ?_
      refine r_iast hx hb G 134 (by decide) (N := 2910) (fun _ => rfl) (by omega) (by omega) (by decide) dX6_follow_48 (fun H locs G => ?_)
      refine lv_aload_n hx hb dX6_follow_49 rfl (lv_at hl 1 rfl) ?_
      refine gf_X6_7 hx hb hts hown G dX6_follow_50 ?_
      refine r_sipush hx hb dX6_follow_53 (by decide +kernel) ?_
      refine lv_dup2_11 hx hb dX6_follow_56 rfl rfl ?_
      refine r_iald hx hb G 134 (by decide) (N := 2910) (fun _ => rfl) (by omega) (by omega) (by decide) dX6_follow_57 ?_
      refine r_top (b := goM σ 134 289) (by simp [up_ap]) ?_
      refine lv_iload hx hb dX6_follow_58 (lv_at hl 0 rfl) ?_
      refine r_iconst hx hb dX6_follow_60 ?_
      refine r_icmp_ne (tgt := 68) hx hb ⟨by omega, by omega⟩ ⟨by decide, by decide⟩ dX6_follow_61 (by decide) (fun h_3 => ?_) (fun h_3 => ?_)
      · skip
        refine r_iconst hx hb dX6_follow_68 ?_
        refine r_iadd hx hb dX6_follow_69 ?_
        refine r_topk (b := wr (goM σ 134 289 + bz (mrf (goM σ) k y q = 2))) (by first | exact k_bz1 (by omega) | exact k_bz0 (by omega)) ?_
        refine r_iast hx hb G 134 (by decide) (N := 2910) (fun _ => rfl) (by omega) (by omega) (by decide) dX6_follow_70 (fun H locs G => ?_)
        refine lv_aload_n hx hb dX6_follow_71 rfl (lv_at hl 1 rfl) ?_
        refine gf_X6_7 hx hb hts hown G dX6_follow_72 ?_
        refine r_sipush hx hb dX6_follow_75 (by decide +kernel) ?_
        refine lv_dup2_11 hx hb dX6_follow_78 rfl rfl ?_
        refine r_iald hx hb G 134 (by decide) (N := 2910) (fun _ => rfl) (by omega) (by omega) (by decide) dX6_follow_79 ?_
        refine r_top (b := goM σ 134 290) (by simp [up_ap]) ?_
        refine lv_iload hx hb dX6_follow_80 (lv_at hl 0 rfl) ?_
        refine r_iconst hx hb dX6_follow_82 ?_
        refine r_icmp_ne (tgt := 90) hx hb ⟨by omega, by omega⟩ ⟨by decide, by decide⟩ dX6_follow_83 (by decide) (fun h_4 => ?_) (fun h_4 => ?_)
        · skip
          refine r_iconst hx hb dX6_follow_90 ?_
          refine r_iadd hx hb dX6_follow_91 ?_
          refine r_topk (b := wr (goM σ 134 290 + bz (mrf (goM σ) k y q = 1))) (by first | exact k_bz1 (by omega) | exact k_bz0 (by omega)) ?_
          refine r_iast hx hb G 134 (by decide) (N := 2910) (fun _ => rfl) (by omega) (by omega) (by decide) dX6_follow_92 (fun H locs G => ?_)
          refine lv_iload hx hb dX6_follow_93 (lv_at hl 0 rfl) ?_
          exact r_iret hx hb hr hlk G (by first | exact (if_neg hPQ).symm | exact (if_pos hPQ).symm) (by first | exact (if_neg hPQ).symm | exact (if_pos hPQ).symm) dX6_follow_95
        · skip
          refine r_iconst hx hb dX6_follow_86 ?_
          refine lv_goto (tgt := 91) hx hb dX6_follow_87 (by decide) ?_
          refine r_iadd hx hb dX6_follow_91 ?_
          refine r_topk (b := wr (goM σ 134 290 + bz (mrf (goM σ) k y q = 1))) (by first | exact k_bz1 (by omega) | exact k_bz0 (by omega)) ?_
          refine r_iast hx hb G 134 (by decide) (N := 2910) (fun _ => rfl) (by omega) (by omega) (by decide) dX6_follow_92 (fun H locs G => ?_)
          refine lv_iload hx hb dX6_follow_93 (lv_at hl 0 rfl) ?_
          exact r_iret hx hb hr hlk G (by first | exact (if_neg hPQ).symm | exact (if_pos hPQ).symm) (by first | exact (if_neg hPQ).symm | exact (if_pos hPQ).symm) dX6_follow_95
      · skip
        refine r_iconst hx hb dX6_follow_64 ?_
        refine lv_goto (tgt := 69) hx hb dX6_follow_65 (by decide) ?_
        refine r_iadd hx hb dX6_follow_69 ?_
        refine r_topk (b := wr (goM σ 134 289 + bz (mrf (goM σ) k y q = 2))) (by first | exact k_bz1 (by omega) | exact k_bz0 (by omega)) ?_
        refine r_iast hx hb G 134 (by decide) (N := 2910) (fun _ => rfl) (by omega) (by omega) (by decide) dX6_follow_70 (fun H locs G => ?_)
        refine lv_aload_n hx hb dX6_follow_71 rfl (lv_at hl 1 rfl) ?_
        refine gf_X6_7 hx hb hts hown G dX6_follow_72 ?_
        refine r_sipush hx hb dX6_follow_75 (by decide +kernel) ?_
        refine lv_dup2_11 hx hb dX6_follow_78 rfl rfl ?_
        refine r_iald hx hb G 134 (by decide) (N := 2910) (fun _ => rfl) (by omega) (by omega) (by decide) dX6_follow_79 ?_
        refine r_top (b := goM σ 134 290) (by simp [up_ap]) ?_
        refine lv_iload hx hb dX6_follow_80 (lv_at hl 0 rfl) ?_
        refine r_iconst hx hb dX6_follow_82 ?_
        refine r_icmp_ne (tgt := 90) hx hb ⟨by omega, by omega⟩ ⟨by decide, by decide⟩ dX6_follow_83 (by decide) (fun h_5 => ?_) (fun h_5 => ?_)
        · skip
          refine r_iconst hx hb dX6_follow_90 ?_
          refine r_iadd hx hb dX6_follow_91 ?_
          refine r_topk (b := wr (goM σ 134 290 + bz (mrf (goM σ) k y q = 1))) (by first | exact k_bz1 (by omega) | exact k_bz0 (by omega)) ?_
          refine r_iast hx hb G 134 (by decide) (N := 2910) (fun _ => rfl) (by omega) (by omega) (by decide) dX6_follow_92 (fun H locs G => ?_)
          refine lv_iload hx hb dX6_follow_93 (lv_at hl 0 rfl) ?_
          exact r_iret hx hb hr hlk G (by first | exact (if_neg hPQ).symm | exact (if_pos hPQ).symm) (by first | exact (if_neg hPQ).symm | exact (if_pos hPQ).symm) dX6_follow_95
        · skip
          refine r_iconst hx hb dX6_follow_86 ?_
          refine lv_goto (tgt := 91) hx hb dX6_follow_87 (by decide) ?_
          refine r_iadd hx hb dX6_follow_91 ?_
          refine r_topk (b := wr (goM σ 134 290 + bz (mrf (goM σ) k y q = 1))) (by first | exact k_bz1 (by omega) | exact k_bz0 (by omega)) ?_
          refine r_iast hx hb G 134 (by decide) (N := 2910) (fun _ => rfl) (by omega) (by omega) (by decide) dX6_follow_92 (fun H locs G => ?_)
          refine lv_iload hx hb dX6_follow_93 (lv_at hl 0 rfl) ?_
          exact r_iret hx hb hr hlk G (by first | exact (if_neg hPQ).symm | exact (if_pos hPQ).symm) (by first | exact (if_neg hPQ).symm | exact (if_pos hPQ).symm) dX6_follow_95
    · skip
      have hPQ := h_2
      refine r_iconst hx hb dX6_follow_22 ?_
      exact r_iret hx hb hr hlk G (by first | exact (if_neg hPQ).symm | exact (if_pos hPQ).symm) (by first | exact (if_neg hPQ).symm | exact (if_pos hPQ).symm) dX6_follow_23
  · skip
    refine r_iconst hx hb dX6_follow_11 ?_
    refine lv_goto (tgt := 16) hx hb dX6_follow_12 (by decide) ?_
    refine r_top (b := bz (1 ≤ q)) (by first | exact one_bz (by omega) | exact zero_bz (by omega)) ?_
    skip
    refine r_callVI ⟨hx, hb, hml, hown, hts⟩ G (k_X6_goes l (P := (0 ≤ k ∧ k ≤ 3) ∧ 0 ≤ y ∧ y ≤ 15) (Q := 1 ≤ q) (σ := σ) ) (kV_X6_goes hts qM_X6_83 ⟨by decide, by decide⟩) (rc_X6 G) rfl rfl hl.1 rfl (Nat.le_of_ble_eq_true rfl) dX6_follow_16 ⟨Nat.le_refl _, Nat.le_refl _⟩ (fun H locs G => ?_)
    refine r_zne (tgt := 24) hx hb dX6_follow_19 (by decide) (fun h_6 => ?_) (fun h_6 => ?_)
    · skip
      have hPQ := h_6
      have G := G.cong (τ := up σ 133 3 0) (by rw [if_pos hPQ.1, if_pos hPQ.2])
      refine lv_aload_n hx hb dX6_follow_24 rfl (lv_at hl 0 rfl) ?_
      refine r_callVV ⟨hx, hb, hml, hown, hts⟩ G (k_X6_saves l (σ := up σ 133 3 0) (⟨by simp [up_ap]; omega, by simp [up_ap]; omega⟩)) (kV_X6_saves hts qM_X6_87 ⟨by decide, by decide⟩) (rc_X6 G) rfl rfl hl.1 rfl (Nat.le_of_ble_eq_true rfl) dX6_follow_25 ⟨Nat.le_refl _, Nat.le_refl _⟩ (fun H locs G => ?_)
      have G := G.cong (τ := goM σ) (rfl)
      refine lv_aload_n hx hb dX6_follow_28 rfl (lv_at hl 0 rfl) ?_
      refine lv_iload_n hx hb dX6_follow_29 rfl (lv_at hl 1 rfl) ?_
      refine lv_iload_n hx hb dX6_follow_30 rfl (lv_at hl 2 rfl) ?_
      refine lv_iload_n hx hb dX6_follow_31 rfl (lv_at hl 3 rfl) ?_
      refine r_callVI ⟨hx, hb, hml, hown, hts⟩ G (k_X6_refers l (k := k) (y := y) (q := q) (σ := goM σ) (⟨by omega, by omega⟩) (⟨by omega, by omega⟩) (hq0) (hG.go hs)) (kV_X6_refers hts qM_X6_115 ⟨by decide, by decide⟩) (rc_X6 G) rfl rfl hl.1 rfl (Nat.le_of_ble_eq_true rfl) dX6_follow_32 ⟨Nat.le_refl _, Nat.le_refl _⟩ (fun H locs G => ?_)
      have hrr := mrf_rg (σ := goM σ) (k := k) (y := y) (q := q)
      refine lv_istore (lv' := [(4, .int (kI (mrf (goM σ) k y q))), (0, .ref (z + 133)), (1, .int (kI k)), (2, .int (kI y)), (3, .int (kI q))]) hx hb dX6_follow_35 hl (by decide) rfl (fun ls hl => ?_)
      refine lv_aload_n hx hb dX6_follow_37 rfl (lv_at hl 1 rfl) ?_
      refine gf_X6_7 hx hb hts hown G dX6_follow_38 ?_
      refine r_sipush hx hb dX6_follow_41 (by decide +kernel) ?_
      refine lv_dup2_11 hx hb dX6_follow_44 rfl rfl ?_
      refine r_iald hx hb G 134 (by decide) (N := 2910) (fun _ => rfl) (by omega) (by omega) (by decide) dX6_follow_45 ?_
      refine r_iconst hx hb dX6_follow_46 ?_
      refine r_iadd hx hb dX6_follow_47 ?_
      refine r_topk (b := wr (goM σ 134 288 + 1)) (kI_wr _).symm ?_
      refine r_iast hx hb G 134 (by decide) (N := 2910) (fun _ => rfl) (by omega) (by omega) (by decide) dX6_follow_48 (fun H locs G => ?_)
      refine lv_aload_n hx hb dX6_follow_49 rfl (lv_at hl 1 rfl) ?_
      refine gf_X6_7 hx hb hts hown G dX6_follow_50 ?_
      refine r_sipush hx hb dX6_follow_53 (by decide +kernel) ?_
      refine lv_dup2_11 hx hb dX6_follow_56 rfl rfl ?_
      refine r_iald hx hb G 134 (by decide) (N := 2910) (fun _ => rfl) (by omega) (by omega) (by decide) dX6_follow_57 ?_
      refine r_top (b := goM σ 134 289) (by simp [up_ap]) ?_
      refine lv_iload hx hb dX6_follow_58 (lv_at hl 0 rfl) ?_
      refine r_iconst hx hb dX6_follow_60 ?_
      refine r_icmp_ne (tgt := 68) hx hb ⟨by omega, by omega⟩ ⟨by decide, by decide⟩ dX6_follow_61 (by decide) (fun h_7 => ?_) (fun h_7 => ?_)
      · skip
        refine r_iconst hx hb dX6_follow_68 ?_
        refine r_iadd hx hb dX6_follow_69 ?_
        refine r_topk (b := wr (goM σ 134 289 + bz (mrf (goM σ) k y q = 2))) (by first | exact k_bz1 (by omega) | exact k_bz0 (by omega)) ?_
        refine r_iast hx hb G 134 (by decide) (N := 2910) (fun _ => rfl) (by omega) (by omega) (by decide) dX6_follow_70 (fun H locs G => ?_)
        refine lv_aload_n hx hb dX6_follow_71 rfl (lv_at hl 1 rfl) ?_
        refine gf_X6_7 hx hb hts hown G dX6_follow_72 ?_
        refine r_sipush hx hb dX6_follow_75 (by decide +kernel) ?_
        refine lv_dup2_11 hx hb dX6_follow_78 rfl rfl ?_
        refine r_iald hx hb G 134 (by decide) (N := 2910) (fun _ => rfl) (by omega) (by omega) (by decide) dX6_follow_79 ?_
        refine r_top (b := goM σ 134 290) (by simp [up_ap]) ?_
        refine lv_iload hx hb dX6_follow_80 (lv_at hl 0 rfl) ?_
        refine r_iconst hx hb dX6_follow_82 ?_
        refine r_icmp_ne (tgt := 90) hx hb ⟨by omega, by omega⟩ ⟨by decide, by decide⟩ dX6_follow_83 (by decide) (fun h_8 => ?_) (fun h_8 => ?_)
        · skip
          refine r_iconst hx hb dX6_follow_90 ?_
          refine r_iadd hx hb dX6_follow_91 ?_
          refine r_topk (b := wr (goM σ 134 290 + bz (mrf (goM σ) k y q = 1))) (by first | exact k_bz1 (by omega) | exact k_bz0 (by omega)) ?_
          refine r_iast hx hb G 134 (by decide) (N := 2910) (fun _ => rfl) (by omega) (by omega) (by decide) dX6_follow_92 (fun H locs G => ?_)
          refine lv_iload hx hb dX6_follow_93 (lv_at hl 0 rfl) ?_
          exact r_iret hx hb hr hlk G (by first | exact (if_neg hPQ).symm | exact (if_pos hPQ).symm) (by first | exact (if_neg hPQ).symm | exact (if_pos hPQ).symm) dX6_follow_95
        · skip
          refine r_iconst hx hb dX6_follow_86 ?_
          refine lv_goto (tgt := 91) hx hb dX6_follow_87 (by decide) ?_
          refine r_iadd hx hb dX6_follow_91 ?_
          refine r_topk (b := wr (goM σ 134 290 + bz (mrf (goM σ) k y q = 1))) (by first | exact k_bz1 (by omega) | exact k_bz0 (by omega)) ?_
          refine r_iast hx hb G 134 (by decide) (N := 2910) (fun _ => rfl) (by omega) (by omega) (by decide) dX6_follow_92 (fun H locs G => ?_)
          refine lv_iload hx hb dX6_follow_93 (lv_at hl 0 rfl) ?_
          exact r_iret hx hb hr hlk G (by first | exact (if_neg hPQ).symm | exact (if_pos hPQ).symm) (by first | exact (if_neg hPQ).symm | exact (if_pos hPQ).symm) dX6_follow_95
      · skip
        refine r_iconst hx hb dX6_follow_64 ?_
        refine lv_goto (tgt := 69) hx hb dX6_follow_65 (by decide) ?_
        refine r_iadd hx hb dX6_follow_69 ?_
        refine r_topk (b := wr (goM σ 134 289 + bz (mrf (goM σ) k y q = 2))) (by first | exact k_bz1 (by omega) | exact k_bz0 (by omega)) ?_
        refine r_iast hx hb G 134 (by decide) (N := 2910) (fun _ => rfl) (by omega) (by omega) (by decide) dX6_follow_70 (fun H locs G => ?_)
        refine lv_aload_n hx hb dX6_follow_71 rfl (lv_at hl 1 rfl) ?_
        refine gf_X6_7 hx hb hts hown G dX6_follow_72 ?_
        refine r_sipush hx hb dX6_follow_75 (by decide +kernel) ?_
        refine lv_dup2_11 hx hb dX6_follow_78 rfl rfl ?_
        refine r_iald hx hb G 134 (by decide) (N := 2910) (fun _ => rfl) (by omega) (by omega) (by decide) dX6_follow_79 ?_
        refine r_top (b := goM σ 134 290) (by simp [up_ap]) ?_
        refine lv_iload hx hb dX6_follow_80 (lv_at hl 0 rfl) ?_
        refine r_iconst hx hb dX6_follow_82 ?_
        refine r_icmp_ne (tgt := 90) hx hb ⟨by omega, by omega⟩ ⟨by decide, by decide⟩ dX6_follow_83 (by decide) (fun h_9 => ?_) (fun h_9 => ?_)
        · skip
          refine r_iconst hx hb dX6_follow_90 ?_
          refine r_iadd hx hb dX6_follow_91 ?_
          refine r_topk (b := wr (goM σ 134 290 + bz (mrf (goM σ) k y q = 1))) (by first | exact k_bz1 (by omega) | exact k_bz0 (by omega)) ?_
          refine r_iast hx hb G 134 (by decide) (N := 2910) (fun _ => rfl) (by omega) (by omega) (by decide) dX6_follow_92 (fun H locs G => ?_)
          refine lv_iload hx hb dX6_follow_93 (lv_at hl 0 rfl) ?_
          exact r_iret hx hb hr hlk G (by first | exact (if_neg hPQ).symm | exact (if_pos hPQ).symm) (by first | exact (if_neg hPQ).symm | exact (if_pos hPQ).symm) dX6_follow_95
        · skip
          refine r_iconst hx hb dX6_follow_86 ?_
          refine lv_goto (tgt := 91) hx hb dX6_follow_87 (by decide) ?_
          refine r_iadd hx hb dX6_follow_91 ?_
          refine r_topk (b := wr (goM σ 134 290 + bz (mrf (goM σ) k y q = 1))) (by first | exact k_bz1 (by omega) | exact k_bz0 (by omega)) ?_
          refine r_iast hx hb G 134 (by decide) (N := 2910) (fun _ => rfl) (by omega) (by omega) (by decide) dX6_follow_92 (fun H locs G => ?_)
          refine lv_iload hx hb dX6_follow_93 (lv_at hl 0 rfl) ?_
          exact r_iret hx hb hr hlk G (by first | exact (if_neg hPQ).symm | exact (if_pos hPQ).symm) (by first | exact (if_neg hPQ).symm | exact (if_pos hPQ).symm) dX6_follow_95
    · skip
      have hPQ := h_6
      refine r_iconst hx hb dX6_follow_22 ?_
      exact r_iret hx hb hr hlk G (by first | exact (if_neg hPQ).symm | exact (if_pos hPQ).symm) (by first | exact (if_neg hPQ).symm | exact (if_pos hPQ).symm) dX6_follow_23
set_option maxRecDepth 100000 in
set_option maxHeartbeats 4000000 in
theorem k_X6_passes (l : Launch) {σ : Mem} {N d : Int} (hd : 0 ≤ d) (hd2 : σ 134 3 + d ≤ 9999) (hG : SG σ 0 N) : CtI l yX6_passes (Cond.code yX6_passes cX6_passes 2 (some .int)) 4 93 (fun z => [.ref (z + 133), .int (kI d)]) σ (kin (mpa σ d) (-1) 4) (mpa σ d) := by
  intro D T z
  refine Ct_of (by decide) (Nat.le_of_ble_eq_true rfl) ?_
  intro p e s m below meth c ls hx hb hml hr hts hown hlk G hl
  have hown : s.vm.findClass RX6 = some m.cls := hown
  have hl : lv_has ls 2 [(0, .ref (z + 133)), (1, .int (kI d))] := hl
  refine lv_aload_n hx hb dX6_passes_0 rfl (lv_at hl 0 rfl) ?_
  refine gf_X6_7 hx hb hts hown G dX6_passes_1 ?_
  refine r_iconst hx hb dX6_passes_4 ?_
  refine lv_dup2_11 hx hb dX6_passes_5 rfl rfl ?_
  refine r_iald hx hb G 134 (by decide) (N := 2910) (fun _ => rfl) (by omega) (by omega) (by decide) dX6_passes_6 ?_
  refine lv_iload_n hx hb dX6_passes_7 rfl (lv_at hl 1 rfl) ?_
  refine r_iadd hx hb dX6_passes_8 ?_
  refine r_iast hx hb G 134 (by decide) (N := 2910) (fun _ => rfl) (by omega) (by omega) (by decide) dX6_passes_9 (fun H locs G => ?_)
  have G := G.cong (τ := mpa σ d) (rfl)
  refine lv_aload_n hx hb dX6_passes_10 rfl (lv_at hl 0 rfl) ?_
  refine r_iconst hx hb dX6_passes_11 ?_
  refine r_iconst hx hb dX6_passes_12 ?_
  refine r_callVI ⟨hx, hb, hml, hown, hts⟩ G (k_X6_keysIn l (kd := -1) (w := 4) (σ := mpa σ d) (⟨by decide, by decide⟩) (⟨by decide, by decide⟩) (hG.pa hd hd2)) (kV_X6_keysIn hts qM_X6_118 ⟨by decide, by decide⟩) (rc_X6 G) rfl rfl hl.1 rfl (Nat.le_of_ble_eq_true rfl) dX6_passes_13 ⟨Nat.le_refl _, Nat.le_refl _⟩ (fun H locs G => ?_)
  exact r_iret hx hb hr hlk G (by first | rfl | omega) (by rfl) dX6_passes_16
theorem goM_3 {σ : Mem} (hs : 0 ≤ σ 133 1 ∧ σ 133 1 ≤ 6) : goM σ 134 3 = σ 134 3 := by
  unfold goM; rw [svM_0 (by simp [up_ap]; omega) (by omega), up_ap, if_neg (by omega)]
set_option maxRecDepth 100000 in
set_option maxHeartbeats 4000000 in
theorem k_X6_pass (l : Launch) {σ : Mem} {N d : Int} (hd0 : inR d) (hs : 0 ≤ σ 133 1 ∧ σ 133 1 ≤ 6) (hG : SG σ 0 N) : CtI l yX6_pass (Cond.code yX6_pass cX6_pass 3 (some .int)) 5 114 (fun z => [.ref (z + 133), .int (kI d)]) σ (if (1 ≤ d ∧ d ≤ 99) ∧ ((1 ≤ d ∧ d ≤ 99) ∧ σ 134 3 ≤ 9999 - d) then kin (mpa (goM σ) d) (-1) 4 else 0) (if (1 ≤ d ∧ d ≤ 99) ∧ ((1 ≤ d ∧ d ≤ 99) ∧ σ 134 3 ≤ 9999 - d) then mpa (goM σ) d else up σ 133 3 (if (1 ≤ d ∧ d ≤ 99) then (if ((1 ≤ d ∧ d ≤ 99) ∧ σ 134 3 ≤ 9999 - d) then 0 else 2) else 1)) := by
  intro D T z
  refine Ct_of (by decide) (Nat.le_of_ble_eq_true rfl) ?_
  intro p e s m below meth c ls hx hb hml hr hts hown hlk G hl
  have hown : s.vm.findClass RX6 = some m.cls := hown
  have hl : lv_has ls 3 [(0, .ref (z + 133)), (1, .int (kI d))] := hl
  refine lv_iload_n hx hb dX6_pass_0 rfl (lv_at hl 1 rfl) ?_
  refine r_iconst hx hb dX6_pass_1 ?_
  refine r_bipush hx hb dX6_pass_2 (by decide +kernel) ?_
  refine r_callSI ⟨hx, hb, hml, hown, hts⟩ G (k_X6_in l (v := d) (lo := 1) (hi := 99) (σ := σ) (⟨by omega, by omega⟩) (⟨by omega, by omega⟩) (⟨by omega, by omega⟩)) (kS_X6_in hts qM_X6_32 ⟨by decide, by decide⟩) rfl rfl hl.1 rfl (Nat.le_of_ble_eq_true rfl) dX6_pass_4 ⟨Nat.le_refl _, Nat.le_refl _⟩ (fun H locs G => ?_)
  refine lv_istore_n (lv' := [(2, .int (kI (bz (1 ≤ d ∧ d ≤ 99)))), (0, .ref (z + 133)), (1, .int (kI d))]) hx hb dX6_pass_7 rfl hl (by decide) rfl (fun ls hl => ?_)
  refine lv_aload_n hx hb dX6_pass_8 rfl (lv_at hl 1 rfl) ?_
  refine lv_iload_n hx hb dX6_pass_9 rfl (lv_at hl 0 rfl) ?_
  refine lv_iload_n hx hb dX6_pass_10 rfl (lv_at hl 0 rfl) ?_
  refine r_zeq (tgt := 32) hx hb dX6_pass_11 (by decide) (fun h_1 => ?_) (fun h_1 => ?_)
  · skip
    refine r_iconst hx hb dX6_pass_32 ?_
    refine r_top (b := bz ((1 ≤ d ∧ d ≤ 99) ∧ σ 134 3 ≤ 9999 - d)) (by first | exact one_bz (by omega) | exact zero_bz (by omega)) ?_
    skip
    refine r_callVI ⟨hx, hb, hml, hown, hts⟩ G (k_X6_goes l (P := 1 ≤ d ∧ d ≤ 99) (Q := (1 ≤ d ∧ d ≤ 99) ∧ σ 134 3 ≤ 9999 - d) (σ := σ) ) (kV_X6_goes hts qM_X6_83 ⟨by decide, by decide⟩) (rc_X6 G) rfl rfl hl.1 rfl (Nat.le_of_ble_eq_true rfl) dX6_pass_33 ⟨Nat.le_refl _, Nat.le_refl _⟩ (fun H locs G => ?_)
    refine r_zne (tgt := 41) hx hb dX6_pass_36 (by decide) (fun h_2 => ?_) (fun h_2 => ?_)
    · skip
      have hPQ := h_2
      have G := G.cong (τ := up σ 133 3 0) (by rw [if_pos hPQ.1, if_pos hPQ.2])
      refine lv_aload_n hx hb dX6_pass_41 rfl (lv_at hl 1 rfl) ?_
      refine r_callVV ⟨hx, hb, hml, hown, hts⟩ G (k_X6_saves l (σ := up σ 133 3 0) (⟨by simp [up_ap]; omega, by simp [up_ap]; omega⟩)) (kV_X6_saves hts qM_X6_87 ⟨by decide, by decide⟩) (rc_X6 G) rfl rfl hl.1 rfl (Nat.le_of_ble_eq_true rfl) dX6_pass_42 ⟨Nat.le_refl _, Nat.le_refl _⟩ (fun H locs G => ?_)
      have G := G.cong (τ := goM σ) (rfl)
      refine lv_aload_n hx hb dX6_pass_45 rfl (lv_at hl 1 rfl) ?_
      refine lv_iload_n hx hb dX6_pass_46 rfl (lv_at hl 2 rfl) ?_
      refine r_callVI ⟨hx, hb, hml, hown, hts⟩ G (k_X6_passes l (d := d) (σ := goM σ) (by omega) (by rw [goM_3 hs]; omega) (hG.go hs)) (kV_X6_passes hts qM_X6_121 ⟨by decide, by decide⟩) (rc_X6 G) rfl rfl hl.1 rfl (Nat.le_of_ble_eq_true rfl) dX6_pass_47 ⟨Nat.le_refl _, Nat.le_refl _⟩ (fun H locs G => ?_)
      exact r_iret hx hb hr hlk G (by first | exact (if_neg hPQ).symm | exact (if_pos hPQ).symm) (by first | exact (if_neg hPQ).symm | exact (if_pos hPQ).symm) dX6_pass_50
    · skip
      have hPQ := h_2
      refine r_iconst hx hb dX6_pass_39 ?_
      exact r_iret hx hb hr hlk G (by first | exact (if_neg hPQ).symm | exact (if_pos hPQ).symm) (by first | exact (if_neg hPQ).symm | exact (if_pos hPQ).symm) dX6_pass_40
  · skip
    have hdd : 0 ≤ σ 134 3 ∧ σ 134 3 ≤ 9999 := hG.d
    refine lv_aload_n hx hb dX6_pass_14 rfl (lv_at hl 1 rfl) ?_
    refine gf_X6_7 hx hb hts hown G dX6_pass_15 ?_
    refine r_iconst hx hb dX6_pass_18 ?_
    refine r_iald hx hb G 134 (by decide) (N := 2910) (fun _ => rfl) (by omega) (by omega) (by decide) dX6_pass_19 ?_
    refine r_sipush hx hb dX6_pass_20 (by decide +kernel) ?_
    refine lv_iload_n hx hb dX6_pass_23 rfl (lv_at hl 2 rfl) ?_
    refine r_isub hx hb dX6_pass_24 ?_
    refine r_icmp_gt (tgt := 32) hx hb ⟨by omega, by omega⟩ ⟨by omega, by omega⟩ dX6_pass_25 (by decide) (fun h_3 => ?_) (fun h_3 => ?_)
    · skip
      refine r_iconst hx hb dX6_pass_32 ?_
      refine r_top (b := bz ((1 ≤ d ∧ d ≤ 99) ∧ σ 134 3 ≤ 9999 - d)) (by first | exact one_bz (by omega) | exact zero_bz (by omega)) ?_
      skip
      refine r_callVI ⟨hx, hb, hml, hown, hts⟩ G (k_X6_goes l (P := 1 ≤ d ∧ d ≤ 99) (Q := (1 ≤ d ∧ d ≤ 99) ∧ σ 134 3 ≤ 9999 - d) (σ := σ) ) (kV_X6_goes hts qM_X6_83 ⟨by decide, by decide⟩) (rc_X6 G) rfl rfl hl.1 rfl (Nat.le_of_ble_eq_true rfl) dX6_pass_33 ⟨Nat.le_refl _, Nat.le_refl _⟩ (fun H locs G => ?_)
      refine r_zne (tgt := 41) hx hb dX6_pass_36 (by decide) (fun h_4 => ?_) (fun h_4 => ?_)
      · skip
        have hPQ := h_4
        have G := G.cong (τ := up σ 133 3 0) (by rw [if_pos hPQ.1, if_pos hPQ.2])
        refine lv_aload_n hx hb dX6_pass_41 rfl (lv_at hl 1 rfl) ?_
        refine r_callVV ⟨hx, hb, hml, hown, hts⟩ G (k_X6_saves l (σ := up σ 133 3 0) (⟨by simp [up_ap]; omega, by simp [up_ap]; omega⟩)) (kV_X6_saves hts qM_X6_87 ⟨by decide, by decide⟩) (rc_X6 G) rfl rfl hl.1 rfl (Nat.le_of_ble_eq_true rfl) dX6_pass_42 ⟨Nat.le_refl _, Nat.le_refl _⟩ (fun H locs G => ?_)
        have G := G.cong (τ := goM σ) (rfl)
        refine lv_aload_n hx hb dX6_pass_45 rfl (lv_at hl 1 rfl) ?_
        refine lv_iload_n hx hb dX6_pass_46 rfl (lv_at hl 2 rfl) ?_
        refine r_callVI ⟨hx, hb, hml, hown, hts⟩ G (k_X6_passes l (d := d) (σ := goM σ) (by omega) (by rw [goM_3 hs]; omega) (hG.go hs)) (kV_X6_passes hts qM_X6_121 ⟨by decide, by decide⟩) (rc_X6 G) rfl rfl hl.1 rfl (Nat.le_of_ble_eq_true rfl) dX6_pass_47 ⟨Nat.le_refl _, Nat.le_refl _⟩ (fun H locs G => ?_)
        exact r_iret hx hb hr hlk G (by first | exact (if_neg hPQ).symm | exact (if_pos hPQ).symm) (by first | exact (if_neg hPQ).symm | exact (if_pos hPQ).symm) dX6_pass_50
      · skip
        have hPQ := h_4
        refine r_iconst hx hb dX6_pass_39 ?_
        exact r_iret hx hb hr hlk G (by first | exact (if_neg hPQ).symm | exact (if_pos hPQ).symm) (by first | exact (if_neg hPQ).symm | exact (if_pos hPQ).symm) dX6_pass_40
    · skip
      refine r_iconst hx hb dX6_pass_28 ?_
      refine lv_goto (tgt := 33) hx hb dX6_pass_29 (by decide) ?_
      refine r_top (b := bz ((1 ≤ d ∧ d ≤ 99) ∧ σ 134 3 ≤ 9999 - d)) (by first | exact one_bz (by omega) | exact zero_bz (by omega)) ?_
      skip
      refine r_callVI ⟨hx, hb, hml, hown, hts⟩ G (k_X6_goes l (P := 1 ≤ d ∧ d ≤ 99) (Q := (1 ≤ d ∧ d ≤ 99) ∧ σ 134 3 ≤ 9999 - d) (σ := σ) ) (kV_X6_goes hts qM_X6_83 ⟨by decide, by decide⟩) (rc_X6 G) rfl rfl hl.1 rfl (Nat.le_of_ble_eq_true rfl) dX6_pass_33 ⟨Nat.le_refl _, Nat.le_refl _⟩ (fun H locs G => ?_)
      refine r_zne (tgt := 41) hx hb dX6_pass_36 (by decide) (fun h_5 => ?_) (fun h_5 => ?_)
      · skip
        have hPQ := h_5
        have G := G.cong (τ := up σ 133 3 0) (by rw [if_pos hPQ.1, if_pos hPQ.2])
        refine lv_aload_n hx hb dX6_pass_41 rfl (lv_at hl 1 rfl) ?_
        refine r_callVV ⟨hx, hb, hml, hown, hts⟩ G (k_X6_saves l (σ := up σ 133 3 0) (⟨by simp [up_ap]; omega, by simp [up_ap]; omega⟩)) (kV_X6_saves hts qM_X6_87 ⟨by decide, by decide⟩) (rc_X6 G) rfl rfl hl.1 rfl (Nat.le_of_ble_eq_true rfl) dX6_pass_42 ⟨Nat.le_refl _, Nat.le_refl _⟩ (fun H locs G => ?_)
        have G := G.cong (τ := goM σ) (rfl)
        refine lv_aload_n hx hb dX6_pass_45 rfl (lv_at hl 1 rfl) ?_
        refine lv_iload_n hx hb dX6_pass_46 rfl (lv_at hl 2 rfl) ?_
        refine r_callVI ⟨hx, hb, hml, hown, hts⟩ G (k_X6_passes l (d := d) (σ := goM σ) (by omega) (by rw [goM_3 hs]; omega) (hG.go hs)) (kV_X6_passes hts qM_X6_121 ⟨by decide, by decide⟩) (rc_X6 G) rfl rfl hl.1 rfl (Nat.le_of_ble_eq_true rfl) dX6_pass_47 ⟨Nat.le_refl _, Nat.le_refl _⟩ (fun H locs G => ?_)
        exact r_iret hx hb hr hlk G (by first | exact (if_neg hPQ).symm | exact (if_pos hPQ).symm) (by first | exact (if_neg hPQ).symm | exact (if_pos hPQ).symm) dX6_pass_50
      · skip
        have hPQ := h_5
        refine r_iconst hx hb dX6_pass_39 ?_
        exact r_iret hx hb hr hlk G (by first | exact (if_neg hPQ).symm | exact (if_pos hPQ).symm) (by first | exact (if_neg hPQ).symm | exact (if_pos hPQ).symm) dX6_pass_40
set_option maxRecDepth 100000 in
set_option maxHeartbeats 4000000 in
theorem k_X6_season (l : Launch) {σ : Mem} {N k d : Int} (hk0 : inR k) (hd0 : inR d) (hs : 0 ≤ σ 133 1 ∧ σ 133 1 ≤ 6) (hG : SG σ 0 N) : CtI l yX6_season (Cond.code yX6_season cX6_season 3 (some .int)) 2 44 (fun z => [.ref (z + 133), .int (kI k), .int (kI d)]) σ (if isK k ∧ (0 ≤ d ∧ d ≤ 99) then (goM σ) 134 (4 + k) else 0) (if isK k ∧ (0 ≤ d ∧ d ≤ 99) then up (goM σ) 134 (4 + k) d else up σ 133 3 (if isK k then (if (0 ≤ d ∧ d ≤ 99) then 0 else 2) else 1)) := by
  intro D T z
  refine Ct_of (by decide) (Nat.le_of_ble_eq_true rfl) ?_
  intro p e s m below meth c ls hx hb hml hr hts hown hlk G hl
  have hown : s.vm.findClass RX6 = some m.cls := hown
  have hl : lv_has ls 3 [(0, .ref (z + 133)), (1, .int (kI k)), (2, .int (kI d))] := hl
  refine lv_aload_n hx hb dX6_season_0 rfl (lv_at hl 0 rfl) ?_
  refine lv_iload_n hx hb dX6_season_1 rfl (lv_at hl 1 rfl) ?_
  refine r_callSI ⟨hx, hb, hml, hown, hts⟩ G (k_X6_isKind l (v := k) (σ := σ) (⟨by omega, by omega⟩)) (kS_X6_isKind hts qM_X6_36 ⟨by decide, by decide⟩) rfl rfl hl.1 rfl (Nat.le_of_ble_eq_true rfl) dX6_season_2 ⟨Nat.le_refl _, Nat.le_refl _⟩ (fun H locs G => ?_)
  refine lv_iload_n hx hb dX6_season_5 rfl (lv_at hl 2 rfl) ?_
  refine r_iconst hx hb dX6_season_6 ?_
  refine r_bipush hx hb dX6_season_7 (by decide +kernel) ?_
  refine r_callSI ⟨hx, hb, hml, hown, hts⟩ G (k_X6_in l (v := d) (lo := 0) (hi := 99) (σ := σ) (⟨by omega, by omega⟩) (⟨by omega, by omega⟩) (⟨by omega, by omega⟩)) (kS_X6_in hts qM_X6_32 ⟨by decide, by decide⟩) rfl rfl hl.1 rfl (Nat.le_of_ble_eq_true rfl) dX6_season_9 ⟨Nat.le_refl _, Nat.le_refl _⟩ (fun H locs G => ?_)
  refine r_callVI ⟨hx, hb, hml, hown, hts⟩ G (k_X6_goes l (P := 0 ≤ k ∧ k ≤ 3) (Q := 0 ≤ d ∧ d ≤ 99) (σ := σ) ) (kV_X6_goes hts qM_X6_83 ⟨by decide, by decide⟩) (rc_X6 G) rfl rfl hl.1 rfl (Nat.le_of_ble_eq_true rfl) dX6_season_12 ⟨Nat.le_refl _, Nat.le_refl _⟩ (fun H locs G => ?_)
  refine r_zne (tgt := 20) hx hb dX6_season_15 (by decide) (fun h_1 => ?_) (fun h_1 => ?_)
  · skip
    have hPQ := h_1
    have G := G.cong (τ := up σ 133 3 0) (by rw [if_pos hPQ.1, if_pos hPQ.2])
    refine lv_aload_n hx hb dX6_season_20 rfl (lv_at hl 0 rfl) ?_
    refine r_callVV ⟨hx, hb, hml, hown, hts⟩ G (k_X6_saves l (σ := up σ 133 3 0) (⟨by simp [up_ap]; omega, by simp [up_ap]; omega⟩)) (kV_X6_saves hts qM_X6_87 ⟨by decide, by decide⟩) (rc_X6 G) rfl rfl hl.1 rfl (Nat.le_of_ble_eq_true rfl) dX6_season_21 ⟨Nat.le_refl _, Nat.le_refl _⟩ (fun H locs G => ?_)
    have G := G.cong (τ := goM σ) (rfl)
    refine lv_aload_n hx hb dX6_season_24 rfl (lv_at hl 0 rfl) ?_
    refine r_iconst hx hb dX6_season_25 ?_
    refine lv_iload_n hx hb dX6_season_26 rfl (lv_at hl 1 rfl) ?_
    refine r_iadd hx hb dX6_season_27 ?_
    refine lv_iload_n hx hb dX6_season_28 rfl (lv_at hl 2 rfl) ?_
    refine r_callVI ⟨hx, hb, hml, hown, hts⟩ G (k_X6_changes l (q := 4 + k) (v := d) (σ := goM σ) (⟨by omega, by omega⟩)) (kV_X6_changes hts qM_X6_124 ⟨by decide, by decide⟩) (rc_X6 G) rfl rfl hl.1 rfl (Nat.le_of_ble_eq_true rfl) dX6_season_29 ⟨Nat.le_refl _, Nat.le_refl _⟩ (fun H locs G => ?_)
    exact r_iret hx hb hr hlk G (by first | exact (if_neg hPQ).symm | exact (if_pos hPQ).symm) (by first | exact (if_neg hPQ).symm | exact (if_pos hPQ).symm) dX6_season_32
  · skip
    have hPQ := h_1
    refine r_iconst hx hb dX6_season_18 ?_
    exact r_iret hx hb hr hlk G (by first | exact (if_neg hPQ).symm | exact (if_pos hPQ).symm) (by first | exact (if_neg hPQ).symm | exact (if_pos hPQ).symm) dX6_season_19
set_option maxRecDepth 100000 in
set_option maxHeartbeats 4000000 in
theorem k_X6_set (l : Launch) {σ : Mem} {N k d : Int} (hk0 : inR k) (hd0 : inR d) (hs : 0 ≤ σ 133 1 ∧ σ 133 1 ≤ 6) (hG : SG σ 0 N) : CtI l yX6_set (Cond.code yX6_set cX6_set 3 (some .int)) 2 44 (fun z => [.ref (z + 133), .int (kI k), .int (kI d)]) σ (if (0 ≤ k ∧ k ≤ 2) ∧ ((if k = 1 then 1 else 0) ≤ d ∧ d ≤ (if k = 0 then 3 else if k = 1 then 9 else 20)) then (goM σ) 134 k else 0) (if (0 ≤ k ∧ k ≤ 2) ∧ ((if k = 1 then 1 else 0) ≤ d ∧ d ≤ (if k = 0 then 3 else if k = 1 then 9 else 20)) then up (goM σ) 134 k d else up σ 133 3 (if (0 ≤ k ∧ k ≤ 2) then (if ((if k = 1 then 1 else 0) ≤ d ∧ d ≤ (if k = 0 then 3 else if k = 1 then 9 else 20)) then 0 else 2) else 1)) := by
  intro D T z
  refine Ct_of (by decide) (Nat.le_of_ble_eq_true rfl) ?_
  intro p e s m below meth c ls hx hb hml hr hts hown hlk G hl
  have hown : s.vm.findClass RX6 = some m.cls := hown
  have hl : lv_has ls 3 [(0, .ref (z + 133)), (1, .int (kI k)), (2, .int (kI d))] := hl
  refine lv_aload_n hx hb dX6_set_0 rfl (lv_at hl 0 rfl) ?_
  refine lv_iload_n hx hb dX6_set_1 rfl (lv_at hl 1 rfl) ?_
  refine r_iconst hx hb dX6_set_2 ?_
  refine r_iconst hx hb dX6_set_3 ?_
  refine r_callSI ⟨hx, hb, hml, hown, hts⟩ G (k_X6_in l (v := k) (lo := 0) (hi := 2) (σ := σ) (⟨by omega, by omega⟩) (⟨by omega, by omega⟩) (⟨by omega, by omega⟩)) (kS_X6_in hts qM_X6_32 ⟨by decide, by decide⟩) rfl rfl hl.1 rfl (Nat.le_of_ble_eq_true rfl) dX6_set_4 ⟨Nat.le_refl _, Nat.le_refl _⟩ (fun H locs G => ?_)
  refine lv_iload_n hx hb dX6_set_7 rfl (lv_at hl 2 rfl) ?_
  refine lv_iload_n hx hb dX6_set_8 rfl (lv_at hl 1 rfl) ?_
  refine r_iconst hx hb dX6_set_9 ?_
  refine r_icmp_ne (tgt := 17) hx hb ⟨by omega, by omega⟩ ⟨by decide, by decide⟩ dX6_set_10 (by decide) (fun h_1 => ?_) (fun h_1 => ?_)
  · skip
    refine r_iconst hx hb dX6_set_17 ?_
    refine r_top (b := if k = 1 then 1 else 0) (by first | rw [if_pos (by omega)] | rw [if_neg (by omega)]) ?_
    have hl1 : 0 ≤ (if k = 1 then (1 : Int) else 0) ∧ (if k = 1 then (1 : Int) else 0) ≤ 1 := by split <;> omega
    refine lv_iload_n hx hb dX6_set_18 rfl (lv_at hl 1 rfl) ?_
    refine r_if_ne (tgt := 26) hx hb ⟨by omega, by omega⟩ dX6_set_19 (by decide) (fun h_2 => ?_) (fun h_2 => ?_)
    · skip
      refine lv_iload_n hx hb dX6_set_26 rfl (lv_at hl 1 rfl) ?_
      refine r_iconst hx hb dX6_set_27 ?_
      refine r_icmp_ne (tgt := 36) hx hb ⟨by omega, by omega⟩ ⟨by decide, by decide⟩ dX6_set_28 (by decide) (fun h_3 => ?_) (fun h_3 => ?_)
      · skip
        refine r_bipush hx hb dX6_set_36 (by decide +kernel) ?_
        refine r_top (b := if k = 0 then 3 else if k = 1 then 9 else 20) (by (repeat' split) <;> omega) ?_
        have hl2 : 3 ≤ (if k = 0 then (3 : Int) else if k = 1 then 9 else 20) ∧ (if k = 0 then (3 : Int) else if k = 1 then 9 else 20) ≤ 20 := by (repeat' split) <;> omega
        refine r_callSI ⟨hx, hb, hml, hown, hts⟩ G (k_X6_in l (v := d) (lo := if k = 1 then 1 else 0) (hi := if k = 0 then 3 else if k = 1 then 9 else 20) (σ := σ) (⟨by omega, by omega⟩) (⟨by omega, by omega⟩) (⟨by omega, by omega⟩)) (kS_X6_in hts qM_X6_32 ⟨by decide, by decide⟩) rfl rfl hl.1 rfl (Nat.le_of_ble_eq_true rfl) dX6_set_38 ⟨Nat.le_refl _, Nat.le_refl _⟩ (fun H locs G => ?_)
        refine r_callVI ⟨hx, hb, hml, hown, hts⟩ G (k_X6_goes l (P := 0 ≤ k ∧ k ≤ 2) (Q := (if k = 1 then 1 else 0) ≤ d ∧ d ≤ (if k = 0 then 3 else if k = 1 then 9 else 20)) (σ := σ) ) (kV_X6_goes hts qM_X6_83 ⟨by decide, by decide⟩) (rc_X6 G) rfl rfl hl.1 rfl (Nat.le_of_ble_eq_true rfl) dX6_set_41 ⟨Nat.le_refl _, Nat.le_refl _⟩ (fun H locs G => ?_)
        refine r_zne (tgt := 49) hx hb dX6_set_44 (by decide) (fun h_4 => ?_) (fun h_4 => ?_)
        · skip
          have hPQ := h_4
          have G := G.cong (τ := up σ 133 3 0) (by rw [if_pos hPQ.1, if_pos hPQ.2])
          refine lv_aload_n hx hb dX6_set_49 rfl (lv_at hl 0 rfl) ?_
          refine r_callVV ⟨hx, hb, hml, hown, hts⟩ G (k_X6_saves l (σ := up σ 133 3 0) (⟨by simp [up_ap]; omega, by simp [up_ap]; omega⟩)) (kV_X6_saves hts qM_X6_87 ⟨by decide, by decide⟩) (rc_X6 G) rfl rfl hl.1 rfl (Nat.le_of_ble_eq_true rfl) dX6_set_50 ⟨Nat.le_refl _, Nat.le_refl _⟩ (fun H locs G => ?_)
          have G := G.cong (τ := goM σ) (rfl)
          refine lv_aload_n hx hb dX6_set_53 rfl (lv_at hl 0 rfl) ?_
          refine lv_iload_n hx hb dX6_set_54 rfl (lv_at hl 1 rfl) ?_
          refine lv_iload_n hx hb dX6_set_55 rfl (lv_at hl 2 rfl) ?_
          refine r_callVI ⟨hx, hb, hml, hown, hts⟩ G (k_X6_changes l (q := k) (v := d) (σ := goM σ) (⟨by omega, by omega⟩)) (kV_X6_changes hts qM_X6_124 ⟨by decide, by decide⟩) (rc_X6 G) rfl rfl hl.1 rfl (Nat.le_of_ble_eq_true rfl) dX6_set_56 ⟨Nat.le_refl _, Nat.le_refl _⟩ (fun H locs G => ?_)
          exact r_iret hx hb hr hlk G (by first | exact (if_neg hPQ).symm | exact (if_pos hPQ).symm) (by first | exact (if_neg hPQ).symm | exact (if_pos hPQ).symm) dX6_set_59
        · skip
          have hPQ := h_4
          refine r_iconst hx hb dX6_set_47 ?_
          exact r_iret hx hb hr hlk G (by first | exact (if_neg hPQ).symm | exact (if_pos hPQ).symm) (by first | exact (if_neg hPQ).symm | exact (if_pos hPQ).symm) dX6_set_48
      · skip
        refine r_bipush hx hb dX6_set_31 (by decide +kernel) ?_
        refine lv_goto (tgt := 38) hx hb dX6_set_33 (by decide) ?_
        refine r_top (b := if k = 0 then 3 else if k = 1 then 9 else 20) (by (repeat' split) <;> omega) ?_
        have hl2 : 3 ≤ (if k = 0 then (3 : Int) else if k = 1 then 9 else 20) ∧ (if k = 0 then (3 : Int) else if k = 1 then 9 else 20) ≤ 20 := by (repeat' split) <;> omega
        refine r_callSI ⟨hx, hb, hml, hown, hts⟩ G (k_X6_in l (v := d) (lo := if k = 1 then 1 else 0) (hi := if k = 0 then 3 else if k = 1 then 9 else 20) (σ := σ) (⟨by omega, by omega⟩) (⟨by omega, by omega⟩) (⟨by omega, by omega⟩)) (kS_X6_in hts qM_X6_32 ⟨by decide, by decide⟩) rfl rfl hl.1 rfl (Nat.le_of_ble_eq_true rfl) dX6_set_38 ⟨Nat.le_refl _, Nat.le_refl _⟩ (fun H locs G => ?_)
        refine r_callVI ⟨hx, hb, hml, hown, hts⟩ G (k_X6_goes l (P := 0 ≤ k ∧ k ≤ 2) (Q := (if k = 1 then 1 else 0) ≤ d ∧ d ≤ (if k = 0 then 3 else if k = 1 then 9 else 20)) (σ := σ) ) (kV_X6_goes hts qM_X6_83 ⟨by decide, by decide⟩) (rc_X6 G) rfl rfl hl.1 rfl (Nat.le_of_ble_eq_true rfl) dX6_set_41 ⟨Nat.le_refl _, Nat.le_refl _⟩ (fun H locs G => ?_)
        refine r_zne (tgt := 49) hx hb dX6_set_44 (by decide) (fun h_5 => ?_) (fun h_5 => ?_)
        · skip
          have hPQ := h_5
          have G := G.cong (τ := up σ 133 3 0) (by rw [if_pos hPQ.1, if_pos hPQ.2])
          refine lv_aload_n hx hb dX6_set_49 rfl (lv_at hl 0 rfl) ?_
          refine r_callVV ⟨hx, hb, hml, hown, hts⟩ G (k_X6_saves l (σ := up σ 133 3 0) (⟨by simp [up_ap]; omega, by simp [up_ap]; omega⟩)) (kV_X6_saves hts qM_X6_87 ⟨by decide, by decide⟩) (rc_X6 G) rfl rfl hl.1 rfl (Nat.le_of_ble_eq_true rfl) dX6_set_50 ⟨Nat.le_refl _, Nat.le_refl _⟩ (fun H locs G => ?_)
          have G := G.cong (τ := goM σ) (rfl)
          refine lv_aload_n hx hb dX6_set_53 rfl (lv_at hl 0 rfl) ?_
          refine lv_iload_n hx hb dX6_set_54 rfl (lv_at hl 1 rfl) ?_
          refine lv_iload_n hx hb dX6_set_55 rfl (lv_at hl 2 rfl) ?_
          refine r_callVI ⟨hx, hb, hml, hown, hts⟩ G (k_X6_changes l (q := k) (v := d) (σ := goM σ) (⟨by omega, by omega⟩)) (kV_X6_changes hts qM_X6_124 ⟨by decide, by decide⟩) (rc_X6 G) rfl rfl hl.1 rfl (Nat.le_of_ble_eq_true rfl) dX6_set_56 ⟨Nat.le_refl _, Nat.le_refl _⟩ (fun H locs G => ?_)
          exact r_iret hx hb hr hlk G (by first | exact (if_neg hPQ).symm | exact (if_pos hPQ).symm) (by first | exact (if_neg hPQ).symm | exact (if_pos hPQ).symm) dX6_set_59
        · skip
          have hPQ := h_5
          refine r_iconst hx hb dX6_set_47 ?_
          exact r_iret hx hb hr hlk G (by first | exact (if_neg hPQ).symm | exact (if_pos hPQ).symm) (by first | exact (if_neg hPQ).symm | exact (if_pos hPQ).symm) dX6_set_48
    · skip
      refine r_iconst hx hb dX6_set_22 ?_
      refine lv_goto (tgt := 38) hx hb dX6_set_23 (by decide) ?_
      refine r_top (b := if k = 0 then 3 else if k = 1 then 9 else 20) (by (repeat' split) <;> omega) ?_
      have hl2 : 3 ≤ (if k = 0 then (3 : Int) else if k = 1 then 9 else 20) ∧ (if k = 0 then (3 : Int) else if k = 1 then 9 else 20) ≤ 20 := by (repeat' split) <;> omega
      refine r_callSI ⟨hx, hb, hml, hown, hts⟩ G (k_X6_in l (v := d) (lo := if k = 1 then 1 else 0) (hi := if k = 0 then 3 else if k = 1 then 9 else 20) (σ := σ) (⟨by omega, by omega⟩) (⟨by omega, by omega⟩) (⟨by omega, by omega⟩)) (kS_X6_in hts qM_X6_32 ⟨by decide, by decide⟩) rfl rfl hl.1 rfl (Nat.le_of_ble_eq_true rfl) dX6_set_38 ⟨Nat.le_refl _, Nat.le_refl _⟩ (fun H locs G => ?_)
      refine r_callVI ⟨hx, hb, hml, hown, hts⟩ G (k_X6_goes l (P := 0 ≤ k ∧ k ≤ 2) (Q := (if k = 1 then 1 else 0) ≤ d ∧ d ≤ (if k = 0 then 3 else if k = 1 then 9 else 20)) (σ := σ) ) (kV_X6_goes hts qM_X6_83 ⟨by decide, by decide⟩) (rc_X6 G) rfl rfl hl.1 rfl (Nat.le_of_ble_eq_true rfl) dX6_set_41 ⟨Nat.le_refl _, Nat.le_refl _⟩ (fun H locs G => ?_)
      refine r_zne (tgt := 49) hx hb dX6_set_44 (by decide) (fun h_6 => ?_) (fun h_6 => ?_)
      · skip
        have hPQ := h_6
        have G := G.cong (τ := up σ 133 3 0) (by rw [if_pos hPQ.1, if_pos hPQ.2])
        refine lv_aload_n hx hb dX6_set_49 rfl (lv_at hl 0 rfl) ?_
        refine r_callVV ⟨hx, hb, hml, hown, hts⟩ G (k_X6_saves l (σ := up σ 133 3 0) (⟨by simp [up_ap]; omega, by simp [up_ap]; omega⟩)) (kV_X6_saves hts qM_X6_87 ⟨by decide, by decide⟩) (rc_X6 G) rfl rfl hl.1 rfl (Nat.le_of_ble_eq_true rfl) dX6_set_50 ⟨Nat.le_refl _, Nat.le_refl _⟩ (fun H locs G => ?_)
        have G := G.cong (τ := goM σ) (rfl)
        refine lv_aload_n hx hb dX6_set_53 rfl (lv_at hl 0 rfl) ?_
        refine lv_iload_n hx hb dX6_set_54 rfl (lv_at hl 1 rfl) ?_
        refine lv_iload_n hx hb dX6_set_55 rfl (lv_at hl 2 rfl) ?_
        refine r_callVI ⟨hx, hb, hml, hown, hts⟩ G (k_X6_changes l (q := k) (v := d) (σ := goM σ) (⟨by omega, by omega⟩)) (kV_X6_changes hts qM_X6_124 ⟨by decide, by decide⟩) (rc_X6 G) rfl rfl hl.1 rfl (Nat.le_of_ble_eq_true rfl) dX6_set_56 ⟨Nat.le_refl _, Nat.le_refl _⟩ (fun H locs G => ?_)
        exact r_iret hx hb hr hlk G (by first | exact (if_neg hPQ).symm | exact (if_pos hPQ).symm) (by first | exact (if_neg hPQ).symm | exact (if_pos hPQ).symm) dX6_set_59
      · skip
        have hPQ := h_6
        refine r_iconst hx hb dX6_set_47 ?_
        exact r_iret hx hb hr hlk G (by first | exact (if_neg hPQ).symm | exact (if_pos hPQ).symm) (by first | exact (if_neg hPQ).symm | exact (if_pos hPQ).symm) dX6_set_48
  · skip
    refine r_iconst hx hb dX6_set_13 ?_
    refine lv_goto (tgt := 18) hx hb dX6_set_14 (by decide) ?_
    refine r_top (b := if k = 1 then 1 else 0) (by first | rw [if_pos (by omega)] | rw [if_neg (by omega)]) ?_
    have hl1 : 0 ≤ (if k = 1 then (1 : Int) else 0) ∧ (if k = 1 then (1 : Int) else 0) ≤ 1 := by split <;> omega
    refine lv_iload_n hx hb dX6_set_18 rfl (lv_at hl 1 rfl) ?_
    refine r_if_ne (tgt := 26) hx hb ⟨by omega, by omega⟩ dX6_set_19 (by decide) (fun h_7 => ?_) (fun h_7 => ?_)
    · skip
      refine lv_iload_n hx hb dX6_set_26 rfl (lv_at hl 1 rfl) ?_
      refine r_iconst hx hb dX6_set_27 ?_
      refine r_icmp_ne (tgt := 36) hx hb ⟨by omega, by omega⟩ ⟨by decide, by decide⟩ dX6_set_28 (by decide) (fun h_8 => ?_) (fun h_8 => ?_)
      · skip
        refine r_bipush hx hb dX6_set_36 (by decide +kernel) ?_
        refine r_top (b := if k = 0 then 3 else if k = 1 then 9 else 20) (by (repeat' split) <;> omega) ?_
        have hl2 : 3 ≤ (if k = 0 then (3 : Int) else if k = 1 then 9 else 20) ∧ (if k = 0 then (3 : Int) else if k = 1 then 9 else 20) ≤ 20 := by (repeat' split) <;> omega
        refine r_callSI ⟨hx, hb, hml, hown, hts⟩ G (k_X6_in l (v := d) (lo := if k = 1 then 1 else 0) (hi := if k = 0 then 3 else if k = 1 then 9 else 20) (σ := σ) (⟨by omega, by omega⟩) (⟨by omega, by omega⟩) (⟨by omega, by omega⟩)) (kS_X6_in hts qM_X6_32 ⟨by decide, by decide⟩) rfl rfl hl.1 rfl (Nat.le_of_ble_eq_true rfl) dX6_set_38 ⟨Nat.le_refl _, Nat.le_refl _⟩ (fun H locs G => ?_)
        refine r_callVI ⟨hx, hb, hml, hown, hts⟩ G (k_X6_goes l (P := 0 ≤ k ∧ k ≤ 2) (Q := (if k = 1 then 1 else 0) ≤ d ∧ d ≤ (if k = 0 then 3 else if k = 1 then 9 else 20)) (σ := σ) ) (kV_X6_goes hts qM_X6_83 ⟨by decide, by decide⟩) (rc_X6 G) rfl rfl hl.1 rfl (Nat.le_of_ble_eq_true rfl) dX6_set_41 ⟨Nat.le_refl _, Nat.le_refl _⟩ (fun H locs G => ?_)
        refine r_zne (tgt := 49) hx hb dX6_set_44 (by decide) (fun h_9 => ?_) (fun h_9 => ?_)
        · skip
          have hPQ := h_9
          have G := G.cong (τ := up σ 133 3 0) (by rw [if_pos hPQ.1, if_pos hPQ.2])
          refine lv_aload_n hx hb dX6_set_49 rfl (lv_at hl 0 rfl) ?_
          refine r_callVV ⟨hx, hb, hml, hown, hts⟩ G (k_X6_saves l (σ := up σ 133 3 0) (⟨by simp [up_ap]; omega, by simp [up_ap]; omega⟩)) (kV_X6_saves hts qM_X6_87 ⟨by decide, by decide⟩) (rc_X6 G) rfl rfl hl.1 rfl (Nat.le_of_ble_eq_true rfl) dX6_set_50 ⟨Nat.le_refl _, Nat.le_refl _⟩ (fun H locs G => ?_)
          have G := G.cong (τ := goM σ) (rfl)
          refine lv_aload_n hx hb dX6_set_53 rfl (lv_at hl 0 rfl) ?_
          refine lv_iload_n hx hb dX6_set_54 rfl (lv_at hl 1 rfl) ?_
          refine lv_iload_n hx hb dX6_set_55 rfl (lv_at hl 2 rfl) ?_
          refine r_callVI ⟨hx, hb, hml, hown, hts⟩ G (k_X6_changes l (q := k) (v := d) (σ := goM σ) (⟨by omega, by omega⟩)) (kV_X6_changes hts qM_X6_124 ⟨by decide, by decide⟩) (rc_X6 G) rfl rfl hl.1 rfl (Nat.le_of_ble_eq_true rfl) dX6_set_56 ⟨Nat.le_refl _, Nat.le_refl _⟩ (fun H locs G => ?_)
          exact r_iret hx hb hr hlk G (by first | exact (if_neg hPQ).symm | exact (if_pos hPQ).symm) (by first | exact (if_neg hPQ).symm | exact (if_pos hPQ).symm) dX6_set_59
        · skip
          have hPQ := h_9
          refine r_iconst hx hb dX6_set_47 ?_
          exact r_iret hx hb hr hlk G (by first | exact (if_neg hPQ).symm | exact (if_pos hPQ).symm) (by first | exact (if_neg hPQ).symm | exact (if_pos hPQ).symm) dX6_set_48
      · skip
        refine r_bipush hx hb dX6_set_31 (by decide +kernel) ?_
        refine lv_goto (tgt := 38) hx hb dX6_set_33 (by decide) ?_
        refine r_top (b := if k = 0 then 3 else if k = 1 then 9 else 20) (by (repeat' split) <;> omega) ?_
        have hl2 : 3 ≤ (if k = 0 then (3 : Int) else if k = 1 then 9 else 20) ∧ (if k = 0 then (3 : Int) else if k = 1 then 9 else 20) ≤ 20 := by (repeat' split) <;> omega
        refine r_callSI ⟨hx, hb, hml, hown, hts⟩ G (k_X6_in l (v := d) (lo := if k = 1 then 1 else 0) (hi := if k = 0 then 3 else if k = 1 then 9 else 20) (σ := σ) (⟨by omega, by omega⟩) (⟨by omega, by omega⟩) (⟨by omega, by omega⟩)) (kS_X6_in hts qM_X6_32 ⟨by decide, by decide⟩) rfl rfl hl.1 rfl (Nat.le_of_ble_eq_true rfl) dX6_set_38 ⟨Nat.le_refl _, Nat.le_refl _⟩ (fun H locs G => ?_)
        refine r_callVI ⟨hx, hb, hml, hown, hts⟩ G (k_X6_goes l (P := 0 ≤ k ∧ k ≤ 2) (Q := (if k = 1 then 1 else 0) ≤ d ∧ d ≤ (if k = 0 then 3 else if k = 1 then 9 else 20)) (σ := σ) ) (kV_X6_goes hts qM_X6_83 ⟨by decide, by decide⟩) (rc_X6 G) rfl rfl hl.1 rfl (Nat.le_of_ble_eq_true rfl) dX6_set_41 ⟨Nat.le_refl _, Nat.le_refl _⟩ (fun H locs G => ?_)
        refine r_zne (tgt := 49) hx hb dX6_set_44 (by decide) (fun h_10 => ?_) (fun h_10 => ?_)
        · skip
          have hPQ := h_10
          have G := G.cong (τ := up σ 133 3 0) (by rw [if_pos hPQ.1, if_pos hPQ.2])
          refine lv_aload_n hx hb dX6_set_49 rfl (lv_at hl 0 rfl) ?_
          refine r_callVV ⟨hx, hb, hml, hown, hts⟩ G (k_X6_saves l (σ := up σ 133 3 0) (⟨by simp [up_ap]; omega, by simp [up_ap]; omega⟩)) (kV_X6_saves hts qM_X6_87 ⟨by decide, by decide⟩) (rc_X6 G) rfl rfl hl.1 rfl (Nat.le_of_ble_eq_true rfl) dX6_set_50 ⟨Nat.le_refl _, Nat.le_refl _⟩ (fun H locs G => ?_)
          have G := G.cong (τ := goM σ) (rfl)
          refine lv_aload_n hx hb dX6_set_53 rfl (lv_at hl 0 rfl) ?_
          refine lv_iload_n hx hb dX6_set_54 rfl (lv_at hl 1 rfl) ?_
          refine lv_iload_n hx hb dX6_set_55 rfl (lv_at hl 2 rfl) ?_
          refine r_callVI ⟨hx, hb, hml, hown, hts⟩ G (k_X6_changes l (q := k) (v := d) (σ := goM σ) (⟨by omega, by omega⟩)) (kV_X6_changes hts qM_X6_124 ⟨by decide, by decide⟩) (rc_X6 G) rfl rfl hl.1 rfl (Nat.le_of_ble_eq_true rfl) dX6_set_56 ⟨Nat.le_refl _, Nat.le_refl _⟩ (fun H locs G => ?_)
          exact r_iret hx hb hr hlk G (by first | exact (if_neg hPQ).symm | exact (if_pos hPQ).symm) (by first | exact (if_neg hPQ).symm | exact (if_pos hPQ).symm) dX6_set_59
        · skip
          have hPQ := h_10
          refine r_iconst hx hb dX6_set_47 ?_
          exact r_iret hx hb hr hlk G (by first | exact (if_neg hPQ).symm | exact (if_pos hPQ).symm) (by first | exact (if_neg hPQ).symm | exact (if_pos hPQ).symm) dX6_set_48
    · skip
      refine r_iconst hx hb dX6_set_22 ?_
      refine lv_goto (tgt := 38) hx hb dX6_set_23 (by decide) ?_
      refine r_top (b := if k = 0 then 3 else if k = 1 then 9 else 20) (by (repeat' split) <;> omega) ?_
      have hl2 : 3 ≤ (if k = 0 then (3 : Int) else if k = 1 then 9 else 20) ∧ (if k = 0 then (3 : Int) else if k = 1 then 9 else 20) ≤ 20 := by (repeat' split) <;> omega
      refine r_callSI ⟨hx, hb, hml, hown, hts⟩ G (k_X6_in l (v := d) (lo := if k = 1 then 1 else 0) (hi := if k = 0 then 3 else if k = 1 then 9 else 20) (σ := σ) (⟨by omega, by omega⟩) (⟨by omega, by omega⟩) (⟨by omega, by omega⟩)) (kS_X6_in hts qM_X6_32 ⟨by decide, by decide⟩) rfl rfl hl.1 rfl (Nat.le_of_ble_eq_true rfl) dX6_set_38 ⟨Nat.le_refl _, Nat.le_refl _⟩ (fun H locs G => ?_)
      refine r_callVI ⟨hx, hb, hml, hown, hts⟩ G (k_X6_goes l (P := 0 ≤ k ∧ k ≤ 2) (Q := (if k = 1 then 1 else 0) ≤ d ∧ d ≤ (if k = 0 then 3 else if k = 1 then 9 else 20)) (σ := σ) ) (kV_X6_goes hts qM_X6_83 ⟨by decide, by decide⟩) (rc_X6 G) rfl rfl hl.1 rfl (Nat.le_of_ble_eq_true rfl) dX6_set_41 ⟨Nat.le_refl _, Nat.le_refl _⟩ (fun H locs G => ?_)
      refine r_zne (tgt := 49) hx hb dX6_set_44 (by decide) (fun h_11 => ?_) (fun h_11 => ?_)
      · skip
        have hPQ := h_11
        have G := G.cong (τ := up σ 133 3 0) (by rw [if_pos hPQ.1, if_pos hPQ.2])
        refine lv_aload_n hx hb dX6_set_49 rfl (lv_at hl 0 rfl) ?_
        refine r_callVV ⟨hx, hb, hml, hown, hts⟩ G (k_X6_saves l (σ := up σ 133 3 0) (⟨by simp [up_ap]; omega, by simp [up_ap]; omega⟩)) (kV_X6_saves hts qM_X6_87 ⟨by decide, by decide⟩) (rc_X6 G) rfl rfl hl.1 rfl (Nat.le_of_ble_eq_true rfl) dX6_set_50 ⟨Nat.le_refl _, Nat.le_refl _⟩ (fun H locs G => ?_)
        have G := G.cong (τ := goM σ) (rfl)
        refine lv_aload_n hx hb dX6_set_53 rfl (lv_at hl 0 rfl) ?_
        refine lv_iload_n hx hb dX6_set_54 rfl (lv_at hl 1 rfl) ?_
        refine lv_iload_n hx hb dX6_set_55 rfl (lv_at hl 2 rfl) ?_
        refine r_callVI ⟨hx, hb, hml, hown, hts⟩ G (k_X6_changes l (q := k) (v := d) (σ := goM σ) (⟨by omega, by omega⟩)) (kV_X6_changes hts qM_X6_124 ⟨by decide, by decide⟩) (rc_X6 G) rfl rfl hl.1 rfl (Nat.le_of_ble_eq_true rfl) dX6_set_56 ⟨Nat.le_refl _, Nat.le_refl _⟩ (fun H locs G => ?_)
        exact r_iret hx hb hr hlk G (by first | exact (if_neg hPQ).symm | exact (if_pos hPQ).symm) (by first | exact (if_neg hPQ).symm | exact (if_pos hPQ).symm) dX6_set_59
      · skip
        have hPQ := h_11
        refine r_iconst hx hb dX6_set_47 ?_
        exact r_iret hx hb hr hlk G (by first | exact (if_neg hPQ).symm | exact (if_pos hPQ).symm) (by first | exact (if_neg hPQ).symm | exact (if_pos hPQ).symm) dX6_set_48
def IX (σ : Mem) : Prop := (0 ≤ σ 133 5 ∧ σ 133 5 ≤ 60) ∧ ∀ i, 0 ≤ i → i < σ 133 5 → 33 ≤ σ 136 i ∧ σ 136 i ≤ 126
theorem IX.m {σ τ : Mem} (h : IX σ) (h1 : τ 133 5 = σ 133 5) (h2 : ∀ j, τ 136 j = σ 136 j) : IX τ := ⟨by rw [h1]; exact h.1, fun i a b => by rw [h2]; exact h.2 i a (by rw [← h1]; exact b)⟩
set_option maxRecDepth 100000 in
set_option maxHeartbeats 4000000 in
theorem k_X6_append (l : Launch) {σ : Mem} {v : Int} (hv0 : inR v) (hX : IX σ) : CtI l yX6_append (Cond.code yX6_append cX6_append 2 (some .int)) 1 22 (fun z => [.ref (z + 133), .int (kI v)]) σ (if (33 ≤ v ∧ v ≤ 126) ∧ σ 133 5 < 60 then σ 133 5 + 1 else 0) (if (33 ≤ v ∧ v ≤ 126) ∧ σ 133 5 < 60 then up (up (up σ 133 3 0) 136 (σ 133 5) v) 133 5 (σ 133 5 + 1) else up σ 133 3 (if (33 ≤ v ∧ v ≤ 126) then (if σ 133 5 < 60 then 0 else 2) else 1)) := by
  intro D T z
  refine Ct_of (by decide) (Nat.le_of_ble_eq_true rfl) ?_
  intro p e s m below meth c ls hx hb hml hr hts hown hlk G hl
  have hown : s.vm.findClass RX6 = some m.cls := hown
  have hl : lv_has ls 2 [(0, .ref (z + 133)), (1, .int (kI v))] := hl
  have hx0 := hX.1
  refine lv_aload_n hx hb dX6_append_0 rfl (lv_at hl 0 rfl) ?_
  refine lv_iload_n hx hb dX6_append_1 rfl (lv_at hl 1 rfl) ?_
  refine r_bipush hx hb dX6_append_2 (by decide +kernel) ?_
  refine r_bipush hx hb dX6_append_4 (by decide +kernel) ?_
  refine r_callSI ⟨hx, hb, hml, hown, hts⟩ G (k_X6_in l (v := v) (lo := 33) (hi := 126) (σ := σ) (⟨by omega, by omega⟩) (⟨by omega, by omega⟩) (⟨by omega, by omega⟩)) (kS_X6_in hts qM_X6_32 ⟨by decide, by decide⟩) rfl rfl hl.1 rfl (Nat.le_of_ble_eq_true rfl) dX6_append_6 ⟨Nat.le_refl _, Nat.le_refl _⟩ (fun H locs G => ?_)
  refine lv_aload_n hx hb dX6_append_9 rfl (lv_at hl 0 rfl) ?_
  refine gf_X6_127 hx hb hts hown G dX6_append_10 ?_
  refine r_bipush hx hb dX6_append_13 (by decide +kernel) ?_
  refine r_icmp_ge (tgt := 22) hx hb ⟨by omega, by omega⟩ ⟨by decide, by decide⟩ dX6_append_15 (by decide) (fun h_1 => ?_) (fun h_1 => ?_)
  · skip
    refine r_iconst hx hb dX6_append_22 ?_
    refine r_top (b := bz (σ 133 5 < 60)) (by first | exact one_bz (by omega) | exact zero_bz (by omega)) ?_
    skip
    refine r_callVI ⟨hx, hb, hml, hown, hts⟩ G (k_X6_goes l (P := 33 ≤ v ∧ v ≤ 126) (Q := σ 133 5 < 60) (σ := σ) ) (kV_X6_goes hts qM_X6_83 ⟨by decide, by decide⟩) (rc_X6 G) rfl rfl hl.1 rfl (Nat.le_of_ble_eq_true rfl) dX6_append_23 ⟨Nat.le_refl _, Nat.le_refl _⟩ (fun H locs G => ?_)
    refine r_zne (tgt := 31) hx hb dX6_append_26 (by decide) (fun h_2 => ?_) (fun h_2 => ?_)
    · skip
      have hPQ := h_2
      have G := G.cong (τ := up σ 133 3 0) (by rw [if_pos hPQ.1, if_pos hPQ.2])
      refine lv_aload_n hx hb dX6_append_31 rfl (lv_at hl 0 rfl) ?_
      refine gf_X6_17 hx hb hts hown G dX6_append_32 ?_
      refine lv_aload_n hx hb dX6_append_35 rfl (lv_at hl 0 rfl) ?_
      refine gf_X6_127 hx hb hts hown G dX6_append_36 ?_
      refine r_top (b := σ 133 5) (by simp [up_ap]) ?_
      refine lv_iload_n hx hb dX6_append_39 rfl (lv_at hl 1 rfl) ?_
      refine r_i2c hx hb (by omega) (by omega) dX6_append_40 ?_
      refine r_cast hx hb G 136 (by decide) (N := 60) (fun _ => rfl) (by omega) (by omega) (by omega) (by omega) (by decide) dX6_append_41 (fun H locs G => ?_)
      refine lv_aload_n hx hb dX6_append_42 rfl (lv_at hl 0 rfl) ?_
      refine lv_dup hx hb dX6_append_43 rfl ?_
      refine gf_X6_127 hx hb hts hown G dX6_append_44 ?_
      refine r_top (b := σ 133 5) (by simp [up_ap]) ?_
      refine r_iconst hx hb dX6_append_47 ?_
      refine r_iadd hx hb dX6_append_48 ?_
      refine pf_X6_127 hx hb hts hown G dX6_append_49 (fun H locs G => ?_)
      refine lv_aload_n hx hb dX6_append_52 rfl (lv_at hl 0 rfl) ?_
      refine gf_X6_127 hx hb hts hown G dX6_append_53 ?_
      refine r_top (b := σ 133 5 + 1) (by simp [up_ap]) ?_
      exact r_iret hx hb hr hlk G (by first | exact (if_neg hPQ).symm | exact (if_pos hPQ).symm) (by first | exact (if_neg hPQ).symm | exact (if_pos hPQ).symm) dX6_append_56
    · skip
      have hPQ := h_2
      refine r_iconst hx hb dX6_append_29 ?_
      exact r_iret hx hb hr hlk G (by first | exact (if_neg hPQ).symm | exact (if_pos hPQ).symm) (by first | exact (if_neg hPQ).symm | exact (if_pos hPQ).symm) dX6_append_30
  · skip
    refine r_iconst hx hb dX6_append_18 ?_
    refine lv_goto (tgt := 23) hx hb dX6_append_19 (by decide) ?_
    refine r_top (b := bz (σ 133 5 < 60)) (by first | exact one_bz (by omega) | exact zero_bz (by omega)) ?_
    skip
    refine r_callVI ⟨hx, hb, hml, hown, hts⟩ G (k_X6_goes l (P := 33 ≤ v ∧ v ≤ 126) (Q := σ 133 5 < 60) (σ := σ) ) (kV_X6_goes hts qM_X6_83 ⟨by decide, by decide⟩) (rc_X6 G) rfl rfl hl.1 rfl (Nat.le_of_ble_eq_true rfl) dX6_append_23 ⟨Nat.le_refl _, Nat.le_refl _⟩ (fun H locs G => ?_)
    refine r_zne (tgt := 31) hx hb dX6_append_26 (by decide) (fun h_3 => ?_) (fun h_3 => ?_)
    · skip
      have hPQ := h_3
      have G := G.cong (τ := up σ 133 3 0) (by rw [if_pos hPQ.1, if_pos hPQ.2])
      refine lv_aload_n hx hb dX6_append_31 rfl (lv_at hl 0 rfl) ?_
      refine gf_X6_17 hx hb hts hown G dX6_append_32 ?_
      refine lv_aload_n hx hb dX6_append_35 rfl (lv_at hl 0 rfl) ?_
      refine gf_X6_127 hx hb hts hown G dX6_append_36 ?_
      refine r_top (b := σ 133 5) (by simp [up_ap]) ?_
      refine lv_iload_n hx hb dX6_append_39 rfl (lv_at hl 1 rfl) ?_
      refine r_i2c hx hb (by omega) (by omega) dX6_append_40 ?_
      refine r_cast hx hb G 136 (by decide) (N := 60) (fun _ => rfl) (by omega) (by omega) (by omega) (by omega) (by decide) dX6_append_41 (fun H locs G => ?_)
      refine lv_aload_n hx hb dX6_append_42 rfl (lv_at hl 0 rfl) ?_
      refine lv_dup hx hb dX6_append_43 rfl ?_
      refine gf_X6_127 hx hb hts hown G dX6_append_44 ?_
      refine r_top (b := σ 133 5) (by simp [up_ap]) ?_
      refine r_iconst hx hb dX6_append_47 ?_
      refine r_iadd hx hb dX6_append_48 ?_
      refine pf_X6_127 hx hb hts hown G dX6_append_49 (fun H locs G => ?_)
      refine lv_aload_n hx hb dX6_append_52 rfl (lv_at hl 0 rfl) ?_
      refine gf_X6_127 hx hb hts hown G dX6_append_53 ?_
      refine r_top (b := σ 133 5 + 1) (by simp [up_ap]) ?_
      exact r_iret hx hb hr hlk G (by first | exact (if_neg hPQ).symm | exact (if_pos hPQ).symm) (by first | exact (if_neg hPQ).symm | exact (if_pos hPQ).symm) dX6_append_56
    · skip
      have hPQ := h_3
      refine r_iconst hx hb dX6_append_29 ?_
      exact r_iret hx hb hr hlk G (by first | exact (if_neg hPQ).symm | exact (if_pos hPQ).symm) (by first | exact (if_neg hPQ).symm | exact (if_pos hPQ).symm) dX6_append_30
set_option maxRecDepth 100000 in
set_option maxHeartbeats 4000000 in
theorem k_X6_clearBuffer (l : Launch) {σ : Mem}  : CtI l yX6_clearBuffer (Cond.code yX6_clearBuffer cX6_clearBuffer 2 (some .int)) 0 0 (fun z => [.ref (z + 133)]) σ (σ 133 5) (up (up σ 133 3 0) 133 5 0) := by
  intro D T z
  refine Ct_of (by decide) (Nat.le_of_ble_eq_true rfl) ?_
  intro p e s m below meth c ls hx hb hml hr hts hown hlk G hl
  have hown : s.vm.findClass RX6 = some m.cls := hown
  have hl : lv_has ls 2 [(0, .ref (z + 133))] := hl
  refine lv_aload_n hx hb dX6_clearBuffer_0 rfl (lv_at hl 0 rfl) ?_
  refine r_iconst hx hb dX6_clearBuffer_1 ?_
  refine pf_X6_21 hx hb hts hown G dX6_clearBuffer_2 (fun H locs G => ?_)
  refine lv_aload_n hx hb dX6_clearBuffer_5 rfl (lv_at hl 0 rfl) ?_
  refine gf_X6_127 hx hb hts hown G dX6_clearBuffer_6 ?_
  refine r_top (b := σ 133 5) (by simp [up_ap]) ?_
  refine lv_istore_n (lv' := [(1, .int (kI (σ 133 5))), (0, .ref (z + 133))]) hx hb dX6_clearBuffer_9 rfl hl (by decide) rfl (fun ls hl => ?_)
  refine lv_aload_n hx hb dX6_clearBuffer_10 rfl (lv_at hl 1 rfl) ?_
  refine r_iconst hx hb dX6_clearBuffer_11 ?_
  refine pf_X6_127 hx hb hts hown G dX6_clearBuffer_12 (fun H locs G => ?_)
  refine lv_iload_n hx hb dX6_clearBuffer_15 rfl (lv_at hl 0 rfl) ?_
  exact r_iret hx hb hr hlk G (by first | rfl | omega) (by rfl) dX6_clearBuffer_16
