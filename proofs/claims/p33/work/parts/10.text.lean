abbrev isK (k : Int) : Prop := 0 ≤ k ∧ k ≤ 3
abbrev isY (k y : Int) : Prop := (0 ≤ k ∧ k ≤ 3) ∧ 0 ≤ y ∧ y ≤ 15
/-! the buffer: DaysText at 131, its codes at 132 -/
def IT (σ : Mem) : Prop := (0 ≤ σ 131 1 ∧ σ 131 1 ≤ 60) ∧ ∀ i, 0 ≤ i → i < σ 131 1 → 33 ≤ σ 132 i ∧ σ 132 i ≤ 126
def cat (σ : Mem) (q : Int) : Int := if 0 ≤ q ∧ q < σ 131 1 then σ 132 q else -1
theorem cat_rg {σ : Mem} {q : Int} (hT : IT σ) : -1 ≤ cat σ q ∧ cat σ q ≤ 126 := by
  unfold cat
  split
  · rename_i h; have := hT.2 q h.1 h.2; omega
  · omega
abbrev isd (c : Int) : Prop := 48 ≤ c ∧ c ≤ 57
abbrev mayE (t : Int) : Prop := t = 8 ∨ t = 5 ∨ t = 7
def sbv (c : Int) : Int := if c = 97 ∨ c = 112 then 1 else if c = 98 ∨ c = 100 then 2 else if c = 116 then 6 else 9
def sb (t c : Int) : Int := if c = 59 ∧ mayE t then 0 else if t = 0 then sbv c else if t = 1 then (if 48 ≤ c ∧ c ≤ 51 then 8 else 9) else if t = 2 then (if 48 ≤ c ∧ c ≤ 51 then 3 else 9) else if t = 3 then (if c = 46 then 4 else 9) else if t = 4 then (if c = 49 then 5 else if isd c then 8 else 9) else if t = 5 then (if 48 ≤ c ∧ c ≤ 53 then 8 else 9) else if t = 6 then (if isd c ∧ c ≠ 48 then 7 else 9) else if t = 7 then (if isd c then 8 else 9) else 9
theorem sbv_rg {c : Int} : 0 ≤ sbv c ∧ sbv c ≤ 9 := by unfold sbv; (repeat' split) <;> constructor <;> omega
theorem sb_rg {t c : Int} : 0 ≤ sb t c ∧ sb t c ≤ 9 := by
  have := sbv_rg (c := c)
  unfold sb; (repeat' split) <;> constructor <;> omega
/-- the state before the place i -/
def ast (σ : Mem) (i : Int) : Int := it (fun j v => sb v (cat σ j)) 0 i
theorem ast_s {σ : Mem} {i : Int} (h : 0 ≤ i) : ast σ (i + 1) = sb (ast σ i) (cat σ i) := it_s (f := fun j v => sb v (cat σ j)) (a := 0) h
def numF (σ : Mem) (q j : Int) (v : Int × Int) : Int × Int := if v.2 = 1 ∧ isd (cat σ (q + j)) then (v.1 * 10 + cat σ (q + j) - 48, 1) else (v.1, 0)
def num (σ : Mem) (q : Int) : Int := (it (numF σ q) (0, 1) 61).1
theorem num_stop {σ : Mem} {q j v : Int} (h0 : 0 ≤ j) (hj : j ≤ 60) (hv : (v, 1) = it (numF σ q) (0, 1) j) (hd : ¬ isd (cat σ (q + j))) : v = num σ q := by
  have h1 : it (numF σ q) (0, 1) (j + 1) = (v, 0) := by
    rw [it_s h0, ← hv]; unfold numF; exact if_neg (fun h => hd h.2)
  have h2 : ∀ d : Nat, it (numF σ q) (0, 1) (j + 1 + d) = (v, 0) := by
    intro d
    induction d with
    | zero => simpa using h1
    | succ d ih =>
      have e : j + 1 + ((d + 1 : Nat) : Int) = (j + 1 + d) + 1 := by omega
      rw [e, it_s (by omega), ih]
      unfold numF
      exact if_neg (fun h => absurd h.1 (by show ¬ (0 : Int) = 1; decide))
  have h3 := h2 (60 - j).toNat
  rw [show j + 1 + (((60 - j).toNat : Nat) : Int) = 61 by omega] at h3
  unfold num
  rw [h3]
theorem num_next {σ : Mem} {q j v : Int} (h0 : 0 ≤ j) (hv : (v, 1) = it (numF σ q) (0, 1) j) (hd : isd (cat σ (q + j))) : (v * 10 + cat σ (q + j) - 48, 1) = it (numF σ q) (0, 1) (j + 1) := by
  rw [it_s h0, ← hv]; unfold numF; exact (if_pos ⟨rfl, hd⟩).symm
set_option maxRecDepth 100000 in
set_option maxHeartbeats 4000000 in
theorem k_X2_isFull (l : Launch) {σ : Mem} (hT : IT σ) : CtI l yX2_isFull (Cond.code yX2_isFull cX2_isFull 1 (some .boolean)) 0 0 (fun z => [.ref (z + 131)]) σ (bz (60 ≤ σ 131 1)) σ := by
  intro D T z
  refine Ct_of (by decide) (Nat.le_of_ble_eq_true rfl) ?_
  intro p e s m below meth c ls hx hb hml hr hts hown hlk G hl
  have hown : s.vm.findClass RX2 = some m.cls := hown
  have hl : lv_has ls 1 [(0, .ref (z + 131))] := hl
  have ht := hT.1
  refine lv_aload_n hx hb dX2_isFull_0 rfl (lv_at hl 0 rfl) ?_
  refine gf_X2_15 hx hb hts hown G dX2_isFull_1 ?_
  refine r_bipush hx hb dX2_isFull_4 (by decide +kernel) ?_
  refine r_icmp_lt (tgt := 13) hx hb ⟨by omega, by omega⟩ ⟨by decide, by decide⟩ dX2_isFull_6 (by decide) (fun h_1 => ?_) (fun h_1 => ?_)
  · skip
    refine r_iconst hx hb dX2_isFull_13 ?_
    exact r_zret hx hb hr hlk G (Or.inl rfl) (by first | exact one_bz (by omega) | exact zero_bz (by omega)) (by rfl) dX2_isFull_14
  · skip
    refine r_iconst hx hb dX2_isFull_9 ?_
    refine lv_goto (tgt := 14) hx hb dX2_isFull_10 (by decide) ?_
    exact r_zret hx hb hr hlk G (Or.inr rfl) (by first | exact one_bz (by omega) | exact zero_bz (by omega)) (by rfl) dX2_isFull_14
set_option maxRecDepth 100000 in
set_option maxHeartbeats 4000000 in
theorem k_X2_add (l : Launch) {σ : Mem} {v : Int} (hT : IT σ) : CtV l yX2_add (Cond.code yX2_add cX2_add 2 none) 1 20 (fun z => [.ref (z + 131), .int (kI v)]) σ (if 60 ≤ σ 131 1 then σ else up (up σ 132 (σ 131 1) v) 131 1 (σ 131 1 + 1)) := by
  intro D T z
  refine Ct_of (by decide) (Nat.le_of_ble_eq_true rfl) ?_
  intro p e s m below meth c ls hx hb hml hr hts hown hlk G hl
  have hown : s.vm.findClass RX2 = some m.cls := hown
  have hl : lv_has ls 2 [(0, .ref (z + 131)), (1, .int (kI v))] := hl
  have ht := hT.1
  refine lv_aload_n hx hb dX2_add_0 rfl (lv_at hl 0 rfl) ?_
  refine r_callVI ⟨hx, hb, hml, hown, hts⟩ G (k_X2_isFull l (σ := σ) (hT)) (kV_X2_isFull hts qM_X2_19 ⟨by decide, by decide⟩) (rc_X2 G) rfl rfl hl.1 rfl (Nat.le_of_ble_eq_true rfl) dX2_add_1 ⟨Nat.le_refl _, Nat.le_refl _⟩ (fun H locs G => ?_)
  refine r_zne (tgt := 27) hx hb dX2_add_4 (by decide) (fun h_1 => ?_) (fun h_1 => ?_)
  · skip
    exact r_vret hx hb hr hlk G (by first | rw [if_pos (by omega)] | rw [if_neg (by omega)]) dX2_add_27
  · skip
    refine lv_aload_n hx hb dX2_add_7 rfl (lv_at hl 0 rfl) ?_
    refine gf_X2_9 hx hb hts hown G dX2_add_8 ?_
    refine lv_aload_n hx hb dX2_add_11 rfl (lv_at hl 0 rfl) ?_
    refine gf_X2_15 hx hb hts hown G dX2_add_12 ?_
    refine lv_iload_n hx hb dX2_add_15 rfl (lv_at hl 1 rfl) ?_
    refine r_iast hx hb G 132 (by decide) (N := 60) (fun _ => rfl) (by omega) (by omega) (by decide) dX2_add_16 (fun H locs G => ?_)
    refine lv_aload_n hx hb dX2_add_17 rfl (lv_at hl 0 rfl) ?_
    refine lv_dup hx hb dX2_add_18 rfl ?_
    refine gf_X2_15 hx hb hts hown G dX2_add_19 ?_
    refine r_top (b := σ 131 1) (by simp [up_ap]) ?_
    refine r_iconst hx hb dX2_add_22 ?_
    refine r_iadd hx hb dX2_add_23 ?_
    refine pf_X2_15 hx hb hts hown G dX2_add_24 (fun H locs G => ?_)
    exact r_vret hx hb hr hlk G (by first | rw [if_pos (by omega)] | rw [if_neg (by omega)]) dX2_add_27
set_option maxRecDepth 100000 in
set_option maxHeartbeats 4000000 in
theorem k_X2_codeAt (l : Launch) {σ : Mem} {q : Int} (hq : inR q) (hT : IT σ) : CtI l yX2_codeAt (Cond.code yX2_codeAt cX2_codeAt 2 (some .int)) 0 0 (fun z => [.ref (z + 131), .int (kI q)]) σ (cat σ q) σ := by
  intro D T z
  refine Ct_of (by decide) (Nat.le_of_ble_eq_true rfl) ?_
  intro p e s m below meth c ls hx hb hml hr hts hown hlk G hl
  have hown : s.vm.findClass RX2 = some m.cls := hown
  have hl : lv_has ls 2 [(0, .ref (z + 131)), (1, .int (kI q))] := hl
  have ht := hT.1
  refine lv_iload_n hx hb dX2_codeAt_0 rfl (lv_at hl 1 rfl) ?_
  refine r_if_lt (tgt := 21) hx hb ⟨by omega, by omega⟩ dX2_codeAt_1 (by decide) (fun h_1 => ?_) (fun h_1 => ?_)
  · skip
    refine r_iconst hx hb dX2_codeAt_21 ?_
    exact r_iret hx hb hr hlk G (by unfold cat; (repeat' split) <;> first | rfl | omega) (by rfl) dX2_codeAt_22
  · skip
    refine lv_iload_n hx hb dX2_codeAt_4 rfl (lv_at hl 1 rfl) ?_
    refine lv_aload_n hx hb dX2_codeAt_5 rfl (lv_at hl 0 rfl) ?_
    refine gf_X2_15 hx hb hts hown G dX2_codeAt_6 ?_
    refine r_icmp_ge (tgt := 21) hx hb ⟨by omega, by omega⟩ ⟨by omega, by omega⟩ dX2_codeAt_9 (by decide) (fun h_2 => ?_) (fun h_2 => ?_)
    · skip
      refine r_iconst hx hb dX2_codeAt_21 ?_
      exact r_iret hx hb hr hlk G (by unfold cat; (repeat' split) <;> first | rfl | omega) (by rfl) dX2_codeAt_22
    · skip
      refine lv_aload_n hx hb dX2_codeAt_12 rfl (lv_at hl 0 rfl) ?_
      refine gf_X2_9 hx hb hts hown G dX2_codeAt_13 ?_
      refine lv_iload_n hx hb dX2_codeAt_16 rfl (lv_at hl 1 rfl) ?_
      refine r_iald hx hb G 132 (by decide) (N := 60) (fun _ => rfl) (by omega) (by omega) (by decide) dX2_codeAt_17 ?_
      refine lv_goto (tgt := 22) hx hb dX2_codeAt_18 (by decide) ?_
      exact r_iret hx hb hr hlk G (by unfold cat; (repeat' split) <;> first | rfl | omega) (by rfl) dX2_codeAt_22
set_option maxRecDepth 100000 in
set_option maxHeartbeats 4000000 in
theorem k_X2_isDigit (l : Launch) {σ : Mem} {v : Int} (hv : inR v) : CtI l yX2_isDigit (Cond.code yX2_isDigit cX2_isDigit 1 (some .boolean)) 0 0 (fun z => [.int (kI v)]) σ (bz (isd v)) σ := by
  intro D T z
  refine Ct_of (by decide) (Nat.le_of_ble_eq_true rfl) ?_
  intro p e s m below meth c ls hx hb hml hr hts hown hlk G hl
  have hown : s.vm.findClass RX2 = some m.cls := hown
  have hl : lv_has ls 1 [(0, .int (kI v))] := hl
  refine lv_iload_n hx hb dX2_isDigit_0 rfl (lv_at hl 0 rfl) ?_
  refine r_bipush hx hb dX2_isDigit_1 (by decide +kernel) ?_
  refine r_icmp_lt (tgt := 16) hx hb ⟨by omega, by omega⟩ ⟨by decide, by decide⟩ dX2_isDigit_3 (by decide) (fun h_1 => ?_) (fun h_1 => ?_)
  · skip
    refine r_iconst hx hb dX2_isDigit_16 ?_
    exact r_zret hx hb hr hlk G (Or.inl rfl) (by first | exact one_bz (by omega) | exact zero_bz (by omega)) (by rfl) dX2_isDigit_17
  · skip
    refine lv_iload_n hx hb dX2_isDigit_6 rfl (lv_at hl 0 rfl) ?_
    refine r_bipush hx hb dX2_isDigit_7 (by decide +kernel) ?_
    refine r_icmp_gt (tgt := 16) hx hb ⟨by omega, by omega⟩ ⟨by decide, by decide⟩ dX2_isDigit_9 (by decide) (fun h_2 => ?_) (fun h_2 => ?_)
    · skip
      refine r_iconst hx hb dX2_isDigit_16 ?_
      exact r_zret hx hb hr hlk G (Or.inl rfl) (by first | exact one_bz (by omega) | exact zero_bz (by omega)) (by rfl) dX2_isDigit_17
    · skip
      refine r_iconst hx hb dX2_isDigit_12 ?_
      refine lv_goto (tgt := 17) hx hb dX2_isDigit_13 (by decide) ?_
      exact r_zret hx hb hr hlk G (Or.inr rfl) (by first | exact one_bz (by omega) | exact zero_bz (by omega)) (by rfl) dX2_isDigit_17
set_option maxRecDepth 100000 in
set_option maxHeartbeats 4000000 in
theorem k_X2_mayEnd (l : Launch) {σ : Mem} {v : Int} (hv : inR v) : CtI l yX2_mayEnd (Cond.code yX2_mayEnd cX2_mayEnd 1 (some .boolean)) 0 0 (fun z => [.int (kI v)]) σ (bz (mayE v)) σ := by
  intro D T z
  refine Ct_of (by decide) (Nat.le_of_ble_eq_true rfl) ?_
  intro p e s m below meth c ls hx hb hml hr hts hown hlk G hl
  have hown : s.vm.findClass RX2 = some m.cls := hown
  have hl : lv_has ls 1 [(0, .int (kI v))] := hl
  refine lv_iload_n hx hb dX2_mayEnd_0 rfl (lv_at hl 0 rfl) ?_
  refine r_bipush hx hb dX2_mayEnd_1 (by decide +kernel) ?_
  refine r_icmp_eq (tgt := 17) hx hb ⟨by omega, by omega⟩ ⟨by decide, by decide⟩ dX2_mayEnd_3 (by decide) (fun h_1 => ?_) (fun h_1 => ?_)
  · skip
    refine r_iconst hx hb dX2_mayEnd_17 ?_
    refine lv_goto (tgt := 22) hx hb dX2_mayEnd_18 (by decide) ?_
    exact r_zret hx hb hr hlk G (Or.inr rfl) (by first | exact one_bz (by omega) | exact zero_bz (by omega)) (by rfl) dX2_mayEnd_22
  · skip
    refine lv_iload_n hx hb dX2_mayEnd_6 rfl (lv_at hl 0 rfl) ?_
    refine r_iconst hx hb dX2_mayEnd_7 ?_
    refine r_icmp_eq (tgt := 17) hx hb ⟨by omega, by omega⟩ ⟨by decide, by decide⟩ dX2_mayEnd_8 (by decide) (fun h_2 => ?_) (fun h_2 => ?_)
    · skip
      refine r_iconst hx hb dX2_mayEnd_17 ?_
      refine lv_goto (tgt := 22) hx hb dX2_mayEnd_18 (by decide) ?_
      exact r_zret hx hb hr hlk G (Or.inr rfl) (by first | exact one_bz (by omega) | exact zero_bz (by omega)) (by rfl) dX2_mayEnd_22
    · skip
      refine lv_iload_n hx hb dX2_mayEnd_11 rfl (lv_at hl 0 rfl) ?_
      refine r_bipush hx hb dX2_mayEnd_12 (by decide +kernel) ?_
      refine r_icmp_ne (tgt := 21) hx hb ⟨by omega, by omega⟩ ⟨by decide, by decide⟩ dX2_mayEnd_14 (by decide) (fun h_3 => ?_) (fun h_3 => ?_)
      · skip
        refine r_iconst hx hb dX2_mayEnd_21 ?_
        exact r_zret hx hb hr hlk G (Or.inl rfl) (by first | exact one_bz (by omega) | exact zero_bz (by omega)) (by rfl) dX2_mayEnd_22
      · skip
        refine r_iconst hx hb dX2_mayEnd_17 ?_
        refine lv_goto (tgt := 22) hx hb dX2_mayEnd_18 (by decide) ?_
        exact r_zret hx hb hr hlk G (Or.inr rfl) (by first | exact one_bz (by omega) | exact zero_bz (by omega)) (by rfl) dX2_mayEnd_22
set_option maxRecDepth 100000 in
set_option maxHeartbeats 4000000 in
theorem k_X2_stateBehindVerb (l : Launch) {σ : Mem} {v : Int} (hv : inR v) : CtI l yX2_stateBehindVerb (Cond.code yX2_stateBehindVerb cX2_stateBehindVerb 1 (some .int)) 0 0 (fun z => [.int (kI v)]) σ (sbv v) σ := by
  intro D T z
  refine Ct_of (by decide) (Nat.le_of_ble_eq_true rfl) ?_
  intro p e s m below meth c ls hx hb hml hr hts hown hlk G hl
  have hown : s.vm.findClass RX2 = some m.cls := hown
  have hl : lv_has ls 1 [(0, .int (kI v))] := hl
  refine lv_iload_n hx hb dX2_stateBehindVerb_0 rfl (lv_at hl 0 rfl) ?_
  by_cases hc_1 : v = 97
  · skip
    refine r_lkp (off := 51) (tgt := 52) hx hb dX2_stateBehindVerb_1 ⟨by omega, by omega⟩ (by decide) (show (if (97 : Int) = v then (51 : Int) else if (98 : Int) = v then (53 : Int) else if (100 : Int) = v then (53 : Int) else if (112 : Int) = v then (51 : Int) else if (116 : Int) = v then (55 : Int) else (58 : Int)) = 51 by (repeat' split) <;> omega) (by decide) ?_
    refine r_iconst hx hb dX2_stateBehindVerb_52 ?_
    exact r_iret hx hb hr hlk G (by unfold sbv; (repeat' split) <;> omega) (by rfl) dX2_stateBehindVerb_53
  by_cases hc_2 : v = 98
  · skip
    refine r_lkp (off := 53) (tgt := 54) hx hb dX2_stateBehindVerb_1 ⟨by omega, by omega⟩ (by decide) (show (if (97 : Int) = v then (51 : Int) else if (98 : Int) = v then (53 : Int) else if (100 : Int) = v then (53 : Int) else if (112 : Int) = v then (51 : Int) else if (116 : Int) = v then (55 : Int) else (58 : Int)) = 53 by (repeat' split) <;> omega) (by decide) ?_
    refine r_iconst hx hb dX2_stateBehindVerb_54 ?_
    exact r_iret hx hb hr hlk G (by unfold sbv; (repeat' split) <;> omega) (by rfl) dX2_stateBehindVerb_55
  by_cases hc_3 : v = 100
  · skip
    refine r_lkp (off := 53) (tgt := 54) hx hb dX2_stateBehindVerb_1 ⟨by omega, by omega⟩ (by decide) (show (if (97 : Int) = v then (51 : Int) else if (98 : Int) = v then (53 : Int) else if (100 : Int) = v then (53 : Int) else if (112 : Int) = v then (51 : Int) else if (116 : Int) = v then (55 : Int) else (58 : Int)) = 53 by (repeat' split) <;> omega) (by decide) ?_
    refine r_iconst hx hb dX2_stateBehindVerb_54 ?_
    exact r_iret hx hb hr hlk G (by unfold sbv; (repeat' split) <;> omega) (by rfl) dX2_stateBehindVerb_55
  by_cases hc_4 : v = 112
  · skip
    refine r_lkp (off := 51) (tgt := 52) hx hb dX2_stateBehindVerb_1 ⟨by omega, by omega⟩ (by decide) (show (if (97 : Int) = v then (51 : Int) else if (98 : Int) = v then (53 : Int) else if (100 : Int) = v then (53 : Int) else if (112 : Int) = v then (51 : Int) else if (116 : Int) = v then (55 : Int) else (58 : Int)) = 51 by (repeat' split) <;> omega) (by decide) ?_
    refine r_iconst hx hb dX2_stateBehindVerb_52 ?_
    exact r_iret hx hb hr hlk G (by unfold sbv; (repeat' split) <;> omega) (by rfl) dX2_stateBehindVerb_53
  by_cases hc_5 : v = 116
  · skip
    refine r_lkp (off := 55) (tgt := 56) hx hb dX2_stateBehindVerb_1 ⟨by omega, by omega⟩ (by decide) (show (if (97 : Int) = v then (51 : Int) else if (98 : Int) = v then (53 : Int) else if (100 : Int) = v then (53 : Int) else if (112 : Int) = v then (51 : Int) else if (116 : Int) = v then (55 : Int) else (58 : Int)) = 55 by (repeat' split) <;> omega) (by decide) ?_
    refine r_bipush hx hb dX2_stateBehindVerb_56 (by decide +kernel) ?_
    exact r_iret hx hb hr hlk G (by unfold sbv; (repeat' split) <;> omega) (by rfl) dX2_stateBehindVerb_58
  refine r_lkp (off := 58) (tgt := 59) hx hb dX2_stateBehindVerb_1 ⟨by omega, by omega⟩ (by decide) (show (if (97 : Int) = v then (51 : Int) else if (98 : Int) = v then (53 : Int) else if (100 : Int) = v then (53 : Int) else if (112 : Int) = v then (51 : Int) else if (116 : Int) = v then (55 : Int) else (58 : Int)) = 58 by (repeat' split) <;> omega) (by decide) ?_
  refine r_bipush hx hb dX2_stateBehindVerb_59 (by decide +kernel) ?_
  exact r_iret hx hb hr hlk G (by unfold sbv; (repeat' split) <;> omega) (by rfl) dX2_stateBehindVerb_61
set_option maxRecDepth 100000 in
set_option maxHeartbeats 4000000 in
theorem k_X2_stateBehind (l : Launch) {σ : Mem} {t v : Int} (ht : inR t) (hv : inR v) : CtI l yX2_stateBehind (Cond.code yX2_stateBehind cX2_stateBehind 2 (some .int)) 1 20 (fun z => [.int (kI t), .int (kI v)]) σ (sb t v) σ := by
  intro D T z
  refine Ct_of (by decide) (Nat.le_of_ble_eq_true rfl) ?_
  intro p e s m below meth c ls hx hb hml hr hts hown hlk G hl
  have hown : s.vm.findClass RX2 = some m.cls := hown
  have hl : lv_has ls 2 [(0, .int (kI t)), (1, .int (kI v))] := hl
  refine lv_iload_n hx hb dX2_stateBehind_0 rfl (lv_at hl 1 rfl) ?_
  refine r_bipush hx hb dX2_stateBehind_1 (by decide +kernel) ?_
  refine r_icmp_ne (tgt := 15) hx hb ⟨by omega, by omega⟩ ⟨by decide, by decide⟩ dX2_stateBehind_3 (by decide) (fun h_1 => ?_) (fun h_1 => ?_)
  · skip
    refine lv_iload_n hx hb dX2_stateBehind_15 rfl (lv_at hl 0 rfl) ?_
    by_cases hc_3 : t = 0
    · skip
      refine r_tabIn (j := 0) (tgt := 64) hx hb dX2_stateBehind_16 (by omega) (by omega) ⟨by omega, by omega⟩ rfl (by decide) ?_
      refine lv_iload_n hx hb dX2_stateBehind_64 rfl (lv_at hl 1 rfl) ?_
      refine r_callSI ⟨hx, hb, hml, hown, hts⟩ G (k_X2_stateBehindVerb l (v := v) (σ := σ) (⟨by omega, by omega⟩)) (kS_X2_stateBehindVerb hts qM_X2_35 ⟨by decide, by decide⟩) rfl rfl hl.1 rfl (Nat.le_of_ble_eq_true rfl) dX2_stateBehind_65 ⟨Nat.le_refl _, Nat.le_refl _⟩ (fun H locs G => ?_)
      exact r_iret hx hb hr hlk G (by unfold sb; (repeat' split) <;> first | rfl | omega) (by rfl) dX2_stateBehind_68
    by_cases hc_4 : t = 1
    · skip
      refine r_tabIn (j := 1) (tgt := 69) hx hb dX2_stateBehind_16 (by omega) (by omega) ⟨by omega, by omega⟩ rfl (by decide) ?_
      refine lv_iload_n hx hb dX2_stateBehind_69 rfl (lv_at hl 1 rfl) ?_
      refine r_bipush hx hb dX2_stateBehind_70 (by decide +kernel) ?_
      refine r_icmp_lt (tgt := 86) hx hb ⟨by omega, by omega⟩ ⟨by decide, by decide⟩ dX2_stateBehind_72 (by decide) (fun h_5 => ?_) (fun h_5 => ?_)
      · skip
        refine r_bipush hx hb dX2_stateBehind_86 (by decide +kernel) ?_
        exact r_iret hx hb hr hlk G (by unfold sb; (repeat' split) <;> first | rfl | omega) (by rfl) dX2_stateBehind_88
      · skip
        refine lv_iload_n hx hb dX2_stateBehind_75 rfl (lv_at hl 1 rfl) ?_
        refine r_bipush hx hb dX2_stateBehind_76 (by decide +kernel) ?_
        refine r_icmp_gt (tgt := 86) hx hb ⟨by omega, by omega⟩ ⟨by decide, by decide⟩ dX2_stateBehind_78 (by decide) (fun h_6 => ?_) (fun h_6 => ?_)
        · skip
          refine r_bipush hx hb dX2_stateBehind_86 (by decide +kernel) ?_
          exact r_iret hx hb hr hlk G (by unfold sb; (repeat' split) <;> first | rfl | omega) (by rfl) dX2_stateBehind_88
        · skip
          refine r_bipush hx hb dX2_stateBehind_81 (by decide +kernel) ?_
          refine lv_goto (tgt := 88) hx hb dX2_stateBehind_83 (by decide) ?_
          exact r_iret hx hb hr hlk G (by unfold sb; (repeat' split) <;> first | rfl | omega) (by rfl) dX2_stateBehind_88
    by_cases hc_7 : t = 2
    · skip
      refine r_tabIn (j := 2) (tgt := 89) hx hb dX2_stateBehind_16 (by omega) (by omega) ⟨by omega, by omega⟩ rfl (by decide) ?_
      refine lv_iload_n hx hb dX2_stateBehind_89 rfl (lv_at hl 1 rfl) ?_
      refine r_bipush hx hb dX2_stateBehind_90 (by decide +kernel) ?_
      refine r_icmp_lt (tgt := 105) hx hb ⟨by omega, by omega⟩ ⟨by decide, by decide⟩ dX2_stateBehind_92 (by decide) (fun h_8 => ?_) (fun h_8 => ?_)
      · skip
        refine r_bipush hx hb dX2_stateBehind_105 (by decide +kernel) ?_
        exact r_iret hx hb hr hlk G (by unfold sb; (repeat' split) <;> first | rfl | omega) (by rfl) dX2_stateBehind_107
      · skip
        refine lv_iload_n hx hb dX2_stateBehind_95 rfl (lv_at hl 1 rfl) ?_
        refine r_bipush hx hb dX2_stateBehind_96 (by decide +kernel) ?_
        refine r_icmp_gt (tgt := 105) hx hb ⟨by omega, by omega⟩ ⟨by decide, by decide⟩ dX2_stateBehind_98 (by decide) (fun h_9 => ?_) (fun h_9 => ?_)
        · skip
          refine r_bipush hx hb dX2_stateBehind_105 (by decide +kernel) ?_
          exact r_iret hx hb hr hlk G (by unfold sb; (repeat' split) <;> first | rfl | omega) (by rfl) dX2_stateBehind_107
        · skip
          refine r_iconst hx hb dX2_stateBehind_101 ?_
          refine lv_goto (tgt := 107) hx hb dX2_stateBehind_102 (by decide) ?_
          exact r_iret hx hb hr hlk G (by unfold sb; (repeat' split) <;> first | rfl | omega) (by rfl) dX2_stateBehind_107
    by_cases hc_10 : t = 3
    · skip
      refine r_tabIn (j := 3) (tgt := 108) hx hb dX2_stateBehind_16 (by omega) (by omega) ⟨by omega, by omega⟩ rfl (by decide) ?_
      refine lv_iload_n hx hb dX2_stateBehind_108 rfl (lv_at hl 1 rfl) ?_
      refine r_bipush hx hb dX2_stateBehind_109 (by decide +kernel) ?_
      refine r_icmp_ne (tgt := 118) hx hb ⟨by omega, by omega⟩ ⟨by decide, by decide⟩ dX2_stateBehind_111 (by decide) (fun h_11 => ?_) (fun h_11 => ?_)
      · skip
        refine r_bipush hx hb dX2_stateBehind_118 (by decide +kernel) ?_
        exact r_iret hx hb hr hlk G (by unfold sb; (repeat' split) <;> first | rfl | omega) (by rfl) dX2_stateBehind_120
      · skip
        refine r_iconst hx hb dX2_stateBehind_114 ?_
        refine lv_goto (tgt := 120) hx hb dX2_stateBehind_115 (by decide) ?_
        exact r_iret hx hb hr hlk G (by unfold sb; (repeat' split) <;> first | rfl | omega) (by rfl) dX2_stateBehind_120
    by_cases hc_12 : t = 4
    · skip
      refine r_tabIn (j := 4) (tgt := 121) hx hb dX2_stateBehind_16 (by omega) (by omega) ⟨by omega, by omega⟩ rfl (by decide) ?_
      refine lv_iload_n hx hb dX2_stateBehind_121 rfl (lv_at hl 1 rfl) ?_
      refine r_bipush hx hb dX2_stateBehind_122 (by decide +kernel) ?_
      refine r_icmp_ne (tgt := 129) hx hb ⟨by omega, by omega⟩ ⟨by decide, by decide⟩ dX2_stateBehind_124 (by decide) (fun h_13 => ?_) (fun h_13 => ?_)
      · skip
        refine lv_iload_n hx hb dX2_stateBehind_129 rfl (lv_at hl 1 rfl) ?_
        refine r_callSI ⟨hx, hb, hml, hown, hts⟩ G (k_X2_isDigit l (v := v) (σ := σ) (⟨by omega, by omega⟩)) (kS_X2_isDigit hts qM_X2_38 ⟨by decide, by decide⟩) rfl rfl hl.1 rfl (Nat.le_of_ble_eq_true rfl) dX2_stateBehind_130 ⟨Nat.le_refl _, Nat.le_refl _⟩ (fun H locs G => ?_)
        refine r_zeq (tgt := 141) hx hb dX2_stateBehind_133 (by decide) (fun h_14 => ?_) (fun h_14 => ?_)
        · skip
          refine r_bipush hx hb dX2_stateBehind_141 (by decide +kernel) ?_
          exact r_iret hx hb hr hlk G (by unfold sb; (repeat' split) <;> first | rfl | omega) (by rfl) dX2_stateBehind_143
        · skip
          refine r_bipush hx hb dX2_stateBehind_136 (by decide +kernel) ?_
          refine lv_goto (tgt := 143) hx hb dX2_stateBehind_138 (by decide) ?_
          exact r_iret hx hb hr hlk G (by unfold sb; (repeat' split) <;> first | rfl | omega) (by rfl) dX2_stateBehind_143
      · skip
        refine r_iconst hx hb dX2_stateBehind_127 ?_
        exact r_iret hx hb hr hlk G (by unfold sb; (repeat' split) <;> first | rfl | omega) (by rfl) dX2_stateBehind_128
    by_cases hc_15 : t = 5
    · skip
      refine r_tabIn (j := 5) (tgt := 144) hx hb dX2_stateBehind_16 (by omega) (by omega) ⟨by omega, by omega⟩ rfl (by decide) ?_
      refine lv_iload_n hx hb dX2_stateBehind_144 rfl (lv_at hl 1 rfl) ?_
      refine r_bipush hx hb dX2_stateBehind_145 (by decide +kernel) ?_
      refine r_icmp_lt (tgt := 161) hx hb ⟨by omega, by omega⟩ ⟨by decide, by decide⟩ dX2_stateBehind_147 (by decide) (fun h_16 => ?_) (fun h_16 => ?_)
      · skip
        refine r_bipush hx hb dX2_stateBehind_161 (by decide +kernel) ?_
        exact r_iret hx hb hr hlk G (by unfold sb; (repeat' split) <;> first | rfl | omega) (by rfl) dX2_stateBehind_163
      · skip
        refine lv_iload_n hx hb dX2_stateBehind_150 rfl (lv_at hl 1 rfl) ?_
        refine r_bipush hx hb dX2_stateBehind_151 (by decide +kernel) ?_
        refine r_icmp_gt (tgt := 161) hx hb ⟨by omega, by omega⟩ ⟨by decide, by decide⟩ dX2_stateBehind_153 (by decide) (fun h_17 => ?_) (fun h_17 => ?_)
        · skip
          refine r_bipush hx hb dX2_stateBehind_161 (by decide +kernel) ?_
          exact r_iret hx hb hr hlk G (by unfold sb; (repeat' split) <;> first | rfl | omega) (by rfl) dX2_stateBehind_163
        · skip
          refine r_bipush hx hb dX2_stateBehind_156 (by decide +kernel) ?_
          refine lv_goto (tgt := 163) hx hb dX2_stateBehind_158 (by decide) ?_
          exact r_iret hx hb hr hlk G (by unfold sb; (repeat' split) <;> first | rfl | omega) (by rfl) dX2_stateBehind_163
    by_cases hc_18 : t = 6
    · skip
      refine r_tabIn (j := 6) (tgt := 164) hx hb dX2_stateBehind_16 (by omega) (by omega) ⟨by omega, by omega⟩ rfl (by decide) ?_
      refine lv_iload_n hx hb dX2_stateBehind_164 rfl (lv_at hl 1 rfl) ?_
      refine r_callSI ⟨hx, hb, hml, hown, hts⟩ G (k_X2_isDigit l (v := v) (σ := σ) (⟨by omega, by omega⟩)) (kS_X2_isDigit hts qM_X2_38 ⟨by decide, by decide⟩) rfl rfl hl.1 rfl (Nat.le_of_ble_eq_true rfl) dX2_stateBehind_165 ⟨Nat.le_refl _, Nat.le_refl _⟩ (fun H locs G => ?_)
      refine r_zeq (tgt := 182) hx hb dX2_stateBehind_168 (by decide) (fun h_19 => ?_) (fun h_19 => ?_)
      · skip
        refine r_bipush hx hb dX2_stateBehind_182 (by decide +kernel) ?_
        exact r_iret hx hb hr hlk G (by unfold sb; (repeat' split) <;> first | rfl | omega) (by rfl) dX2_stateBehind_184
      · skip
        refine lv_iload_n hx hb dX2_stateBehind_171 rfl (lv_at hl 1 rfl) ?_
        refine r_bipush hx hb dX2_stateBehind_172 (by decide +kernel) ?_
        refine r_icmp_eq (tgt := 182) hx hb ⟨by omega, by omega⟩ ⟨by decide, by decide⟩ dX2_stateBehind_174 (by decide) (fun h_20 => ?_) (fun h_20 => ?_)
        · skip
          refine r_bipush hx hb dX2_stateBehind_182 (by decide +kernel) ?_
          exact r_iret hx hb hr hlk G (by unfold sb; (repeat' split) <;> first | rfl | omega) (by rfl) dX2_stateBehind_184
        · skip
          refine r_bipush hx hb dX2_stateBehind_177 (by decide +kernel) ?_
          refine lv_goto (tgt := 184) hx hb dX2_stateBehind_179 (by decide) ?_
          exact r_iret hx hb hr hlk G (by unfold sb; (repeat' split) <;> first | rfl | omega) (by rfl) dX2_stateBehind_184
    by_cases hc_21 : t = 7
    · skip
      refine r_tabIn (j := 7) (tgt := 185) hx hb dX2_stateBehind_16 (by omega) (by omega) ⟨by omega, by omega⟩ rfl (by decide) ?_
      refine lv_iload_n hx hb dX2_stateBehind_185 rfl (lv_at hl 1 rfl) ?_
      refine r_callSI ⟨hx, hb, hml, hown, hts⟩ G (k_X2_isDigit l (v := v) (σ := σ) (⟨by omega, by omega⟩)) (kS_X2_isDigit hts qM_X2_38 ⟨by decide, by decide⟩) rfl rfl hl.1 rfl (Nat.le_of_ble_eq_true rfl) dX2_stateBehind_186 ⟨Nat.le_refl _, Nat.le_refl _⟩ (fun H locs G => ?_)
      refine r_zeq (tgt := 197) hx hb dX2_stateBehind_189 (by decide) (fun h_22 => ?_) (fun h_22 => ?_)
      · skip
        refine r_bipush hx hb dX2_stateBehind_197 (by decide +kernel) ?_
        exact r_iret hx hb hr hlk G (by unfold sb; (repeat' split) <;> first | rfl | omega) (by rfl) dX2_stateBehind_199
      · skip
        refine r_bipush hx hb dX2_stateBehind_192 (by decide +kernel) ?_
        refine lv_goto (tgt := 199) hx hb dX2_stateBehind_194 (by decide) ?_
        exact r_iret hx hb hr hlk G (by unfold sb; (repeat' split) <;> first | rfl | omega) (by rfl) dX2_stateBehind_199
    refine r_tabOut (tgt := 200) hx hb dX2_stateBehind_16 ⟨by omega, by omega⟩ (by omega) (by decide) ?_
    refine r_bipush hx hb dX2_stateBehind_200 (by decide +kernel) ?_
    exact r_iret hx hb hr hlk G (by unfold sb; (repeat' split) <;> first | rfl | omega) (by rfl) dX2_stateBehind_202
  · skip
    refine lv_iload_n hx hb dX2_stateBehind_6 rfl (lv_at hl 0 rfl) ?_
    refine r_callSI ⟨hx, hb, hml, hown, hts⟩ G (k_X2_mayEnd l (v := t) (σ := σ) (⟨by omega, by omega⟩)) (kS_X2_mayEnd hts qM_X2_31 ⟨by decide, by decide⟩) rfl rfl hl.1 rfl (Nat.le_of_ble_eq_true rfl) dX2_stateBehind_7 ⟨Nat.le_refl _, Nat.le_refl _⟩ (fun H locs G => ?_)
    refine r_zeq (tgt := 15) hx hb dX2_stateBehind_10 (by decide) (fun h_23 => ?_) (fun h_23 => ?_)
    · skip
      refine lv_iload_n hx hb dX2_stateBehind_15 rfl (lv_at hl 0 rfl) ?_
      by_cases hc_25 : t = 0
      · skip
        refine r_tabIn (j := 0) (tgt := 64) hx hb dX2_stateBehind_16 (by omega) (by omega) ⟨by omega, by omega⟩ rfl (by decide) ?_
        refine lv_iload_n hx hb dX2_stateBehind_64 rfl (lv_at hl 1 rfl) ?_
        refine r_callSI ⟨hx, hb, hml, hown, hts⟩ G (k_X2_stateBehindVerb l (v := v) (σ := σ) (⟨by omega, by omega⟩)) (kS_X2_stateBehindVerb hts qM_X2_35 ⟨by decide, by decide⟩) rfl rfl hl.1 rfl (Nat.le_of_ble_eq_true rfl) dX2_stateBehind_65 ⟨Nat.le_refl _, Nat.le_refl _⟩ (fun H locs G => ?_)
        exact r_iret hx hb hr hlk G (by unfold sb; (repeat' split) <;> first | rfl | omega) (by rfl) dX2_stateBehind_68
      by_cases hc_26 : t = 1
      · skip
        refine r_tabIn (j := 1) (tgt := 69) hx hb dX2_stateBehind_16 (by omega) (by omega) ⟨by omega, by omega⟩ rfl (by decide) ?_
        refine lv_iload_n hx hb dX2_stateBehind_69 rfl (lv_at hl 1 rfl) ?_
        refine r_bipush hx hb dX2_stateBehind_70 (by decide +kernel) ?_
        refine r_icmp_lt (tgt := 86) hx hb ⟨by omega, by omega⟩ ⟨by decide, by decide⟩ dX2_stateBehind_72 (by decide) (fun h_27 => ?_) (fun h_27 => ?_)
        · skip
          refine r_bipush hx hb dX2_stateBehind_86 (by decide +kernel) ?_
          exact r_iret hx hb hr hlk G (by unfold sb; (repeat' split) <;> first | rfl | omega) (by rfl) dX2_stateBehind_88
        · skip
          refine lv_iload_n hx hb dX2_stateBehind_75 rfl (lv_at hl 1 rfl) ?_
          refine r_bipush hx hb dX2_stateBehind_76 (by decide +kernel) ?_
          refine r_icmp_gt (tgt := 86) hx hb ⟨by omega, by omega⟩ ⟨by decide, by decide⟩ dX2_stateBehind_78 (by decide) (fun h_28 => ?_) (fun h_28 => ?_)
          · skip
            refine r_bipush hx hb dX2_stateBehind_86 (by decide +kernel) ?_
            exact r_iret hx hb hr hlk G (by unfold sb; (repeat' split) <;> first | rfl | omega) (by rfl) dX2_stateBehind_88
          · skip
            refine r_bipush hx hb dX2_stateBehind_81 (by decide +kernel) ?_
            refine lv_goto (tgt := 88) hx hb dX2_stateBehind_83 (by decide) ?_
            exact r_iret hx hb hr hlk G (by unfold sb; (repeat' split) <;> first | rfl | omega) (by rfl) dX2_stateBehind_88
      by_cases hc_29 : t = 2
      · skip
        refine r_tabIn (j := 2) (tgt := 89) hx hb dX2_stateBehind_16 (by omega) (by omega) ⟨by omega, by omega⟩ rfl (by decide) ?_
        refine lv_iload_n hx hb dX2_stateBehind_89 rfl (lv_at hl 1 rfl) ?_
        refine r_bipush hx hb dX2_stateBehind_90 (by decide +kernel) ?_
        refine r_icmp_lt (tgt := 105) hx hb ⟨by omega, by omega⟩ ⟨by decide, by decide⟩ dX2_stateBehind_92 (by decide) (fun h_30 => ?_) (fun h_30 => ?_)
        · skip
          refine r_bipush hx hb dX2_stateBehind_105 (by decide +kernel) ?_
          exact r_iret hx hb hr hlk G (by unfold sb; (repeat' split) <;> first | rfl | omega) (by rfl) dX2_stateBehind_107
        · skip
          refine lv_iload_n hx hb dX2_stateBehind_95 rfl (lv_at hl 1 rfl) ?_
          refine r_bipush hx hb dX2_stateBehind_96 (by decide +kernel) ?_
          refine r_icmp_gt (tgt := 105) hx hb ⟨by omega, by omega⟩ ⟨by decide, by decide⟩ dX2_stateBehind_98 (by decide) (fun h_31 => ?_) (fun h_31 => ?_)
          · skip
            refine r_bipush hx hb dX2_stateBehind_105 (by decide +kernel) ?_
            exact r_iret hx hb hr hlk G (by unfold sb; (repeat' split) <;> first | rfl | omega) (by rfl) dX2_stateBehind_107
          · skip
            refine r_iconst hx hb dX2_stateBehind_101 ?_
            refine lv_goto (tgt := 107) hx hb dX2_stateBehind_102 (by decide) ?_
            exact r_iret hx hb hr hlk G (by unfold sb; (repeat' split) <;> first | rfl | omega) (by rfl) dX2_stateBehind_107
      by_cases hc_32 : t = 3
      · skip
        refine r_tabIn (j := 3) (tgt := 108) hx hb dX2_stateBehind_16 (by omega) (by omega) ⟨by omega, by omega⟩ rfl (by decide) ?_
        refine lv_iload_n hx hb dX2_stateBehind_108 rfl (lv_at hl 1 rfl) ?_
        refine r_bipush hx hb dX2_stateBehind_109 (by decide +kernel) ?_
        refine r_icmp_ne (tgt := 118) hx hb ⟨by omega, by omega⟩ ⟨by decide, by decide⟩ dX2_stateBehind_111 (by decide) (fun h_33 => ?_) (fun h_33 => ?_)
        · skip
          refine r_bipush hx hb dX2_stateBehind_118 (by decide +kernel) ?_
          exact r_iret hx hb hr hlk G (by unfold sb; (repeat' split) <;> first | rfl | omega) (by rfl) dX2_stateBehind_120
        · skip
          refine r_iconst hx hb dX2_stateBehind_114 ?_
          refine lv_goto (tgt := 120) hx hb dX2_stateBehind_115 (by decide) ?_
          exact r_iret hx hb hr hlk G (by unfold sb; (repeat' split) <;> first | rfl | omega) (by rfl) dX2_stateBehind_120
      by_cases hc_34 : t = 4
      · skip
        refine r_tabIn (j := 4) (tgt := 121) hx hb dX2_stateBehind_16 (by omega) (by omega) ⟨by omega, by omega⟩ rfl (by decide) ?_
        refine lv_iload_n hx hb dX2_stateBehind_121 rfl (lv_at hl 1 rfl) ?_
        refine r_bipush hx hb dX2_stateBehind_122 (by decide +kernel) ?_
        refine r_icmp_ne (tgt := 129) hx hb ⟨by omega, by omega⟩ ⟨by decide, by decide⟩ dX2_stateBehind_124 (by decide) (fun h_35 => ?_) (fun h_35 => ?_)
        · skip
          refine lv_iload_n hx hb dX2_stateBehind_129 rfl (lv_at hl 1 rfl) ?_
          refine r_callSI ⟨hx, hb, hml, hown, hts⟩ G (k_X2_isDigit l (v := v) (σ := σ) (⟨by omega, by omega⟩)) (kS_X2_isDigit hts qM_X2_38 ⟨by decide, by decide⟩) rfl rfl hl.1 rfl (Nat.le_of_ble_eq_true rfl) dX2_stateBehind_130 ⟨Nat.le_refl _, Nat.le_refl _⟩ (fun H locs G => ?_)
          refine r_zeq (tgt := 141) hx hb dX2_stateBehind_133 (by decide) (fun h_36 => ?_) (fun h_36 => ?_)
          · skip
            refine r_bipush hx hb dX2_stateBehind_141 (by decide +kernel) ?_
            exact r_iret hx hb hr hlk G (by unfold sb; (repeat' split) <;> first | rfl | omega) (by rfl) dX2_stateBehind_143
          · skip
            refine r_bipush hx hb dX2_stateBehind_136 (by decide +kernel) ?_
            refine lv_goto (tgt := 143) hx hb dX2_stateBehind_138 (by decide) ?_
            exact r_iret hx hb hr hlk G (by unfold sb; (repeat' split) <;> first | rfl | omega) (by rfl) dX2_stateBehind_143
        · skip
          refine r_iconst hx hb dX2_stateBehind_127 ?_
          exact r_iret hx hb hr hlk G (by unfold sb; (repeat' split) <;> first | rfl | omega) (by rfl) dX2_stateBehind_128
      by_cases hc_37 : t = 5
      · skip
        refine r_tabIn (j := 5) (tgt := 144) hx hb dX2_stateBehind_16 (by omega) (by omega) ⟨by omega, by omega⟩ rfl (by decide) ?_
        refine lv_iload_n hx hb dX2_stateBehind_144 rfl (lv_at hl 1 rfl) ?_
        refine r_bipush hx hb dX2_stateBehind_145 (by decide +kernel) ?_
        refine r_icmp_lt (tgt := 161) hx hb ⟨by omega, by omega⟩ ⟨by decide, by decide⟩ dX2_stateBehind_147 (by decide) (fun h_38 => ?_) (fun h_38 => ?_)
        · skip
          refine r_bipush hx hb dX2_stateBehind_161 (by decide +kernel) ?_
          exact r_iret hx hb hr hlk G (by unfold sb; (repeat' split) <;> first | rfl | omega) (by rfl) dX2_stateBehind_163
        · skip
          refine lv_iload_n hx hb dX2_stateBehind_150 rfl (lv_at hl 1 rfl) ?_
          refine r_bipush hx hb dX2_stateBehind_151 (by decide +kernel) ?_
          refine r_icmp_gt (tgt := 161) hx hb ⟨by omega, by omega⟩ ⟨by decide, by decide⟩ dX2_stateBehind_153 (by decide) (fun h_39 => ?_) (fun h_39 => ?_)
          · skip
            refine r_bipush hx hb dX2_stateBehind_161 (by decide +kernel) ?_
            exact r_iret hx hb hr hlk G (by unfold sb; (repeat' split) <;> first | rfl | omega) (by rfl) dX2_stateBehind_163
          · skip
            refine r_bipush hx hb dX2_stateBehind_156 (by decide +kernel) ?_
            refine lv_goto (tgt := 163) hx hb dX2_stateBehind_158 (by decide) ?_
            exact r_iret hx hb hr hlk G (by unfold sb; (repeat' split) <;> first | rfl | omega) (by rfl) dX2_stateBehind_163
      by_cases hc_40 : t = 6
      · skip
        refine r_tabIn (j := 6) (tgt := 164) hx hb dX2_stateBehind_16 (by omega) (by omega) ⟨by omega, by omega⟩ rfl (by decide) ?_
        refine lv_iload_n hx hb dX2_stateBehind_164 rfl (lv_at hl 1 rfl) ?_
        refine r_callSI ⟨hx, hb, hml, hown, hts⟩ G (k_X2_isDigit l (v := v) (σ := σ) (⟨by omega, by omega⟩)) (kS_X2_isDigit hts qM_X2_38 ⟨by decide, by decide⟩) rfl rfl hl.1 rfl (Nat.le_of_ble_eq_true rfl) dX2_stateBehind_165 ⟨Nat.le_refl _, Nat.le_refl _⟩ (fun H locs G => ?_)
        refine r_zeq (tgt := 182) hx hb dX2_stateBehind_168 (by decide) (fun h_41 => ?_) (fun h_41 => ?_)
        · skip
          refine r_bipush hx hb dX2_stateBehind_182 (by decide +kernel) ?_
          exact r_iret hx hb hr hlk G (by unfold sb; (repeat' split) <;> first | rfl | omega) (by rfl) dX2_stateBehind_184
        · skip
          refine lv_iload_n hx hb dX2_stateBehind_171 rfl (lv_at hl 1 rfl) ?_
          refine r_bipush hx hb dX2_stateBehind_172 (by decide +kernel) ?_
          refine r_icmp_eq (tgt := 182) hx hb ⟨by omega, by omega⟩ ⟨by decide, by decide⟩ dX2_stateBehind_174 (by decide) (fun h_42 => ?_) (fun h_42 => ?_)
          · skip
            refine r_bipush hx hb dX2_stateBehind_182 (by decide +kernel) ?_
            exact r_iret hx hb hr hlk G (by unfold sb; (repeat' split) <;> first | rfl | omega) (by rfl) dX2_stateBehind_184
          · skip
            refine r_bipush hx hb dX2_stateBehind_177 (by decide +kernel) ?_
            refine lv_goto (tgt := 184) hx hb dX2_stateBehind_179 (by decide) ?_
            exact r_iret hx hb hr hlk G (by unfold sb; (repeat' split) <;> first | rfl | omega) (by rfl) dX2_stateBehind_184
      by_cases hc_43 : t = 7
      · skip
        refine r_tabIn (j := 7) (tgt := 185) hx hb dX2_stateBehind_16 (by omega) (by omega) ⟨by omega, by omega⟩ rfl (by decide) ?_
        refine lv_iload_n hx hb dX2_stateBehind_185 rfl (lv_at hl 1 rfl) ?_
        refine r_callSI ⟨hx, hb, hml, hown, hts⟩ G (k_X2_isDigit l (v := v) (σ := σ) (⟨by omega, by omega⟩)) (kS_X2_isDigit hts qM_X2_38 ⟨by decide, by decide⟩) rfl rfl hl.1 rfl (Nat.le_of_ble_eq_true rfl) dX2_stateBehind_186 ⟨Nat.le_refl _, Nat.le_refl _⟩ (fun H locs G => ?_)
        refine r_zeq (tgt := 197) hx hb dX2_stateBehind_189 (by decide) (fun h_44 => ?_) (fun h_44 => ?_)
        · skip
          refine r_bipush hx hb dX2_stateBehind_197 (by decide +kernel) ?_
          exact r_iret hx hb hr hlk G (by unfold sb; (repeat' split) <;> first | rfl | omega) (by rfl) dX2_stateBehind_199
        · skip
          refine r_bipush hx hb dX2_stateBehind_192 (by decide +kernel) ?_
          refine lv_goto (tgt := 199) hx hb dX2_stateBehind_194 (by decide) ?_
          exact r_iret hx hb hr hlk G (by unfold sb; (repeat' split) <;> first | rfl | omega) (by rfl) dX2_stateBehind_199
      refine r_tabOut (tgt := 200) hx hb dX2_stateBehind_16 ⟨by omega, by omega⟩ (by omega) (by decide) ?_
      refine r_bipush hx hb dX2_stateBehind_200 (by decide +kernel) ?_
      exact r_iret hx hb hr hlk G (by unfold sb; (repeat' split) <;> first | rfl | omega) (by rfl) dX2_stateBehind_202
    · skip
      refine r_iconst hx hb dX2_stateBehind_13 ?_
      exact r_iret hx hb hr hlk G (by unfold sb; (repeat' split) <;> first | rfl | omega) (by rfl) dX2_stateBehind_14
set_option maxRecDepth 100000 in
set_option maxHeartbeats 4000000 in
theorem k_X2_tellsDays (l : Launch) {σ : Mem} (hT : IT σ) : CtI l yX2_tellsDays (Cond.code yX2_tellsDays cX2_tellsDays 3 (some .boolean)) 2 41 (fun z => [.ref (z + 131)]) σ (bz (mayE (ast σ (σ 131 1)))) σ := by
  intro D T z
  refine Ct_of (by decide) (Nat.le_of_ble_eq_true rfl) ?_
  intro p e s m below meth c ls hx hb hml hr hts hown hlk G hl
  have hown : s.vm.findClass RX2 = some m.cls := hown
  have hl : lv_has ls 3 [(0, .ref (z + 131))] := hl
  have ht := hT.1
  refine r_iconst hx hb dX2_tellsDays_0 ?_
  refine lv_istore_n (lv' := [(1, .int (kI 0)), (0, .ref (z + 131))]) hx hb dX2_tellsDays_1 rfl hl (by decide) rfl (fun ls hl => ?_)
  refine r_iconst hx hb dX2_tellsDays_2 ?_
  refine lv_istore_n (lv' := [(2, .int (kI 0)), (1, .int (kI 0)), (0, .ref (z + 131))]) hx hb dX2_tellsDays_3 rfl hl (by decide) rfl (fun ls hl => ?_)
  have lp4 : ∀ (d : Nat) (t : Int) (i : Int), (0 ≤ i) → (i ≤ σ 131 1) → (0 ≤ t ∧ t ≤ 9) → (t = ast σ i) → (σ 131 1 - i : Int) < (d : Int) → ∀ (H : Heap) (locs : List Loc), Wd D T z 133 σ s H locs → ∀ (ls : Array Slot), lv_has ls 3 [(0, .ref (z + 131)), (1, .int (kI t)), (2, .int (kI i))] → W p l e (rmN 2 41) s m ([.ref (z + 131)] : List Value).toArray below meth c H locs 0 0 (MQ below (QI D T z 133 (bz (mayE (ast σ (σ 131 1)))) σ) ([.ref (z + 131)] : List Value).toArray s 0 0 (Own T z)) (F0 m 4 ls []) := by
    intro d
    induction d with
    | zero => intro t i h0 h1 hr0 hv hd; exact absurd hd (by omega)
    | succ d ih4 =>
      intro t i h0 h1 hr0 hv hd H locs G ls hl
      refine lv_iload_n hx hb dX2_tellsDays_4 rfl (lv_at hl 2 rfl) ?_
      refine lv_aload_n hx hb dX2_tellsDays_5 rfl (lv_at hl 0 rfl) ?_
      refine gf_X2_15 hx hb hts hown G dX2_tellsDays_6 ?_
      refine r_icmp_ge (tgt := 28) hx hb ⟨by omega, by omega⟩ ⟨by omega, by omega⟩ dX2_tellsDays_9 (by decide) (fun h_1 => ?_) (fun h_1 => ?_)
      · skip
        refine lv_iload_n hx hb dX2_tellsDays_28 rfl (lv_at hl 1 rfl) ?_
        refine r_callSI ⟨hx, hb, hml, hown, hts⟩ G (k_X2_mayEnd l (v := t) (σ := σ) (⟨by omega, by omega⟩)) (kS_X2_mayEnd hts qM_X2_31 ⟨by decide, by decide⟩) rfl rfl hl.1 rfl (Nat.le_of_ble_eq_true rfl) dX2_tellsDays_29 ⟨Nat.le_refl _, Nat.le_refl _⟩ (fun H locs G => ?_)
        exact r_zret hx hb hr hlk G (bz_01) (by have e : i = σ 131 1 := (by omega); rw [hv, e]) (by rfl) dX2_tellsDays_32
      · skip
        refine lv_iload_n hx hb dX2_tellsDays_12 rfl (lv_at hl 1 rfl) ?_
        refine lv_aload_n hx hb dX2_tellsDays_13 rfl (lv_at hl 0 rfl) ?_
        refine lv_iload_n hx hb dX2_tellsDays_14 rfl (lv_at hl 2 rfl) ?_
        refine r_callVI ⟨hx, hb, hml, hown, hts⟩ G (k_X2_codeAt l (q := i) (σ := σ) (⟨by omega, by omega⟩) (hT)) (kV_X2_codeAt hts qM_X2_23 ⟨by decide, by decide⟩) (rc_X2 G) rfl rfl hl.1 rfl (Nat.le_of_ble_eq_true rfl) dX2_tellsDays_15 ⟨Nat.le_refl _, Nat.le_refl _⟩ (fun H locs G => ?_)
        have hc := cat_rg (q := i) hT
        refine r_callSI ⟨hx, hb, hml, hown, hts⟩ G (k_X2_stateBehind l (t := t) (v := cat σ i) (σ := σ) (⟨by omega, by omega⟩) (⟨by omega, by omega⟩)) (kS_X2_stateBehind hts qM_X2_27 ⟨by decide, by decide⟩) rfl rfl hl.1 rfl (Nat.le_of_ble_eq_true rfl) dX2_tellsDays_18 ⟨Nat.le_refl _, Nat.le_refl _⟩ (fun H locs G => ?_)
        have hsr := sb_rg (t := t) (c := cat σ i)
        have ha : ast σ (i + 1) = sb t (cat σ i) := by rw [ast_s h0, ← hv]
        refine lv_istore_n (lv' := [(1, .int (kI (sb t (cat σ i)))), (0, .ref (z + 131)), (2, .int (kI i))]) hx hb dX2_tellsDays_21 rfl hl (by decide) rfl (fun ls hl => ?_)
        refine r_iinc (lv' := [(2, .int (kI (i + 1))), (1, .int (kI (sb t (cat σ i)))), (0, .ref (z + 131))]) hx hb dX2_tellsDays_22 hl (k := 2) rfl (by decide) rfl (fun ls hl => ?_)
        refine lv_goto (tgt := 4) hx hb dX2_tellsDays_25 (by decide) ?_
        exact ih4 (sb t (cat σ i)) (i + 1) (by omega) (by omega) (by omega) (ha.symm) (by omega) _ _ G _ (lv_sub hl [2, 1, 0] rfl)
  exact lp4 61 0 0 (by omega) (by omega) (by omega) (rfl) (by omega) _ _ G _ (lv_sub hl [2, 1, 0] rfl)
set_option maxRecDepth 100000 in
set_option maxHeartbeats 4000000 in
theorem k_X2_beginsOrder (l : Launch) {σ : Mem} {q : Int} (hq : 0 ≤ q ∧ q ≤ 60) (hT : IT σ) : CtI l yX2_beginsOrder (Cond.code yX2_beginsOrder cX2_beginsOrder 2 (some .boolean)) 1 21 (fun z => [.ref (z + 131), .int (kI q)]) σ (bz (q = 0 ∨ cat σ (q - 1) = 59)) σ := by
  intro D T z
  refine Ct_of (by decide) (Nat.le_of_ble_eq_true rfl) ?_
  intro p e s m below meth c ls hx hb hml hr hts hown hlk G hl
  have hown : s.vm.findClass RX2 = some m.cls := hown
  have hl : lv_has ls 2 [(0, .ref (z + 131)), (1, .int (kI q))] := hl
  refine lv_iload_n hx hb dX2_beginsOrder_0 rfl (lv_at hl 1 rfl) ?_
  refine r_if_eq (tgt := 16) hx hb ⟨by omega, by omega⟩ dX2_beginsOrder_1 (by decide) (fun h_1 => ?_) (fun h_1 => ?_)
  · skip
    refine r_iconst hx hb dX2_beginsOrder_16 ?_
    refine lv_goto (tgt := 21) hx hb dX2_beginsOrder_17 (by decide) ?_
    exact r_zret hx hb hr hlk G (Or.inr rfl) (by first | exact one_bz (by omega) | exact zero_bz (by omega)) (by rfl) dX2_beginsOrder_21
  · skip
    refine lv_aload_n hx hb dX2_beginsOrder_4 rfl (lv_at hl 0 rfl) ?_
    refine lv_iload_n hx hb dX2_beginsOrder_5 rfl (lv_at hl 1 rfl) ?_
    refine r_iconst hx hb dX2_beginsOrder_6 ?_
    refine r_isub hx hb dX2_beginsOrder_7 ?_
    refine r_callVI ⟨hx, hb, hml, hown, hts⟩ G (k_X2_codeAt l (q := q - 1) (σ := σ) (⟨by omega, by omega⟩) (hT)) (kV_X2_codeAt hts qM_X2_23 ⟨by decide, by decide⟩) (rc_X2 G) rfl rfl hl.1 rfl (Nat.le_of_ble_eq_true rfl) dX2_beginsOrder_8 ⟨Nat.le_refl _, Nat.le_refl _⟩ (fun H locs G => ?_)
    have hc := cat_rg (q := q - 1) hT
    refine r_bipush hx hb dX2_beginsOrder_11 (by decide +kernel) ?_
    refine r_icmp_ne (tgt := 20) hx hb ⟨by omega, by omega⟩ ⟨by decide, by decide⟩ dX2_beginsOrder_13 (by decide) (fun h_2 => ?_) (fun h_2 => ?_)
    · skip
      refine r_iconst hx hb dX2_beginsOrder_20 ?_
      exact r_zret hx hb hr hlk G (Or.inl rfl) (by first | exact one_bz (by omega) | exact zero_bz (by omega)) (by rfl) dX2_beginsOrder_21
    · skip
      refine r_iconst hx hb dX2_beginsOrder_16 ?_
      refine lv_goto (tgt := 21) hx hb dX2_beginsOrder_17 (by decide) ?_
      exact r_zret hx hb hr hlk G (Or.inr rfl) (by first | exact one_bz (by omega) | exact zero_bz (by omega)) (by rfl) dX2_beginsOrder_21
set_option maxRecDepth 100000 in
set_option maxHeartbeats 4000000 in
theorem k_X2_numberAt (l : Launch) {σ : Mem} {q : Int} (hq : 0 ≤ q ∧ q ≤ 100) (hT : IT σ) : CtI l yX2_numberAt (Cond.code yX2_numberAt cX2_numberAt 4 (some .int)) 1 21 (fun z => [.ref (z + 131), .int (kI q)]) σ (num σ q) σ := by
  intro D T z
  refine Ct_of (by decide) (Nat.le_of_ble_eq_true rfl) ?_
  intro p e s m below meth c ls hx hb hml hr hts hown hlk G hl
  have hown : s.vm.findClass RX2 = some m.cls := hown
  have hl : lv_has ls 4 [(0, .ref (z + 131)), (1, .int (kI q))] := hl
  have ht := hT.1
  refine r_iconst hx hb dX2_numberAt_0 ?_
  refine lv_istore_n (lv' := [(2, .int (kI 0)), (0, .ref (z + 131)), (1, .int (kI q))]) hx hb dX2_numberAt_1 rfl hl (by decide) rfl (fun ls hl => ?_)
  refine lv_iload_n hx hb dX2_numberAt_2 rfl (lv_at hl 2 rfl) ?_
  refine lv_istore_n (lv' := [(3, .int (kI q)), (2, .int (kI 0)), (0, .ref (z + 131)), (1, .int (kI q))]) hx hb dX2_numberAt_3 rfl hl (by decide) rfl (fun ls hl => ?_)
  have lp4 : ∀ (d : Nat) (v : Int) (i : Int), (q ≤ i) → (i ≤ 60 ∨ i = q) → ((v, 1) = it (numF σ q) (0, 1) (i - q)) → (200 - i : Int) < (d : Int) → ∀ (H : Heap) (locs : List Loc), Wd D T z 133 σ s H locs → ∀ (ls : Array Slot), lv_has ls 4 [(0, .ref (z + 131)), (1, .int (kI q)), (2, .int (kI v)), (3, .int (kI i))] → W p l e (rmN 1 21) s m ([.ref (z + 131), .int (kI q)] : List Value).toArray below meth c H locs 0 0 (MQ below (QI D T z 133 (num σ q) σ) ([.ref (z + 131), .int (kI q)] : List Value).toArray s 0 0 (Own T z)) (F0 m 4 ls []) := by
    intro d
    induction d with
    | zero => intro v i h0 h1 hv hd; exact absurd hd (by omega)
    | succ d ih4 =>
      intro v i h0 h1 hv hd H locs G ls hl
      refine lv_iload_n hx hb dX2_numberAt_4 rfl (lv_at hl 3 rfl) ?_
      refine lv_aload_n hx hb dX2_numberAt_5 rfl (lv_at hl 0 rfl) ?_
      refine gf_X2_15 hx hb hts hown G dX2_numberAt_6 ?_
      refine r_icmp_ge (tgt := 43) hx hb ⟨by omega, by omega⟩ ⟨by omega, by omega⟩ dX2_numberAt_9 (by decide) (fun h_1 => ?_) (fun h_1 => ?_)
      · skip
        have hst : v = num σ q := num_stop (j := i - q) (by omega) (by omega) hv (by rw [show q + (i - q) = i by omega]; unfold cat; rw [if_neg (by omega)]; decide)
        refine lv_iload_n hx hb dX2_numberAt_43 rfl (lv_at hl 2 rfl) ?_
        exact r_iret hx hb hr hlk G (by exact hst) (by rfl) dX2_numberAt_44
      · skip
        refine lv_aload_n hx hb dX2_numberAt_12 rfl (lv_at hl 0 rfl) ?_
        refine lv_iload_n hx hb dX2_numberAt_13 rfl (lv_at hl 3 rfl) ?_
        refine r_callVI ⟨hx, hb, hml, hown, hts⟩ G (k_X2_codeAt l (q := i) (σ := σ) (⟨by omega, by omega⟩) (hT)) (kV_X2_codeAt hts qM_X2_23 ⟨by decide, by decide⟩) (rc_X2 G) rfl rfl hl.1 rfl (Nat.le_of_ble_eq_true rfl) dX2_numberAt_14 ⟨Nat.le_refl _, Nat.le_refl _⟩ (fun H locs G => ?_)
        have hc := cat_rg (q := i) hT
        refine r_callSI ⟨hx, hb, hml, hown, hts⟩ G (k_X2_isDigit l (v := cat σ i) (σ := σ) (⟨by omega, by omega⟩)) (kS_X2_isDigit hts qM_X2_38 ⟨by decide, by decide⟩) rfl rfl hl.1 rfl (Nat.le_of_ble_eq_true rfl) dX2_numberAt_17 ⟨Nat.le_refl _, Nat.le_refl _⟩ (fun H locs G => ?_)
        refine r_zeq (tgt := 43) hx hb dX2_numberAt_20 (by decide) (fun h_2 => ?_) (fun h_2 => ?_)
        · skip
          have hst : v = num σ q := num_stop (j := i - q) (by omega) (by omega) hv (by rw [show q + (i - q) = i by omega]; exact h_2)
          refine lv_iload_n hx hb dX2_numberAt_43 rfl (lv_at hl 2 rfl) ?_
          exact r_iret hx hb hr hlk G (by exact hst) (by rfl) dX2_numberAt_44
        · skip
          have hnx := num_next (j := i - q) (by omega) hv (by rw [show q + (i - q) = i by omega]; exact h_2)
          rw [show q + (i - q) = i by omega, show i - q + 1 = i + 1 - q by omega] at hnx
          refine lv_iload_n hx hb dX2_numberAt_23 rfl (lv_at hl 2 rfl) ?_
          refine r_bipush hx hb dX2_numberAt_24 (by decide +kernel) ?_
          refine r_imul hx hb dX2_numberAt_26 ?_
          refine lv_aload_n hx hb dX2_numberAt_27 rfl (lv_at hl 0 rfl) ?_
          refine lv_iload_n hx hb dX2_numberAt_28 rfl (lv_at hl 3 rfl) ?_
          refine r_callVI ⟨hx, hb, hml, hown, hts⟩ G (k_X2_codeAt l (q := i) (σ := σ) (⟨by omega, by omega⟩) (hT)) (kV_X2_codeAt hts qM_X2_23 ⟨by decide, by decide⟩) (rc_X2 G) rfl rfl hl.1 rfl (Nat.le_of_ble_eq_true rfl) dX2_numberAt_29 ⟨Nat.le_refl _, Nat.le_refl _⟩ (fun H locs G => ?_)
          refine r_iadd hx hb dX2_numberAt_32 ?_
          refine r_bipush hx hb dX2_numberAt_33 (by decide +kernel) ?_
          refine r_isub hx hb dX2_numberAt_35 ?_
          refine lv_istore_n (lv' := [(2, .int (kI (v * 10 + cat σ i - 48))), (0, .ref (z + 131)), (1, .int (kI q)), (3, .int (kI i))]) hx hb dX2_numberAt_36 rfl hl (by decide) rfl (fun ls hl => ?_)
          refine r_iinc (lv' := [(3, .int (kI (i + 1))), (2, .int (kI (v * 10 + cat σ i - 48))), (0, .ref (z + 131)), (1, .int (kI q))]) hx hb dX2_numberAt_37 hl (k := 3) rfl (by decide) rfl (fun ls hl => ?_)
          refine lv_goto (tgt := 4) hx hb dX2_numberAt_40 (by decide) ?_
          exact ih4 (v * 10 + cat σ i - 48) (i + 1) (by omega) (by omega) (hnx) (by omega) _ _ G _ (lv_sub hl [2, 3, 1, 0] rfl)
  exact lp4 201 0 q (by omega) (by omega) (by rw [show q - q = 0 by omega]; rfl) (by omega) _ _ G _ (lv_sub hl [2, 3, 1, 0] rfl)
