/-! what the reference's looks answer -/
def mky (σ : Mem) (k y w : Int) : Int := if w = 0 then mS σ 0 k y else if w = 1 then mR σ 0 k y else if mS σ 0 k y ≠ 2 then -1 else if w = 2 then plc σ 0 k y else if w = 3 then mD σ 0 - mT σ 0 k y else if mSe σ 0 k - (mD σ 0 - mT σ 0 k y) < 0 then 0 else mSe σ 0 k - (mD σ 0 - mT σ 0 k y)
def mkd (σ : Mem) (k w : Int) : Int := if w = 0 then mSe σ 0 k else if w = 1 then kin σ k 0 else if w = 2 then kin σ k 1 else if w = 3 then mL σ 0 k else if w = 4 then kin σ k 4 else if w = 5 then kin σ k 3 else σ 134 (268 + 4 * (w - 6) + k)
def mpl (σ : Mem) (k q : Int) : Int := if mL σ 0 k ≤ q then -1 else mP σ 0 k q
def sm (σ : Mem) (f : Int) : Int := σ 134 f + σ 134 (f + 1) + σ 134 (f + 2) + σ 134 (f + 3)
def mgr (σ : Mem) : Int := it (fun j v => if v < σ 134 (8 + 3 * j + 1) then σ 134 (8 + 3 * j + 1) else v) 0 64
def mco (σ : Mem) (w : Int) : Int := if w = 0 then σ 134 3 else if w = 1 then kin σ (-1) 1 else if w = 2 then sm σ 268 + sm σ 284 - sm σ 272 else if w = 3 then sm σ 264 else if w = 4 then kin σ (-1) 4 else if w ≤ 7 then σ 134 (288 + w - 5) else if w = 8 then mgr σ else σ 133 1
def msoF (σ : Mem) (k p v : Int) : Int := if v < 0 ∨ mky σ k (mP σ 0 k p) 4 < v then mky σ k (mP σ 0 k p) 4 else v
def mso (σ : Mem) (k : Int) : Int := if 0 ≤ mdr σ 0 k then 0 else it (msoF σ k) (-1) (mL σ 0 k)
def mloF (σ : Mem) (k p v : Int) : Int := if v < mD σ 0 - mT σ 0 k (mP σ 0 k p) then mD σ 0 - mT σ 0 k (mP σ 0 k p) else v
def mlo (σ : Mem) (k : Int) : Int := if 0 ≤ lof σ 0 k then 99 else if 99 < it (mloF σ k) (-1) (mL σ 0 k) then 99 else it (mloF σ k) (-1) (mL σ 0 k)
def mfwF (σ : Mem) (j v : Int) : Int := if kin σ (j + 1) 0 + kin σ (j + 1) 4 < kin σ v 0 + kin σ v 4 then j + 1 else v
def mfw (σ : Mem) : Int := it (mfwF σ) 0 3
theorem mky_rg {σ : Mem} {N k y w : Int} (hG : SG σ 0 N) (hk : 0 ≤ k ∧ k < 4) (hy : 0 ≤ y ∧ y < 16) : -9999 ≤ mky σ k y w ∧ mky σ k y w ≤ 9999 := by
  have h1 := hG.ky hk hy
  have h2 := hG.kd hk
  have h3 := hG.d
  have h4 := plc_rg (y := y) h2.2.1
  have h0 := hG.1
  unfold mky
  (repeat' split) <;> omega
/-- rows that ask one after the other, on a copy of the state -/
def mcsF (k : Int) (_ : Int) (v : Mem × Int) : Mem × Int := if v.2 = -2 then v else if mdr v.1 2619 k < 0 then (v.1, -2) else (mgiv v.1 2619 k (mdr v.1 2619 k), mdr v.1 2619 k)
def mcs (σ : Mem) (k n : Int) : Mem × Int := it (mcsF k) (sgc σ 0 9 291, -1) n
def mcR (σ : Mem) (k n : Int) : Int := if (mcs σ k n).2 = -2 then -1 else (mcs σ k n).2
theorem mcs_s {σ : Mem} {k i : Int} (h : 0 ≤ i) : mcs σ k (i + 1) = mcsF k i (mcs σ k i) := it_s (f := mcsF k) h
theorem mcs_stay {σ : Mem} {k i n : Int} (h0 : 0 ≤ i) (hn : i ≤ n) (h : (mcs σ k i).2 = -2) : mcs σ k n = mcs σ k i := by
  obtain ⟨d, rfl⟩ : ∃ d : Nat, n = i + d := ⟨(n - i).toNat, by omega⟩
  clear hn
  induction d with
  | zero => rw [show i + ((0 : Nat) : Int) = i by omega]
  | succ d ih =>
    rw [show i + ((d + 1 : Nat) : Int) = (i + d) + 1 by omega, mcs_s (by omega), ih]
    unfold mcsF; rw [if_pos h]
theorem mcs_miss {σ μ : Mem} {k i n ky : Int} (h0 : 0 ≤ i) (hn : i < n) (hv : (μ, ky) = mcs σ k i) (hk : ky ≠ -2) (hd : mdr μ 2619 k < 0) : mcs σ k n = (μ, -2) := by
  have h1 : mcs σ k (i + 1) = (μ, -2) := by
    rw [mcs_s h0, ← hv]; unfold mcsF; rw [if_neg (by exact hk), if_pos (by exact hd)]
  rw [mcs_stay (i := i + 1) (by omega) (by omega) (by rw [h1]), h1]
theorem mcs_next {σ μ : Mem} {k i ky : Int} (h0 : 0 ≤ i) (hv : (μ, ky) = mcs σ k i) (hk : ky ≠ -2) (hd : ¬ mdr μ 2619 k < 0) : (mgiv μ 2619 k (mdr μ 2619 k), mdr μ 2619 k) = mcs σ k (i + 1) := by
  rw [mcs_s h0, ← hv]; unfold mcsF; rw [if_neg (by exact hk), if_neg (by exact hd)]
set_option maxRecDepth 100000 in
set_option maxHeartbeats 4000000 in
theorem k_X6_keys (l : Launch) {σ : Mem} {N k y w : Int} (hk : 0 ≤ k ∧ k < 4) (hy : 0 ≤ y ∧ y < 16) (hw : 0 ≤ w ∧ w ≤ 4) (hG : SG σ 0 N) : CtI l yX6_keys (Cond.code yX6_keys cX6_keys 6 (some .int)) 2 48 (fun z => [.ref (z + 133), .int (kI k), .int (kI y), .int (kI w)]) σ (mky σ k y w) σ := by
  intro D T z
  refine Ct_of (by decide) (Nat.le_of_ble_eq_true rfl) ?_
  intro p e s m below meth c ls hx hb hml hr hts hown hlk G hl
  have hown : s.vm.findClass RX6 = some m.cls := hown
  have hl : lv_has ls 6 [(0, .ref (z + 133)), (1, .int (kI k)), (2, .int (kI y)), (3, .int (kI w))] := hl
  have hb0 := hG.1
  have hkd := hG.kd hk
  have hky := hG.ky hk hy
  have hdd := hG.d
  refine r_iconst hx hb dX6_keys_0 ?_
  refine lv_iload_n hx hb dX6_keys_1 rfl (lv_at hl 1 rfl) ?_
  refine lv_iload_n hx hb dX6_keys_2 rfl (lv_at hl 2 rfl) ?_
  refine r_callSI ⟨hx, hb, hml, hown, hts⟩ G (k_X6_keyAt l (b := 0) (k := k) (y := y) (σ := σ) ) (kS_X6_keyAt hts qM_X6_40 ⟨by decide, by decide⟩) rfl rfl hl.1 rfl (Nat.le_of_ble_eq_true rfl) dX6_keys_3 ⟨Nat.le_refl _, Nat.le_refl _⟩ (fun H locs G => ?_)
  refine lv_istore (lv' := [(4, .int (kI (0 + 8 + 3 * (16 * k + y)))), (0, .ref (z + 133)), (1, .int (kI k)), (2, .int (kI y)), (3, .int (kI w))]) hx hb dX6_keys_6 hl (by decide) rfl (fun ls hl => ?_)
  refine lv_iload_n hx hb dX6_keys_8 rfl (lv_at hl 4 rfl) ?_
  refine r_iconst hx hb dX6_keys_9 ?_
  refine r_icmp_ge (tgt := 23) hx hb ⟨by omega, by omega⟩ ⟨by decide, by decide⟩ dX6_keys_10 (by decide) (fun h_1 => ?_) (fun h_1 => ?_)
  · skip
    refine lv_aload_n hx hb dX6_keys_23 rfl (lv_at hl 1 rfl) ?_
    refine gf_X6_7 hx hb hts hown G dX6_keys_24 ?_
    refine lv_iload hx hb dX6_keys_27 (lv_at hl 0 rfl) ?_
    refine r_iald hx hb G 134 (by decide) (N := 2910) (fun _ => rfl) (by omega) (by omega) (by decide) dX6_keys_29 ?_
    refine r_top (b := mS σ 0 k y) (rfl) ?_
    refine r_iconst hx hb dX6_keys_30 ?_
    refine r_icmp_eq (tgt := 36) hx hb ⟨by omega, by omega⟩ ⟨by decide, by decide⟩ dX6_keys_31 (by decide) (fun h_2 => ?_) (fun h_2 => ?_)
    · skip
      refine lv_aload_n hx hb dX6_keys_36 rfl (lv_at hl 1 rfl) ?_
      refine gf_X6_7 hx hb hts hown G dX6_keys_37 ?_
      refine r_iconst hx hb dX6_keys_40 ?_
      refine lv_iload_n hx hb dX6_keys_41 rfl (lv_at hl 2 rfl) ?_
      refine r_iadd hx hb dX6_keys_42 ?_
      refine r_iald hx hb G 134 (by decide) (N := 2910) (fun _ => rfl) (by omega) (by omega) (by decide) dX6_keys_43 ?_
      refine r_top (b := mSe σ 0 k) (m_at (by omega)) ?_
      refine lv_aload_n hx hb dX6_keys_44 rfl (lv_at hl 1 rfl) ?_
      refine r_iconst hx hb dX6_keys_45 ?_
      refine lv_iload_n hx hb dX6_keys_46 rfl (lv_at hl 2 rfl) ?_
      refine lv_iload_n hx hb dX6_keys_47 rfl (lv_at hl 3 rfl) ?_
      refine r_callVI ⟨hx, hb, hml, hown, hts⟩ G (k_X6_age l (b := 0) (k := k) (y := y) (σ := σ) (hk) (hy) (⟨by omega, by omega⟩)) (kV_X6_age hts qM_X6_44 ⟨by decide, by decide⟩) (rc_X6 G) rfl rfl hl.1 rfl (Nat.le_of_ble_eq_true rfl) dX6_keys_48 ⟨Nat.le_refl _, Nat.le_refl _⟩ (fun H locs G => ?_)
      refine r_isub hx hb dX6_keys_51 ?_
      refine lv_istore (lv' := [(5, .int (kI (mSe σ 0 k - (mD σ 0 - mT σ 0 k y)))), (4, .int (kI (0 + 8 + 3 * (16 * k + y)))), (0, .ref (z + 133)), (1, .int (kI k)), (2, .int (kI y)), (3, .int (kI w))]) hx hb dX6_keys_52 hl (by decide) rfl (fun ls hl => ?_)
      refine lv_iload_n hx hb dX6_keys_54 rfl (lv_at hl 5 rfl) ?_
      refine r_iconst hx hb dX6_keys_55 ?_
      refine r_icmp_ne (tgt := 69) hx hb ⟨by omega, by omega⟩ ⟨by decide, by decide⟩ dX6_keys_56 (by decide) (fun h_3 => ?_) (fun h_3 => ?_)
      · skip
        refine lv_iload_n hx hb dX6_keys_69 rfl (lv_at hl 5 rfl) ?_
        refine r_iconst hx hb dX6_keys_70 ?_
        refine r_icmp_ne (tgt := 84) hx hb ⟨by omega, by omega⟩ ⟨by decide, by decide⟩ dX6_keys_71 (by decide) (fun h_4 => ?_) (fun h_4 => ?_)
        · skip
          refine lv_iload hx hb dX6_keys_84 (lv_at hl 0 rfl) ?_
          refine r_if_ge (tgt := 93) hx hb ⟨by omega, by omega⟩ dX6_keys_86 (by decide) (fun h_5 => ?_) (fun h_5 => ?_)
          · skip
            refine lv_iload hx hb dX6_keys_93 (lv_at hl 0 rfl) ?_
            exact r_iret hx hb hr hlk G (by unfold mky; (repeat' split) <;> omega) (by rfl) dX6_keys_95
          · skip
            refine r_iconst hx hb dX6_keys_89 ?_
            refine lv_goto (tgt := 95) hx hb dX6_keys_90 (by decide) ?_
            exact r_iret hx hb hr hlk G (by unfold mky; (repeat' split) <;> omega) (by rfl) dX6_keys_95
        · skip
          refine lv_aload_n hx hb dX6_keys_74 rfl (lv_at hl 2 rfl) ?_
          refine r_iconst hx hb dX6_keys_75 ?_
          refine lv_iload_n hx hb dX6_keys_76 rfl (lv_at hl 3 rfl) ?_
          refine lv_iload_n hx hb dX6_keys_77 rfl (lv_at hl 4 rfl) ?_
          refine r_callVI ⟨hx, hb, hml, hown, hts⟩ G (k_X6_age l (b := 0) (k := k) (y := y) (σ := σ) (hk) (hy) (⟨by omega, by omega⟩)) (kV_X6_age hts qM_X6_44 ⟨by decide, by decide⟩) (rc_X6 G) rfl rfl hl.1 rfl (Nat.le_of_ble_eq_true rfl) dX6_keys_78 ⟨Nat.le_refl _, Nat.le_refl _⟩ (fun H locs G => ?_)
          refine lv_goto (tgt := 95) hx hb dX6_keys_81 (by decide) ?_
          exact r_iret hx hb hr hlk G (by unfold mky; (repeat' split) <;> omega) (by rfl) dX6_keys_95
      · skip
        refine lv_aload_n hx hb dX6_keys_59 rfl (lv_at hl 2 rfl) ?_
        refine r_iconst hx hb dX6_keys_60 ?_
        refine lv_iload_n hx hb dX6_keys_61 rfl (lv_at hl 3 rfl) ?_
        refine lv_iload_n hx hb dX6_keys_62 rfl (lv_at hl 4 rfl) ?_
        refine r_callVI ⟨hx, hb, hml, hown, hts⟩ G (k_X6_placeOf l (b := 0) (k := k) (y := y) (σ := σ) (hk) (hy) (hG)) (kV_X6_placeOf hts qM_X6_53 ⟨by decide, by decide⟩) (rc_X6 G) rfl rfl hl.1 rfl (Nat.le_of_ble_eq_true rfl) dX6_keys_63 ⟨Nat.le_refl _, Nat.le_refl _⟩ (fun H locs G => ?_)
        refine lv_goto (tgt := 95) hx hb dX6_keys_66 (by decide) ?_
        exact r_iret hx hb hr hlk G (by unfold mky; (repeat' split) <;> omega) (by rfl) dX6_keys_95
    · skip
      refine r_iconst hx hb dX6_keys_34 ?_
      exact r_iret hx hb hr hlk G (by unfold mky; (repeat' split) <;> omega) (by rfl) dX6_keys_35
  · skip
    refine lv_aload_n hx hb dX6_keys_13 rfl (lv_at hl 1 rfl) ?_
    refine gf_X6_7 hx hb hts hown G dX6_keys_14 ?_
    refine lv_iload hx hb dX6_keys_17 (lv_at hl 0 rfl) ?_
    refine lv_iload_n hx hb dX6_keys_19 rfl (lv_at hl 4 rfl) ?_
    refine r_iadd hx hb dX6_keys_20 ?_
    refine r_iald hx hb G 134 (by decide) (N := 2910) (fun _ => rfl) (by omega) (by omega) (by decide) dX6_keys_21 ?_
    exact r_iret hx hb hr hlk G (by unfold mky; rcases (by omega : w = 0 ∨ w = 1) with e | e <;> subst e <;> exact m_at (by omega)) (by rfl) dX6_keys_22
set_option maxRecDepth 100000 in
set_option maxHeartbeats 4000000 in
theorem k_X6_kinds (l : Launch) {σ : Mem} {N k w : Int} (hk : 0 ≤ k ∧ k < 4) (hw : 0 ≤ w ∧ w ≤ 10) (hG : SG σ 0 N) : CtI l yX6_kinds (Cond.code yX6_kinds cX6_kinds 3 (some .int)) 4 93 (fun z => [.ref (z + 133), .int (kI k), .int (kI w)]) σ (mkd σ k w) σ := by
  intro D T z
  refine Ct_of (by decide) (Nat.le_of_ble_eq_true rfl) ?_
  intro p e s m below meth c ls hx hb hml hr hts hown hlk G hl
  have hown : s.vm.findClass RX6 = some m.cls := hown
  have hl : lv_has ls 3 [(0, .ref (z + 133)), (1, .int (kI k)), (2, .int (kI w))] := hl
  have hkd := hG.kd hk
  refine lv_iload_n hx hb dX6_kinds_0 rfl (lv_at hl 2 rfl) ?_
  by_cases hc_2 : w = 0
  · skip
    refine r_tabIn (j := 0) (tgt := 40) hx hb dX6_kinds_1 (by omega) (by omega) ⟨by omega, by omega⟩ rfl (by decide) ?_
    refine lv_aload_n hx hb dX6_kinds_40 rfl (lv_at hl 0 rfl) ?_
    refine gf_X6_7 hx hb hts hown G dX6_kinds_41 ?_
    refine r_iconst hx hb dX6_kinds_44 ?_
    refine lv_iload_n hx hb dX6_kinds_45 rfl (lv_at hl 1 rfl) ?_
    refine r_iadd hx hb dX6_kinds_46 ?_
    refine r_iald hx hb G 134 (by decide) (N := 2910) (fun _ => rfl) (by omega) (by omega) (by decide) dX6_kinds_47 ?_
    exact r_iret hx hb hr hlk G (by unfold mkd; rw [if_pos (by omega)]; exact m_at (by omega)) (by rfl) dX6_kinds_48
  by_cases hc_3 : w = 1
  · skip
    refine r_tabIn (j := 1) (tgt := 49) hx hb dX6_kinds_1 (by omega) (by omega) ⟨by omega, by omega⟩ rfl (by decide) ?_
    refine lv_aload_n hx hb dX6_kinds_49 rfl (lv_at hl 0 rfl) ?_
    refine lv_iload_n hx hb dX6_kinds_50 rfl (lv_at hl 1 rfl) ?_
    refine r_iconst hx hb dX6_kinds_51 ?_
    refine r_callVI ⟨hx, hb, hml, hown, hts⟩ G (k_X6_keysIn l (kd := k) (w := 0) (σ := σ) (⟨by omega, by omega⟩) (⟨by omega, by omega⟩) (hG)) (kV_X6_keysIn hts qM_X6_118 ⟨by decide, by decide⟩) (rc_X6 G) rfl rfl hl.1 rfl (Nat.le_of_ble_eq_true rfl) dX6_kinds_52 ⟨Nat.le_refl _, Nat.le_refl _⟩ (fun H locs G => ?_)
    exact r_iret hx hb hr hlk G (by unfold mkd; (repeat' split) <;> first | rfl | omega) (by rfl) dX6_kinds_55
  by_cases hc_4 : w = 2
  · skip
    refine r_tabIn (j := 2) (tgt := 56) hx hb dX6_kinds_1 (by omega) (by omega) ⟨by omega, by omega⟩ rfl (by decide) ?_
    refine lv_aload_n hx hb dX6_kinds_56 rfl (lv_at hl 0 rfl) ?_
    refine lv_iload_n hx hb dX6_kinds_57 rfl (lv_at hl 1 rfl) ?_
    refine r_iconst hx hb dX6_kinds_58 ?_
    refine r_callVI ⟨hx, hb, hml, hown, hts⟩ G (k_X6_keysIn l (kd := k) (w := 1) (σ := σ) (⟨by omega, by omega⟩) (⟨by omega, by omega⟩) (hG)) (kV_X6_keysIn hts qM_X6_118 ⟨by decide, by decide⟩) (rc_X6 G) rfl rfl hl.1 rfl (Nat.le_of_ble_eq_true rfl) dX6_kinds_59 ⟨Nat.le_refl _, Nat.le_refl _⟩ (fun H locs G => ?_)
    exact r_iret hx hb hr hlk G (by unfold mkd; (repeat' split) <;> first | rfl | omega) (by rfl) dX6_kinds_62
  by_cases hc_5 : w = 3
  · skip
    refine r_tabIn (j := 3) (tgt := 63) hx hb dX6_kinds_1 (by omega) (by omega) ⟨by omega, by omega⟩ rfl (by decide) ?_
    refine lv_aload_n hx hb dX6_kinds_63 rfl (lv_at hl 0 rfl) ?_
    refine gf_X6_7 hx hb hts hown G dX6_kinds_64 ?_
    refine r_sipush hx hb dX6_kinds_67 (by decide +kernel) ?_
    refine lv_iload_n hx hb dX6_kinds_70 rfl (lv_at hl 1 rfl) ?_
    refine r_iadd hx hb dX6_kinds_71 ?_
    refine r_iald hx hb G 134 (by decide) (N := 2910) (fun _ => rfl) (by omega) (by omega) (by decide) dX6_kinds_72 ?_
    exact r_iret hx hb hr hlk G (by unfold mkd; rw [if_neg (by omega), if_neg (by omega), if_neg (by omega), if_pos (by omega)]; exact z264) (by rfl) dX6_kinds_73
  by_cases hc_6 : w = 4
  · skip
    refine r_tabIn (j := 4) (tgt := 74) hx hb dX6_kinds_1 (by omega) (by omega) ⟨by omega, by omega⟩ rfl (by decide) ?_
    refine lv_aload_n hx hb dX6_kinds_74 rfl (lv_at hl 0 rfl) ?_
    refine lv_iload_n hx hb dX6_kinds_75 rfl (lv_at hl 1 rfl) ?_
    refine r_iconst hx hb dX6_kinds_76 ?_
    refine r_callVI ⟨hx, hb, hml, hown, hts⟩ G (k_X6_keysIn l (kd := k) (w := 4) (σ := σ) (⟨by omega, by omega⟩) (⟨by omega, by omega⟩) (hG)) (kV_X6_keysIn hts qM_X6_118 ⟨by decide, by decide⟩) (rc_X6 G) rfl rfl hl.1 rfl (Nat.le_of_ble_eq_true rfl) dX6_kinds_77 ⟨Nat.le_refl _, Nat.le_refl _⟩ (fun H locs G => ?_)
    exact r_iret hx hb hr hlk G (by unfold mkd; (repeat' split) <;> first | rfl | omega) (by rfl) dX6_kinds_80
  by_cases hc_7 : w = 5
  · skip
    refine r_tabIn (j := 5) (tgt := 81) hx hb dX6_kinds_1 (by omega) (by omega) ⟨by omega, by omega⟩ rfl (by decide) ?_
    refine lv_aload_n hx hb dX6_kinds_81 rfl (lv_at hl 0 rfl) ?_
    refine lv_iload_n hx hb dX6_kinds_82 rfl (lv_at hl 1 rfl) ?_
    refine r_iconst hx hb dX6_kinds_83 ?_
    refine r_callVI ⟨hx, hb, hml, hown, hts⟩ G (k_X6_keysIn l (kd := k) (w := 3) (σ := σ) (⟨by omega, by omega⟩) (⟨by omega, by omega⟩) (hG)) (kV_X6_keysIn hts qM_X6_118 ⟨by decide, by decide⟩) (rc_X6 G) rfl rfl hl.1 rfl (Nat.le_of_ble_eq_true rfl) dX6_kinds_84 ⟨Nat.le_refl _, Nat.le_refl _⟩ (fun H locs G => ?_)
    exact r_iret hx hb hr hlk G (by unfold mkd; (repeat' split) <;> first | rfl | omega) (by rfl) dX6_kinds_87
  refine r_tabOut (tgt := 88) hx hb dX6_kinds_1 ⟨by omega, by omega⟩ (by omega) (by decide) ?_
  refine lv_aload_n hx hb dX6_kinds_88 rfl (lv_at hl 0 rfl) ?_
  refine gf_X6_7 hx hb hts hown G dX6_kinds_89 ?_
  refine r_sipush hx hb dX6_kinds_92 (by decide +kernel) ?_
  refine r_iconst hx hb dX6_kinds_95 ?_
  refine lv_iload_n hx hb dX6_kinds_96 rfl (lv_at hl 2 rfl) ?_
  refine r_bipush hx hb dX6_kinds_97 (by decide +kernel) ?_
  refine r_isub hx hb dX6_kinds_99 ?_
  refine r_imul hx hb dX6_kinds_100 ?_
  refine r_iadd hx hb dX6_kinds_101 ?_
  refine lv_iload_n hx hb dX6_kinds_102 rfl (lv_at hl 1 rfl) ?_
  refine r_iadd hx hb dX6_kinds_103 ?_
  refine r_iald hx hb G 134 (by decide) (N := 2910) (fun _ => rfl) (by omega) (by omega) (by decide) dX6_kinds_104 ?_
  exact r_iret hx hb hr hlk G (by unfold mkd; (repeat' split) <;> first | rfl | omega) (by rfl) dX6_kinds_105
set_option maxRecDepth 100000 in
set_option maxHeartbeats 4000000 in
theorem k_X6_piled (l : Launch) {σ : Mem} {N k q : Int} (hk : 0 ≤ k ∧ k < 4) (hq : 0 ≤ q ∧ inR q) (hG : SG σ 0 N) : CtI l yX6_piled (Cond.code yX6_piled cX6_piled 3 (some .int)) 1 23 (fun z => [.ref (z + 133), .int (kI k), .int (kI q)]) σ (mpl σ k q) σ := by
  intro D T z
  refine Ct_of (by decide) (Nat.le_of_ble_eq_true rfl) ?_
  intro p e s m below meth c ls hx hb hml hr hts hown hlk G hl
  have hown : s.vm.findClass RX6 = some m.cls := hown
  have hl : lv_has ls 3 [(0, .ref (z + 133)), (1, .int (kI k)), (2, .int (kI q))] := hl
  have hkd := hG.kd hk
  have hq2 := hq.2
  refine lv_iload_n hx hb dX6_piled_0 rfl (lv_at hl 2 rfl) ?_
  refine lv_aload_n hx hb dX6_piled_1 rfl (lv_at hl 0 rfl) ?_
  refine gf_X6_7 hx hb hts hown G dX6_piled_2 ?_
  refine r_sipush hx hb dX6_piled_5 (by decide +kernel) ?_
  refine lv_iload_n hx hb dX6_piled_8 rfl (lv_at hl 1 rfl) ?_
  refine r_iadd hx hb dX6_piled_9 ?_
  refine r_iald hx hb G 134 (by decide) (N := 2910) (fun _ => rfl) (by omega) (by omega) (by decide) dX6_piled_10 ?_
  refine r_top (b := mL σ 0 k) (z264) ?_
  refine r_icmp_lt (tgt := 18) hx hb ⟨by omega, by omega⟩ ⟨by omega, by omega⟩ dX6_piled_11 (by decide) (fun h_1 => ?_) (fun h_1 => ?_)
  · skip
    refine lv_aload_n hx hb dX6_piled_18 rfl (lv_at hl 0 rfl) ?_
    refine r_iconst hx hb dX6_piled_19 ?_
    refine lv_iload_n hx hb dX6_piled_20 rfl (lv_at hl 1 rfl) ?_
    refine lv_iload_n hx hb dX6_piled_21 rfl (lv_at hl 2 rfl) ?_
    refine r_callVI ⟨hx, hb, hml, hown, hts⟩ G (k_X6_pileAt l (b := 0) (k := k) (q := q) (σ := σ) (⟨by omega, by omega⟩) (⟨by omega, by omega⟩) (⟨by omega, by omega⟩)) (kV_X6_pileAt hts qM_X6_50 ⟨by decide, by decide⟩) (rc_X6 G) rfl rfl hl.1 rfl (Nat.le_of_ble_eq_true rfl) dX6_piled_22 ⟨Nat.le_refl _, Nat.le_refl _⟩ (fun H locs G => ?_)
    exact r_iret hx hb hr hlk G (by unfold mpl; first | rw [if_pos (by omega)] | rw [if_neg (by omega)]) (by rfl) dX6_piled_25
  · skip
    refine r_iconst hx hb dX6_piled_14 ?_
    refine lv_goto (tgt := 25) hx hb dX6_piled_15 (by decide) ?_
    exact r_iret hx hb hr hlk G (by unfold mpl; first | rw [if_pos (by omega)] | rw [if_neg (by omega)]) (by rfl) dX6_piled_25
set_option maxRecDepth 100000 in
set_option maxHeartbeats 4000000 in
theorem k_X6_sum (l : Launch) {σ : Mem} {f : Int} (hf : 0 ≤ f ∧ f ≤ 2000) : CtI l yX6_sum (Cond.code yX6_sum cX6_sum 2 (some .int)) 0 0 (fun z => [.ref (z + 133), .int (kI f)]) σ (sm σ f) σ := by
  intro D T z
  refine Ct_of (by decide) (Nat.le_of_ble_eq_true rfl) ?_
  intro p e s m below meth c ls hx hb hml hr hts hown hlk G hl
  have hown : s.vm.findClass RX6 = some m.cls := hown
  have hl : lv_has ls 2 [(0, .ref (z + 133)), (1, .int (kI f))] := hl
  refine lv_aload_n hx hb dX6_sum_0 rfl (lv_at hl 0 rfl) ?_
  refine gf_X6_7 hx hb hts hown G dX6_sum_1 ?_
  refine lv_iload_n hx hb dX6_sum_4 rfl (lv_at hl 1 rfl) ?_
  refine r_iald hx hb G 134 (by decide) (N := 2910) (fun _ => rfl) (by omega) (by omega) (by decide) dX6_sum_5 ?_
  refine lv_aload_n hx hb dX6_sum_6 rfl (lv_at hl 0 rfl) ?_
  refine gf_X6_7 hx hb hts hown G dX6_sum_7 ?_
  refine lv_iload_n hx hb dX6_sum_10 rfl (lv_at hl 1 rfl) ?_
  refine r_iconst hx hb dX6_sum_11 ?_
  refine r_iadd hx hb dX6_sum_12 ?_
  refine r_iald hx hb G 134 (by decide) (N := 2910) (fun _ => rfl) (by omega) (by omega) (by decide) dX6_sum_13 ?_
  refine r_iadd hx hb dX6_sum_14 ?_
  refine lv_aload_n hx hb dX6_sum_15 rfl (lv_at hl 0 rfl) ?_
  refine gf_X6_7 hx hb hts hown G dX6_sum_16 ?_
  refine lv_iload_n hx hb dX6_sum_19 rfl (lv_at hl 1 rfl) ?_
  refine r_iconst hx hb dX6_sum_20 ?_
  refine r_iadd hx hb dX6_sum_21 ?_
  refine r_iald hx hb G 134 (by decide) (N := 2910) (fun _ => rfl) (by omega) (by omega) (by decide) dX6_sum_22 ?_
  refine r_iadd hx hb dX6_sum_23 ?_
  refine lv_aload_n hx hb dX6_sum_24 rfl (lv_at hl 0 rfl) ?_
  refine gf_X6_7 hx hb hts hown G dX6_sum_25 ?_
  refine lv_iload_n hx hb dX6_sum_28 rfl (lv_at hl 1 rfl) ?_
  refine r_iconst hx hb dX6_sum_29 ?_
  refine r_iadd hx hb dX6_sum_30 ?_
  refine r_iald hx hb G 134 (by decide) (N := 2910) (fun _ => rfl) (by omega) (by omega) (by decide) dX6_sum_31 ?_
  refine r_iadd hx hb dX6_sum_32 ?_
  exact r_iret hx hb hr hlk G (by first | rfl | omega) (by rfl) dX6_sum_33
set_option maxRecDepth 100000 in
set_option maxHeartbeats 4000000 in
theorem k_X6_greatestRound (l : Launch) {σ : Mem} {N : Int} (hG : SG σ 0 N) : CtI l yX6_greatestRound (Cond.code yX6_greatestRound cX6_greatestRound 4 (some .int)) 0 0 (fun z => [.ref (z + 133)]) σ (mgr σ) σ := by
  intro D T z
  refine Ct_of (by decide) (Nat.le_of_ble_eq_true rfl) ?_
  intro p e s m below meth c ls hx hb hml hr hts hown hlk G hl
  have hown : s.vm.findClass RX6 = some m.cls := hown
  have hl : lv_has ls 4 [(0, .ref (z + 133))] := hl
  have hb0 := hG.1
  refine r_iconst hx hb dX6_greatestRound_0 ?_
  refine lv_istore_n (lv' := [(1, .int (kI 0)), (0, .ref (z + 133))]) hx hb dX6_greatestRound_1 rfl hl (by decide) rfl (fun ls hl => ?_)
  refine r_iconst hx hb dX6_greatestRound_2 ?_
  refine lv_istore_n (lv' := [(2, .int (kI 0)), (1, .int (kI 0)), (0, .ref (z + 133))]) hx hb dX6_greatestRound_3 rfl hl (by decide) rfl (fun ls hl => ?_)
  have lp4 : ∀ (d : Nat) (v : Int) (i : Int), (0 ≤ i) → (i ≤ 64) → (0 ≤ v ∧ v ≤ 1000) → (v = it (fun j v => if v < σ 134 (8 + 3 * j + 1) then σ 134 (8 + 3 * j + 1) else v) 0 i) → (64 - i : Int) < (d : Int) → ∀ (H : Heap) (locs : List Loc), Wd D T z 139 σ s H locs → ∀ (ls : Array Slot), lv_has ls 4 [(0, .ref (z + 133)), (1, .int (kI v)), (2, .int (kI i))] → W p l e (rmN 0 0) s m ([.ref (z + 133)] : List Value).toArray below meth c H locs 0 0 (MQ below (QI D T z 139 (mgr σ) σ) ([.ref (z + 133)] : List Value).toArray s 0 0 (Own z)) (F0 m 4 ls []) := by
    intro d
    induction d with
    | zero => intro v i h0 h1 hr0 hv hd; exact absurd hd (by omega)
    | succ d ih4 =>
      intro v i h0 h1 hr0 hv hd H locs G ls hl
      refine lv_iload_n hx hb dX6_greatestRound_4 rfl (lv_at hl 2 rfl) ?_
      refine r_bipush hx hb dX6_greatestRound_5 (by decide +kernel) ?_
      refine r_icmp_ge (tgt := 41) hx hb ⟨by omega, by omega⟩ ⟨by decide, by decide⟩ dX6_greatestRound_7 (by decide) (fun h_1 => ?_) (fun h_1 => ?_)
      · skip
        refine lv_iload_n hx hb dX6_greatestRound_41 rfl (lv_at hl 1 rfl) ?_
        exact r_iret hx hb hr hlk G (by have e : i = 64 := (by omega); rw [hv, e]; rfl) (by rfl) dX6_greatestRound_42
      · skip
        have hky := hG.ky (k := i / 16) (y := i % 16) ⟨by omega, by omega⟩ ⟨by omega, by omega⟩
        have e1 : mR σ 0 (i / 16) (i % 16) = σ 134 (8 + 3 * i + 1) := m_at (by omega)
        refine lv_aload_n hx hb dX6_greatestRound_10 rfl (lv_at hl 0 rfl) ?_
        refine gf_X6_7 hx hb hts hown G dX6_greatestRound_11 ?_
        refine r_bipush hx hb dX6_greatestRound_14 (by decide +kernel) ?_
        refine r_iconst hx hb dX6_greatestRound_16 ?_
        refine lv_iload_n hx hb dX6_greatestRound_17 rfl (lv_at hl 2 rfl) ?_
        refine r_imul hx hb dX6_greatestRound_18 ?_
        refine r_iadd hx hb dX6_greatestRound_19 ?_
        refine r_iconst hx hb dX6_greatestRound_20 ?_
        refine r_iadd hx hb dX6_greatestRound_21 ?_
        refine r_iald hx hb G 134 (by decide) (N := 2910) (fun _ => rfl) (by omega) (by omega) (by decide) dX6_greatestRound_22 ?_
        refine lv_istore_n (lv' := [(3, .int (kI (σ 134 (8 + 3 * i + 1)))), (0, .ref (z + 133)), (1, .int (kI v)), (2, .int (kI i))]) hx hb dX6_greatestRound_23 rfl hl (by decide) rfl (fun ls hl => ?_)
        refine lv_iload_n hx hb dX6_greatestRound_24 rfl (lv_at hl 0 rfl) ?_
        refine lv_iload_n hx hb dX6_greatestRound_25 rfl (lv_at hl 2 rfl) ?_
        refine r_icmp_le (tgt := 33) hx hb ⟨by omega, by omega⟩ ⟨by omega, by omega⟩ dX6_greatestRound_26 (by decide) (fun h_2 => ?_) (fun h_2 => ?_)
        · skip
          refine lv_iload_n hx hb dX6_greatestRound_33 rfl (lv_at hl 2 rfl) ?_
          refine lv_istore_n (lv' := [(1, .int (kI v)), (3, .int (kI (σ 134 (8 + 3 * i + 1)))), (0, .ref (z + 133)), (2, .int (kI i))]) hx hb dX6_greatestRound_34 rfl hl (by decide) rfl (fun ls hl => ?_)
          refine r_iinc (lv' := [(2, .int (kI (i + 1))), (1, .int (kI v)), (3, .int (kI (σ 134 (8 + 3 * i + 1)))), (0, .ref (z + 133))]) hx hb dX6_greatestRound_35 hl (k := 3) rfl (by decide) rfl (fun ls hl => ?_)
          refine lv_goto (tgt := 4) hx hb dX6_greatestRound_38 (by decide) ?_
          exact ih4 v (i + 1) (by omega) (by omega) (by omega) (by rw [it_s h0, ← hv]; (try dsimp only); (repeat' split) <;> omega) (by omega) _ _ G _ (lv_sub hl [3, 1, 0] rfl)
        · skip
          refine lv_iload_n hx hb dX6_greatestRound_29 rfl (lv_at hl 0 rfl) ?_
          refine lv_goto (tgt := 34) hx hb dX6_greatestRound_30 (by decide) ?_
          refine lv_istore_n (lv' := [(1, .int (kI (σ 134 (8 + 3 * i + 1)))), (3, .int (kI (σ 134 (8 + 3 * i + 1)))), (0, .ref (z + 133)), (2, .int (kI i))]) hx hb dX6_greatestRound_34 rfl hl (by decide) rfl (fun ls hl => ?_)
          refine r_iinc (lv' := [(2, .int (kI (i + 1))), (1, .int (kI (σ 134 (8 + 3 * i + 1)))), (3, .int (kI (σ 134 (8 + 3 * i + 1)))), (0, .ref (z + 133))]) hx hb dX6_greatestRound_35 hl (k := 3) rfl (by decide) rfl (fun ls hl => ?_)
          refine lv_goto (tgt := 4) hx hb dX6_greatestRound_38 (by decide) ?_
          exact ih4 (σ 134 (8 + 3 * i + 1)) (i + 1) (by omega) (by omega) (by omega) (by rw [it_s h0, ← hv]; (try dsimp only); (repeat' split) <;> omega) (by omega) _ _ G _ (lv_sub hl [3, 1, 0] rfl)
  exact lp4 65 0 0 (by omega) (by omega) (by omega) (rfl) (by omega) _ _ G _ (lv_sub hl [2, 1, 0] rfl)
set_option maxRecDepth 100000 in
set_option maxHeartbeats 4000000 in
theorem k_X6_counted (l : Launch) {σ : Mem} {N w : Int} (hw : 0 ≤ w ∧ w ≤ 9) (hG : SG σ 0 N) : CtI l yX6_counted (Cond.code yX6_counted cX6_counted 2 (some .int)) 4 93 (fun z => [.ref (z + 133), .int (kI w)]) σ (mco σ w) σ := by
  intro D T z
  refine Ct_of (by decide) (Nat.le_of_ble_eq_true rfl) ?_
  intro p e s m below meth c ls hx hb hml hr hts hown hlk G hl
  have hown : s.vm.findClass RX6 = some m.cls := hown
  have hl : lv_has ls 2 [(0, .ref (z + 133)), (1, .int (kI w))] := hl
  refine lv_iload_n hx hb dX6_counted_0 rfl (lv_at hl 1 rfl) ?_
  by_cases hc_2 : w = 0
  · skip
    refine r_tabIn (j := 0) (tgt := 52) hx hb dX6_counted_1 (by omega) (by omega) ⟨by omega, by omega⟩ rfl (by decide) ?_
    refine lv_aload_n hx hb dX6_counted_52 rfl (lv_at hl 0 rfl) ?_
    refine gf_X6_7 hx hb hts hown G dX6_counted_53 ?_
    refine r_iconst hx hb dX6_counted_56 ?_
    refine r_iald hx hb G 134 (by decide) (N := 2910) (fun _ => rfl) (by omega) (by omega) (by decide) dX6_counted_57 ?_
    exact r_iret hx hb hr hlk G (by unfold mco; (repeat' split) <;> first | rfl | omega) (by rfl) dX6_counted_58
  by_cases hc_3 : w = 1
  · skip
    refine r_tabIn (j := 1) (tgt := 59) hx hb dX6_counted_1 (by omega) (by omega) ⟨by omega, by omega⟩ rfl (by decide) ?_
    refine lv_aload_n hx hb dX6_counted_59 rfl (lv_at hl 0 rfl) ?_
    refine r_iconst hx hb dX6_counted_60 ?_
    refine r_iconst hx hb dX6_counted_61 ?_
    refine r_callVI ⟨hx, hb, hml, hown, hts⟩ G (k_X6_keysIn l (kd := -1) (w := 1) (σ := σ) (⟨by omega, by omega⟩) (⟨by omega, by omega⟩) (hG)) (kV_X6_keysIn hts qM_X6_118 ⟨by decide, by decide⟩) (rc_X6 G) rfl rfl hl.1 rfl (Nat.le_of_ble_eq_true rfl) dX6_counted_62 ⟨Nat.le_refl _, Nat.le_refl _⟩ (fun H locs G => ?_)
    exact r_iret hx hb hr hlk G (by unfold mco; (repeat' split) <;> first | rfl | omega) (by rfl) dX6_counted_65
  by_cases hc_4 : w = 2
  · skip
    refine r_tabIn (j := 2) (tgt := 66) hx hb dX6_counted_1 (by omega) (by omega) ⟨by omega, by omega⟩ rfl (by decide) ?_
    refine lv_aload_n hx hb dX6_counted_66 rfl (lv_at hl 0 rfl) ?_
    refine r_sipush hx hb dX6_counted_67 (by decide +kernel) ?_
    refine r_callVI ⟨hx, hb, hml, hown, hts⟩ G (k_X6_sum l (f := 268) (σ := σ) (by omega)) (kV_X6_sum hts qM_X6_174 ⟨by decide, by decide⟩) (rc_X6 G) rfl rfl hl.1 rfl (Nat.le_of_ble_eq_true rfl) dX6_counted_70 ⟨Nat.le_refl _, Nat.le_refl _⟩ (fun H locs G => ?_)
    refine lv_aload_n hx hb dX6_counted_73 rfl (lv_at hl 0 rfl) ?_
    refine r_sipush hx hb dX6_counted_74 (by decide +kernel) ?_
    refine r_callVI ⟨hx, hb, hml, hown, hts⟩ G (k_X6_sum l (f := 284) (σ := σ) (by omega)) (kV_X6_sum hts qM_X6_174 ⟨by decide, by decide⟩) (rc_X6 G) rfl rfl hl.1 rfl (Nat.le_of_ble_eq_true rfl) dX6_counted_77 ⟨Nat.le_refl _, Nat.le_refl _⟩ (fun H locs G => ?_)
    refine r_iadd hx hb dX6_counted_80 ?_
    refine lv_aload_n hx hb dX6_counted_81 rfl (lv_at hl 0 rfl) ?_
    refine r_sipush hx hb dX6_counted_82 (by decide +kernel) ?_
    refine r_callVI ⟨hx, hb, hml, hown, hts⟩ G (k_X6_sum l (f := 272) (σ := σ) (by omega)) (kV_X6_sum hts qM_X6_174 ⟨by decide, by decide⟩) (rc_X6 G) rfl rfl hl.1 rfl (Nat.le_of_ble_eq_true rfl) dX6_counted_85 ⟨Nat.le_refl _, Nat.le_refl _⟩ (fun H locs G => ?_)
    refine r_isub hx hb dX6_counted_88 ?_
    exact r_iret hx hb hr hlk G (by unfold mco; (repeat' split) <;> first | rfl | omega) (by rfl) dX6_counted_89
  by_cases hc_5 : w = 3
  · skip
    refine r_tabIn (j := 3) (tgt := 90) hx hb dX6_counted_1 (by omega) (by omega) ⟨by omega, by omega⟩ rfl (by decide) ?_
    refine lv_aload_n hx hb dX6_counted_90 rfl (lv_at hl 0 rfl) ?_
    refine r_sipush hx hb dX6_counted_91 (by decide +kernel) ?_
    refine r_callVI ⟨hx, hb, hml, hown, hts⟩ G (k_X6_sum l (f := 264) (σ := σ) (by omega)) (kV_X6_sum hts qM_X6_174 ⟨by decide, by decide⟩) (rc_X6 G) rfl rfl hl.1 rfl (Nat.le_of_ble_eq_true rfl) dX6_counted_94 ⟨Nat.le_refl _, Nat.le_refl _⟩ (fun H locs G => ?_)
    exact r_iret hx hb hr hlk G (by unfold mco; (repeat' split) <;> first | rfl | omega) (by rfl) dX6_counted_97
  by_cases hc_6 : w = 4
  · skip
    refine r_tabIn (j := 4) (tgt := 98) hx hb dX6_counted_1 (by omega) (by omega) ⟨by omega, by omega⟩ rfl (by decide) ?_
    refine lv_aload_n hx hb dX6_counted_98 rfl (lv_at hl 0 rfl) ?_
    refine r_iconst hx hb dX6_counted_99 ?_
    refine r_iconst hx hb dX6_counted_100 ?_
    refine r_callVI ⟨hx, hb, hml, hown, hts⟩ G (k_X6_keysIn l (kd := -1) (w := 4) (σ := σ) (⟨by omega, by omega⟩) (⟨by omega, by omega⟩) (hG)) (kV_X6_keysIn hts qM_X6_118 ⟨by decide, by decide⟩) (rc_X6 G) rfl rfl hl.1 rfl (Nat.le_of_ble_eq_true rfl) dX6_counted_101 ⟨Nat.le_refl _, Nat.le_refl _⟩ (fun H locs G => ?_)
    exact r_iret hx hb hr hlk G (by unfold mco; (repeat' split) <;> first | rfl | omega) (by rfl) dX6_counted_104
  by_cases hc_7 : w = 5
  · skip
    refine r_tabIn (j := 5) (tgt := 105) hx hb dX6_counted_1 (by omega) (by omega) ⟨by omega, by omega⟩ rfl (by decide) ?_
    refine lv_aload_n hx hb dX6_counted_105 rfl (lv_at hl 0 rfl) ?_
    refine gf_X6_7 hx hb hts hown G dX6_counted_106 ?_
    refine r_sipush hx hb dX6_counted_109 (by decide +kernel) ?_
    refine lv_iload_n hx hb dX6_counted_112 rfl (lv_at hl 1 rfl) ?_
    refine r_iadd hx hb dX6_counted_113 ?_
    refine r_iconst hx hb dX6_counted_114 ?_
    refine r_isub hx hb dX6_counted_115 ?_
    refine r_iald hx hb G 134 (by decide) (N := 2910) (fun _ => rfl) (by omega) (by omega) (by decide) dX6_counted_116 ?_
    exact r_iret hx hb hr hlk G (by unfold mco; (repeat' split) <;> first | rfl | omega) (by rfl) dX6_counted_117
  by_cases hc_8 : w = 6
  · skip
    refine r_tabIn (j := 6) (tgt := 105) hx hb dX6_counted_1 (by omega) (by omega) ⟨by omega, by omega⟩ rfl (by decide) ?_
    refine lv_aload_n hx hb dX6_counted_105 rfl (lv_at hl 0 rfl) ?_
    refine gf_X6_7 hx hb hts hown G dX6_counted_106 ?_
    refine r_sipush hx hb dX6_counted_109 (by decide +kernel) ?_
    refine lv_iload_n hx hb dX6_counted_112 rfl (lv_at hl 1 rfl) ?_
    refine r_iadd hx hb dX6_counted_113 ?_
    refine r_iconst hx hb dX6_counted_114 ?_
    refine r_isub hx hb dX6_counted_115 ?_
    refine r_iald hx hb G 134 (by decide) (N := 2910) (fun _ => rfl) (by omega) (by omega) (by decide) dX6_counted_116 ?_
    exact r_iret hx hb hr hlk G (by unfold mco; (repeat' split) <;> first | rfl | omega) (by rfl) dX6_counted_117
  by_cases hc_9 : w = 7
  · skip
    refine r_tabIn (j := 7) (tgt := 105) hx hb dX6_counted_1 (by omega) (by omega) ⟨by omega, by omega⟩ rfl (by decide) ?_
    refine lv_aload_n hx hb dX6_counted_105 rfl (lv_at hl 0 rfl) ?_
    refine gf_X6_7 hx hb hts hown G dX6_counted_106 ?_
    refine r_sipush hx hb dX6_counted_109 (by decide +kernel) ?_
    refine lv_iload_n hx hb dX6_counted_112 rfl (lv_at hl 1 rfl) ?_
    refine r_iadd hx hb dX6_counted_113 ?_
    refine r_iconst hx hb dX6_counted_114 ?_
    refine r_isub hx hb dX6_counted_115 ?_
    refine r_iald hx hb G 134 (by decide) (N := 2910) (fun _ => rfl) (by omega) (by omega) (by decide) dX6_counted_116 ?_
    exact r_iret hx hb hr hlk G (by unfold mco; (repeat' split) <;> first | rfl | omega) (by rfl) dX6_counted_117
  by_cases hc_10 : w = 8
  · skip
    refine r_tabIn (j := 8) (tgt := 118) hx hb dX6_counted_1 (by omega) (by omega) ⟨by omega, by omega⟩ rfl (by decide) ?_
    refine lv_aload_n hx hb dX6_counted_118 rfl (lv_at hl 0 rfl) ?_
    refine r_callVI ⟨hx, hb, hml, hown, hts⟩ G (k_X6_greatestRound l (σ := σ) (hG)) (kV_X6_greatestRound hts qM_X6_177 ⟨by decide, by decide⟩) (rc_X6 G) rfl rfl hl.1 rfl (Nat.le_of_ble_eq_true rfl) dX6_counted_119 ⟨Nat.le_refl _, Nat.le_refl _⟩ (fun H locs G => ?_)
    exact r_iret hx hb hr hlk G (by unfold mco; (repeat' split) <;> first | rfl | omega) (by rfl) dX6_counted_122
  refine r_tabOut (tgt := 123) hx hb dX6_counted_1 ⟨by omega, by omega⟩ (by omega) (by decide) ?_
  refine lv_aload_n hx hb dX6_counted_123 rfl (lv_at hl 0 rfl) ?_
  refine gf_X6_25 hx hb hts hown G dX6_counted_124 ?_
  exact r_iret hx hb hr hlk G (by unfold mco; (repeat' split) <;> first | rfl | omega) (by rfl) dX6_counted_127
set_option maxRecDepth 100000 in
set_option maxHeartbeats 4000000 in
theorem k_X6_wouldAsk (l : Launch) {σ : Mem} {N k : Int} (hk : 0 ≤ k ∧ k < 4) (hG : SG σ 0 N) : CtI l yX6_wouldAsk (Cond.code yX6_wouldAsk cX6_wouldAsk 3 (some .int)) 5 121 (fun z => [.ref (z + 133), .int (kI k)]) σ (mas σ k) σ := by
  intro D T z
  refine Ct_of (by decide) (Nat.le_of_ble_eq_true rfl) ?_
  intro p e s m below meth c ls hx hb hml hr hts hown hlk G hl
  have hown : s.vm.findClass RX6 = some m.cls := hown
  have hl : lv_has ls 3 [(0, .ref (z + 133)), (1, .int (kI k))] := hl
  have hdr := mdr_rg hG hk
  refine lv_aload_n hx hb dX6_wouldAsk_0 rfl (lv_at hl 0 rfl) ?_
  refine r_iconst hx hb dX6_wouldAsk_1 ?_
  refine lv_iload_n hx hb dX6_wouldAsk_2 rfl (lv_at hl 1 rfl) ?_
  refine r_callVI ⟨hx, hb, hml, hown, hts⟩ G (k_X6_draws l (b := 0) (k := k) (σ := σ) (⟨by omega, by omega⟩) (hG)) (kV_X6_draws hts qM_X6_70 ⟨by decide, by decide⟩) (rc_X6 G) rfl rfl hl.1 rfl (Nat.le_of_ble_eq_true rfl) dX6_wouldAsk_3 ⟨Nat.le_refl _, Nat.le_refl _⟩ (fun H locs G => ?_)
  refine lv_istore_n (lv' := [(2, .int (kI (mdr σ 0 k))), (0, .ref (z + 133)), (1, .int (kI k))]) hx hb dX6_wouldAsk_6 rfl hl (by decide) rfl (fun ls hl => ?_)
  refine lv_iload_n hx hb dX6_wouldAsk_7 rfl (lv_at hl 0 rfl) ?_
  refine r_if_ge (tgt := 22) hx hb ⟨by omega, by omega⟩ dX6_wouldAsk_8 (by decide) (fun h_1 => ?_) (fun h_1 => ?_)
  · skip
    refine lv_iload_n hx hb dX6_wouldAsk_22 rfl (lv_at hl 0 rfl) ?_
    exact r_iret hx hb hr hlk G (by unfold mas; first | rw [if_pos (by omega)] | rw [if_neg (by omega)]) (by rfl) dX6_wouldAsk_23
  · skip
    refine r_bipush hx hb dX6_wouldAsk_11 (by decide +kernel) ?_
    refine lv_aload_n hx hb dX6_wouldAsk_13 rfl (lv_at hl 1 rfl) ?_
    refine lv_iload_n hx hb dX6_wouldAsk_14 rfl (lv_at hl 2 rfl) ?_
    refine r_callVI ⟨hx, hb, hml, hown, hts⟩ G (k_X6_reason l (k := k) (σ := σ) (⟨by omega, by omega⟩) (hG)) (kV_X6_reason hts qM_X6_73 ⟨by decide, by decide⟩) (rc_X6 G) rfl rfl hl.1 rfl (Nat.le_of_ble_eq_true rfl) dX6_wouldAsk_15 ⟨Nat.le_refl _, Nat.le_refl _⟩ (fun H locs G => ?_)
    refine r_iadd hx hb dX6_wouldAsk_18 ?_
    refine lv_goto (tgt := 23) hx hb dX6_wouldAsk_19 (by decide) ?_
    exact r_iret hx hb hr hlk G (by unfold mas; first | rw [if_pos (by omega)] | rw [if_neg (by omega)]) (by rfl) dX6_wouldAsk_23
set_option maxRecDepth 100000 in
set_option maxHeartbeats 4000000 in
theorem k_X6_soonest (l : Launch) {σ : Mem} {N k : Int} (hk : 0 ≤ k ∧ k < 4) (hG : SG σ 0 N) : CtI l yX6_soonest (Cond.code yX6_soonest cX6_soonest 5 (some .int)) 5 121 (fun z => [.ref (z + 133), .int (kI k)]) σ (mso σ k) σ := by
  intro D T z
  refine Ct_of (by decide) (Nat.le_of_ble_eq_true rfl) ?_
  intro p e s m below meth c ls hx hb hml hr hts hown hlk G hl
  have hown : s.vm.findClass RX6 = some m.cls := hown
  have hl : lv_has ls 5 [(0, .ref (z + 133)), (1, .int (kI k))] := hl
  have hdr := mdr_rg hG hk
  have hkd := hG.kd hk
  refine lv_aload_n hx hb dX6_soonest_0 rfl (lv_at hl 0 rfl) ?_
  refine r_iconst hx hb dX6_soonest_1 ?_
  refine lv_iload_n hx hb dX6_soonest_2 rfl (lv_at hl 1 rfl) ?_
  refine r_callVI ⟨hx, hb, hml, hown, hts⟩ G (k_X6_draws l (b := 0) (k := k) (σ := σ) (⟨by omega, by omega⟩) (hG)) (kV_X6_draws hts qM_X6_70 ⟨by decide, by decide⟩) (rc_X6 G) rfl rfl hl.1 rfl (Nat.le_of_ble_eq_true rfl) dX6_soonest_3 ⟨Nat.le_refl _, Nat.le_refl _⟩ (fun H locs G => ?_)
  refine r_if_lt (tgt := 11) hx hb ⟨by omega, by omega⟩ dX6_soonest_6 (by decide) (fun h_1 => ?_) (fun h_1 => ?_)
  · skip
    refine r_iconst hx hb dX6_soonest_11 ?_
    refine lv_istore_n (lv' := [(2, .int (kI (-1))), (0, .ref (z + 133)), (1, .int (kI k))]) hx hb dX6_soonest_12 rfl hl (by decide) rfl (fun ls hl => ?_)
    refine r_iconst hx hb dX6_soonest_13 ?_
    refine lv_istore_n (lv' := [(3, .int (kI 0)), (2, .int (kI (-1))), (0, .ref (z + 133)), (1, .int (kI k))]) hx hb dX6_soonest_14 rfl hl (by decide) rfl (fun ls hl => ?_)
    have lp15 : ∀ (d : Nat) (v : Int) (i : Int), (0 ≤ i) → (i ≤ mL σ 0 k) → (-9999 ≤ v ∧ v ≤ 9999) → (v = it (msoF σ k) (-1) i) → (mL σ 0 k - i : Int) < (d : Int) → ∀ (H : Heap) (locs : List Loc), Wd D T z 139 σ s H locs → ∀ (ls : Array Slot), lv_has ls 5 [(0, .ref (z + 133)), (1, .int (kI k)), (2, .int (kI v)), (3, .int (kI i))] → W p l e (rmN 5 121) s m ([.ref (z + 133), .int (kI k)] : List Value).toArray below meth c H locs 0 0 (MQ below (QI D T z 139 (mso σ k) σ) ([.ref (z + 133), .int (kI k)] : List Value).toArray s 0 0 (Own z)) (F0 m 15 ls []) := by
      intro d
      induction d with
      | zero => intro v i h0 h1 hr0 hv hd; exact absurd hd (by omega)
      | succ d ih15 =>
        intro v i h0 h1 hr0 hv hd H locs G ls hl
        refine lv_iload_n hx hb dX6_soonest_15 rfl (lv_at hl 3 rfl) ?_
        refine lv_aload_n hx hb dX6_soonest_16 rfl (lv_at hl 0 rfl) ?_
        refine gf_X6_7 hx hb hts hown G dX6_soonest_17 ?_
        refine r_sipush hx hb dX6_soonest_20 (by decide +kernel) ?_
        refine lv_iload_n hx hb dX6_soonest_23 rfl (lv_at hl 1 rfl) ?_
        refine r_iadd hx hb dX6_soonest_24 ?_
        refine r_iald hx hb G 134 (by decide) (N := 2910) (fun _ => rfl) (by omega) (by omega) (by decide) dX6_soonest_25 ?_
        refine r_top (b := mL σ 0 k) (z264) ?_
        refine r_icmp_ge (tgt := 67) hx hb ⟨by omega, by omega⟩ ⟨by omega, by omega⟩ dX6_soonest_26 (by decide) (fun h_2 => ?_) (fun h_2 => ?_)
        · skip
          refine lv_iload_n hx hb dX6_soonest_67 rfl (lv_at hl 2 rfl) ?_
          exact r_iret hx hb hr hlk G (by have e : i = mL σ 0 k := (by omega); unfold mso; rw [if_neg (by omega), ← e, ← hv]) (by rfl) dX6_soonest_68
        · skip
          refine lv_aload_n hx hb dX6_soonest_29 rfl (lv_at hl 0 rfl) ?_
          refine lv_iload_n hx hb dX6_soonest_30 rfl (lv_at hl 1 rfl) ?_
          refine lv_aload_n hx hb dX6_soonest_31 rfl (lv_at hl 0 rfl) ?_
          refine r_iconst hx hb dX6_soonest_32 ?_
          refine lv_iload_n hx hb dX6_soonest_33 rfl (lv_at hl 1 rfl) ?_
          refine lv_iload_n hx hb dX6_soonest_34 rfl (lv_at hl 3 rfl) ?_
          refine r_callVI ⟨hx, hb, hml, hown, hts⟩ G (k_X6_pileAt l (b := 0) (k := k) (q := i) (σ := σ) (⟨by omega, by omega⟩) (⟨by omega, by omega⟩) (⟨by omega, by omega⟩)) (kV_X6_pileAt hts qM_X6_50 ⟨by decide, by decide⟩) (rc_X6 G) rfl rfl hl.1 rfl (Nat.le_of_ble_eq_true rfl) dX6_soonest_35 ⟨Nat.le_refl _, Nat.le_refl _⟩ (fun H locs G => ?_)
          refine r_iconst hx hb dX6_soonest_38 ?_
          have hpl := hG.pl hk (p := i) (by omega) (by omega)
          have hmr := mky_rg (w := 4) hG hk hpl
          refine r_callVI ⟨hx, hb, hml, hown, hts⟩ G (k_X6_keys l (k := k) (y := mP σ 0 k i) (w := 4) (σ := σ) (⟨by omega, by omega⟩) (hG.pl hk (p := i) (by omega) (by omega)) (⟨by decide, by decide⟩) (hG)) (kV_X6_keys hts qM_X6_165 ⟨by decide, by decide⟩) (rc_X6 G) rfl rfl hl.1 rfl (Nat.le_of_ble_eq_true rfl) dX6_soonest_39 ⟨Nat.le_refl _, Nat.le_refl _⟩ (fun H locs G => ?_)
          refine lv_istore (lv' := [(4, .int (kI (mky σ k (mP σ 0 k i) 4))), (0, .ref (z + 133)), (1, .int (kI k)), (2, .int (kI v)), (3, .int (kI i))]) hx hb dX6_soonest_42 hl (by decide) rfl (fun ls hl => ?_)
          refine lv_iload_n hx hb dX6_soonest_44 rfl (lv_at hl 3 rfl) ?_
          refine r_if_lt (tgt := 54) hx hb ⟨by omega, by omega⟩ dX6_soonest_45 (by decide) (fun h_3 => ?_) (fun h_3 => ?_)
          · skip
            refine lv_iload hx hb dX6_soonest_54 (lv_at hl 0 rfl) ?_
            refine lv_goto (tgt := 60) hx hb dX6_soonest_56 (by decide) ?_
            refine lv_istore_n (lv' := [(2, .int (kI (mky σ k (mP σ 0 k i) 4))), (4, .int (kI (mky σ k (mP σ 0 k i) 4))), (0, .ref (z + 133)), (1, .int (kI k)), (3, .int (kI i))]) hx hb dX6_soonest_60 rfl hl (by decide) rfl (fun ls hl => ?_)
            refine r_iinc (lv' := [(3, .int (kI (i + 1))), (2, .int (kI (mky σ k (mP σ 0 k i) 4))), (4, .int (kI (mky σ k (mP σ 0 k i) 4))), (0, .ref (z + 133)), (1, .int (kI k))]) hx hb dX6_soonest_61 hl (k := 4) rfl (by decide) rfl (fun ls hl => ?_)
            refine lv_goto (tgt := 15) hx hb dX6_soonest_64 (by decide) ?_
            exact ih15 (mky σ k (mP σ 0 k i) 4) (i + 1) (by omega) (by omega) (by omega) (by rw [it_s h0, ← hv]; unfold msoF; (repeat' split) <;> omega) (by omega) _ _ G _ (lv_sub hl [3, 4, 1, 0] rfl)
          · skip
            refine lv_iload hx hb dX6_soonest_48 (lv_at hl 0 rfl) ?_
            refine lv_iload_n hx hb dX6_soonest_50 rfl (lv_at hl 3 rfl) ?_
            refine r_icmp_ge (tgt := 59) hx hb ⟨by omega, by omega⟩ ⟨by omega, by omega⟩ dX6_soonest_51 (by decide) (fun h_4 => ?_) (fun h_4 => ?_)
            · skip
              refine lv_iload_n hx hb dX6_soonest_59 rfl (lv_at hl 3 rfl) ?_
              refine lv_istore_n (lv' := [(2, .int (kI v)), (4, .int (kI (mky σ k (mP σ 0 k i) 4))), (0, .ref (z + 133)), (1, .int (kI k)), (3, .int (kI i))]) hx hb dX6_soonest_60 rfl hl (by decide) rfl (fun ls hl => ?_)
              refine r_iinc (lv' := [(3, .int (kI (i + 1))), (2, .int (kI v)), (4, .int (kI (mky σ k (mP σ 0 k i) 4))), (0, .ref (z + 133)), (1, .int (kI k))]) hx hb dX6_soonest_61 hl (k := 4) rfl (by decide) rfl (fun ls hl => ?_)
              refine lv_goto (tgt := 15) hx hb dX6_soonest_64 (by decide) ?_
              exact ih15 v (i + 1) (by omega) (by omega) (by omega) (by rw [it_s h0, ← hv]; unfold msoF; (repeat' split) <;> omega) (by omega) _ _ G _ (lv_sub hl [3, 4, 1, 0] rfl)
            · skip
              refine lv_iload hx hb dX6_soonest_54 (lv_at hl 0 rfl) ?_
              refine lv_goto (tgt := 60) hx hb dX6_soonest_56 (by decide) ?_
              refine lv_istore_n (lv' := [(2, .int (kI (mky σ k (mP σ 0 k i) 4))), (4, .int (kI (mky σ k (mP σ 0 k i) 4))), (0, .ref (z + 133)), (1, .int (kI k)), (3, .int (kI i))]) hx hb dX6_soonest_60 rfl hl (by decide) rfl (fun ls hl => ?_)
              refine r_iinc (lv' := [(3, .int (kI (i + 1))), (2, .int (kI (mky σ k (mP σ 0 k i) 4))), (4, .int (kI (mky σ k (mP σ 0 k i) 4))), (0, .ref (z + 133)), (1, .int (kI k))]) hx hb dX6_soonest_61 hl (k := 4) rfl (by decide) rfl (fun ls hl => ?_)
              refine lv_goto (tgt := 15) hx hb dX6_soonest_64 (by decide) ?_
              exact ih15 (mky σ k (mP σ 0 k i) 4) (i + 1) (by omega) (by omega) (by omega) (by rw [it_s h0, ← hv]; unfold msoF; (repeat' split) <;> omega) (by omega) _ _ G _ (lv_sub hl [3, 4, 1, 0] rfl)
    exact lp15 17 (-1) 0 (by omega) (by omega) (by omega) (rfl) (by omega) _ _ G _ (lv_sub hl [2, 3, 1, 0] rfl)
  · skip
    refine r_iconst hx hb dX6_soonest_9 ?_
    exact r_iret hx hb hr hlk G (by unfold mso; rw [if_pos (by omega)]) (by rfl) dX6_soonest_10
set_option maxRecDepth 100000 in
set_option maxHeartbeats 4000000 in
theorem k_X6_comes (l : Launch) {σ : Mem} {N k n : Int} (hk : 0 ≤ k ∧ k < 4) (hn : 1 ≤ n ∧ n ≤ 16) (hN : 0 ≤ N ∧ N ≤ 100) (hG : SG σ 0 N) : CtI l yX6_comes (Cond.code yX6_comes cX6_comes 6 (some .int)) 5 121 (fun z => [.ref (z + 133), .int (kI k), .int (kI n)]) σ (mcR σ k n) ((mcs σ k n).1) := by
  intro D T z
  refine Ct_of (by decide) (Nat.le_of_ble_eq_true rfl) ?_
  intro p e s m below meth c ls hx hb hml hr hts hown hlk G hl
  have hown : s.vm.findClass RX6 = some m.cls := hown
  have hl : lv_has ls 6 [(0, .ref (z + 133)), (1, .int (kI k)), (2, .int (kI n))] := hl
  refine lv_aload_n hx hb dX6_comes_0 rfl (lv_at hl 0 rfl) ?_
  refine r_iconst hx hb dX6_comes_1 ?_
  refine r_bipush hx hb dX6_comes_2 (by decide +kernel) ?_
  refine r_callVV ⟨hx, hb, hml, hown, hts⟩ G (k_X6_copies l (f := 0) (t := 9) (σ := σ) (⟨by decide, by decide⟩) (⟨by decide, by decide⟩)) (kV_X6_copies hts qM_X6_28 ⟨by decide, by decide⟩) (rc_X6 G) rfl rfl hl.1 rfl (Nat.le_of_ble_eq_true rfl) dX6_comes_4 ⟨Nat.le_refl _, Nat.le_refl _⟩ (fun H locs G => ?_)
  refine r_sipush hx hb dX6_comes_7 (by decide +kernel) ?_
  refine lv_istore_n (lv' := [(3, .int (kI 2619)), (0, .ref (z + 133)), (1, .int (kI k)), (2, .int (kI n))]) hx hb dX6_comes_10 rfl hl (by decide) rfl (fun ls hl => ?_)
  refine r_iconst hx hb dX6_comes_11 ?_
  refine lv_istore (lv' := [(4, .int (kI (-1))), (3, .int (kI 2619)), (0, .ref (z + 133)), (1, .int (kI k)), (2, .int (kI n))]) hx hb dX6_comes_12 hl (by decide) rfl (fun ls hl => ?_)
  refine r_iconst hx hb dX6_comes_14 ?_
  refine lv_istore (lv' := [(5, .int (kI 0)), (4, .int (kI (-1))), (3, .int (kI 2619)), (0, .ref (z + 133)), (1, .int (kI k)), (2, .int (kI n))]) hx hb dX6_comes_15 hl (by decide) rfl (fun ls hl => ?_)
  have lp17 : ∀ (d : Nat) (ky : Int) (i : Int) (τ : Mem), (0 ≤ i) → (i ≤ n) → (ky ≠ -2) → (SG τ 2619 (N + i)) → ((τ, ky) = mcs σ k i) → (n - i : Int) < (d : Int) → ∀ (H : Heap) (locs : List Loc), Wd D T z 139 τ s H locs → ∀ (ls : Array Slot), lv_has ls 6 [(0, .ref (z + 133)), (1, .int (kI k)), (2, .int (kI n)), (3, .int (kI 2619)), (4, .int (kI ky)), (5, .int (kI i))] → W p l e (rmN 5 121) s m ([.ref (z + 133), .int (kI k), .int (kI n)] : List Value).toArray below meth c H locs 0 0 (MQ below (QI D T z 139 (mcR σ k n) ((mcs σ k n).1)) ([.ref (z + 133), .int (kI k), .int (kI n)] : List Value).toArray s 0 0 (Own z)) (F0 m 17 ls []) := by
    intro d
    induction d with
    | zero => intro ky i τ h0 h1 hk2 hS hv hd; exact absurd hd (by omega)
    | succ d ih17 =>
      intro ky i τ h0 h1 hk2 hS hv hd H locs G ls hl
      refine lv_iload hx hb dX6_comes_17 (lv_at hl 5 rfl) ?_
      refine lv_iload_n hx hb dX6_comes_19 rfl (lv_at hl 2 rfl) ?_
      refine r_icmp_ge (tgt := 52) hx hb ⟨by omega, by omega⟩ ⟨by omega, by omega⟩ dX6_comes_20 (by decide) (fun h_1 => ?_) (fun h_1 => ?_)
      · skip
        refine lv_iload hx hb dX6_comes_52 (lv_at hl 4 rfl) ?_
        exact r_iret hx hb hr hlk G (by have e : i = n := (by omega); unfold mcR; rw [← e, ← hv, if_neg (by exact hk2)]) (by have e : i = n := (by omega); rw [← e, ← hv]) dX6_comes_54
      · skip
        refine lv_aload_n hx hb dX6_comes_23 rfl (lv_at hl 0 rfl) ?_
        refine lv_iload_n hx hb dX6_comes_24 rfl (lv_at hl 3 rfl) ?_
        refine lv_iload_n hx hb dX6_comes_25 rfl (lv_at hl 1 rfl) ?_
        refine r_callVI ⟨hx, hb, hml, hown, hts⟩ G (k_X6_draws l (b := 2619) (k := k) (σ := τ) (N := (N + i)) (⟨by omega, by omega⟩) (hS)) (kV_X6_draws hts qM_X6_70 ⟨by decide, by decide⟩) (rc_X6 G) rfl rfl hl.1 rfl (Nat.le_of_ble_eq_true rfl) dX6_comes_26 ⟨Nat.le_refl _, Nat.le_refl _⟩ (fun H locs G => ?_)
        refine lv_istore (lv' := [(4, .int (kI (mdr τ 2619 k))), (0, .ref (z + 133)), (1, .int (kI k)), (2, .int (kI n)), (3, .int (kI 2619)), (5, .int (kI i))]) hx hb dX6_comes_29 hl (by decide) rfl (fun ls hl => ?_)
        have hdr := mdr_rg hS hk
        refine lv_iload hx hb dX6_comes_31 (lv_at hl 0 rfl) ?_
        refine r_if_ge (tgt := 38) hx hb ⟨by omega, by omega⟩ dX6_comes_33 (by decide) (fun h_2 => ?_) (fun h_2 => ?_)
        · skip
          refine lv_aload_n hx hb dX6_comes_38 rfl (lv_at hl 1 rfl) ?_
          refine lv_iload_n hx hb dX6_comes_39 rfl (lv_at hl 4 rfl) ?_
          refine lv_iload_n hx hb dX6_comes_40 rfl (lv_at hl 2 rfl) ?_
          refine lv_iload hx hb dX6_comes_41 (lv_at hl 0 rfl) ?_
          refine r_callVV ⟨hx, hb, hml, hown, hts⟩ G (k_X6_gives l (b := 2619) (k := k) (y := mdr τ 2619 k) (σ := τ) (N := (N + i)) (⟨by omega, by omega⟩) (⟨by omega, by omega⟩) (hS)) (kV_X6_gives hts qM_X6_80 ⟨by decide, by decide⟩) (rc_X6 G) rfl rfl hl.1 rfl (Nat.le_of_ble_eq_true rfl) dX6_comes_43 ⟨Nat.le_refl _, Nat.le_refl _⟩ (fun H locs G => ?_)
          refine r_iinc (lv' := [(5, .int (kI (i + 1))), (4, .int (kI (mdr τ 2619 k))), (0, .ref (z + 133)), (1, .int (kI k)), (2, .int (kI n)), (3, .int (kI 2619))]) hx hb dX6_comes_46 hl (k := 5) rfl (by decide) rfl (fun ls hl => ?_)
          refine lv_goto (tgt := 17) hx hb dX6_comes_49 (by decide) ?_
          exact ih17 (mdr τ 2619 k) (i + 1) (mgiv τ 2619 k (mdr τ 2619 k)) (by omega) (by omega) (by omega) (by rw [show N + (i + 1) = N + i + 1 by omega]; exact hS.giv hk ⟨by omega, by omega⟩ (by omega)) (mcs_next h0 hv hk2 (by omega)) (by omega) _ _ G _ (lv_sub hl [2, 3, 4, 5, 1, 0] rfl)
        · skip
          have hm := mcs_miss (n := n) h0 (by omega) hv hk2 (by omega)
          refine r_iconst hx hb dX6_comes_36 ?_
          exact r_iret hx hb hr hlk G (by unfold mcR; rw [hm]; rfl) (by rw [hm]) dX6_comes_37
  exact lp17 17 (-1) 0 (sgc σ 0 9 291) (by omega) (by omega) (by decide) (by rw [Int.add_zero]; exact hG.sg) (rfl) (by omega) _ _ G _ (lv_sub hl [3, 4, 5, 2, 1, 0] rfl)
set_option maxRecDepth 100000 in
set_option maxHeartbeats 4000000 in
theorem k_X6_longestSeason (l : Launch) {σ : Mem} {N k : Int} (hk : 0 ≤ k ∧ k < 4) (hG : SG σ 0 N) : CtI l yX6_longestSeason (Cond.code yX6_longestSeason cX6_longestSeason 5 (some .int)) 2 46 (fun z => [.ref (z + 133), .int (kI k)]) σ (mlo σ k) σ := by
  intro D T z
  refine Ct_of (by decide) (Nat.le_of_ble_eq_true rfl) ?_
  intro p e s m below meth c ls hx hb hml hr hts hown hlk G hl
  have hown : s.vm.findClass RX6 = some m.cls := hown
  have hl : lv_has ls 5 [(0, .ref (z + 133)), (1, .int (kI k))] := hl
  have hlf := lof_rg (σ := σ) (b := 0) (k := k)
  have hkd := hG.kd hk
  have hdd := hG.d
  refine lv_aload_n hx hb dX6_longestSeason_0 rfl (lv_at hl 0 rfl) ?_
  refine r_iconst hx hb dX6_longestSeason_1 ?_
  refine lv_iload_n hx hb dX6_longestSeason_2 rfl (lv_at hl 1 rfl) ?_
  refine r_callVI ⟨hx, hb, hml, hown, hts⟩ G (k_X6_lowestFresh l (b := 0) (k := k) (σ := σ) (⟨by omega, by omega⟩) (hG)) (kV_X6_lowestFresh hts qM_X6_56 ⟨by decide, by decide⟩) (rc_X6 G) rfl rfl hl.1 rfl (Nat.le_of_ble_eq_true rfl) dX6_longestSeason_3 ⟨Nat.le_refl _, Nat.le_refl _⟩ (fun H locs G => ?_)
  refine r_if_lt (tgt := 12) hx hb ⟨by omega, by omega⟩ dX6_longestSeason_6 (by decide) (fun h_1 => ?_) (fun h_1 => ?_)
  · skip
    refine r_iconst hx hb dX6_longestSeason_12 ?_
    refine lv_istore_n (lv' := [(2, .int (kI (-1))), (0, .ref (z + 133)), (1, .int (kI k))]) hx hb dX6_longestSeason_13 rfl hl (by decide) rfl (fun ls hl => ?_)
    refine r_iconst hx hb dX6_longestSeason_14 ?_
    refine lv_istore_n (lv' := [(3, .int (kI 0)), (2, .int (kI (-1))), (0, .ref (z + 133)), (1, .int (kI k))]) hx hb dX6_longestSeason_15 rfl hl (by decide) rfl (fun ls hl => ?_)
    have lp16 : ∀ (d : Nat) (v : Int) (i : Int), (0 ≤ i) → (i ≤ mL σ 0 k) → (-1 ≤ v ∧ v ≤ 9999) → (v = it (mloF σ k) (-1) i) → (mL σ 0 k - i : Int) < (d : Int) → ∀ (H : Heap) (locs : List Loc), Wd D T z 139 σ s H locs → ∀ (ls : Array Slot), lv_has ls 5 [(0, .ref (z + 133)), (1, .int (kI k)), (2, .int (kI v)), (3, .int (kI i))] → W p l e (rmN 2 46) s m ([.ref (z + 133), .int (kI k)] : List Value).toArray below meth c H locs 0 0 (MQ below (QI D T z 139 (mlo σ k) σ) ([.ref (z + 133), .int (kI k)] : List Value).toArray s 0 0 (Own z)) (F0 m 16 ls []) := by
      intro d
      induction d with
      | zero => intro v i h0 h1 hr0 hv hd; exact absurd hd (by omega)
      | succ d ih16 =>
        intro v i h0 h1 hr0 hv hd H locs G ls hl
        refine lv_iload_n hx hb dX6_longestSeason_16 rfl (lv_at hl 3 rfl) ?_
        refine lv_aload_n hx hb dX6_longestSeason_17 rfl (lv_at hl 0 rfl) ?_
        refine gf_X6_7 hx hb hts hown G dX6_longestSeason_18 ?_
        refine r_sipush hx hb dX6_longestSeason_21 (by decide +kernel) ?_
        refine lv_iload_n hx hb dX6_longestSeason_24 rfl (lv_at hl 1 rfl) ?_
        refine r_iadd hx hb dX6_longestSeason_25 ?_
        refine r_iald hx hb G 134 (by decide) (N := 2910) (fun _ => rfl) (by omega) (by omega) (by decide) dX6_longestSeason_26 ?_
        refine r_top (b := mL σ 0 k) (z264) ?_
        refine r_icmp_ge (tgt := 64) hx hb ⟨by omega, by omega⟩ ⟨by omega, by omega⟩ dX6_longestSeason_27 (by decide) (fun h_2 => ?_) (fun h_2 => ?_)
        · skip
          refine lv_iload_n hx hb dX6_longestSeason_64 rfl (lv_at hl 2 rfl) ?_
          refine r_bipush hx hb dX6_longestSeason_65 (by decide +kernel) ?_
          refine r_icmp_le (tgt := 75) hx hb ⟨by omega, by omega⟩ ⟨by decide, by decide⟩ dX6_longestSeason_67 (by decide) (fun h_3 => ?_) (fun h_3 => ?_)
          · skip
            refine lv_iload_n hx hb dX6_longestSeason_75 rfl (lv_at hl 2 rfl) ?_
            exact r_iret hx hb hr hlk G (by have e : i = mL σ 0 k := (by omega); unfold mlo; rw [← e, ← hv]; (repeat' split) <;> omega) (by rfl) dX6_longestSeason_76
          · skip
            refine r_bipush hx hb dX6_longestSeason_70 (by decide +kernel) ?_
            refine lv_goto (tgt := 76) hx hb dX6_longestSeason_72 (by decide) ?_
            exact r_iret hx hb hr hlk G (by have e : i = mL σ 0 k := (by omega); unfold mlo; rw [← e, ← hv]; (repeat' split) <;> omega) (by rfl) dX6_longestSeason_76
        · skip
          refine lv_aload_n hx hb dX6_longestSeason_30 rfl (lv_at hl 0 rfl) ?_
          refine r_iconst hx hb dX6_longestSeason_31 ?_
          refine lv_iload_n hx hb dX6_longestSeason_32 rfl (lv_at hl 1 rfl) ?_
          refine lv_aload_n hx hb dX6_longestSeason_33 rfl (lv_at hl 0 rfl) ?_
          refine r_iconst hx hb dX6_longestSeason_34 ?_
          refine lv_iload_n hx hb dX6_longestSeason_35 rfl (lv_at hl 1 rfl) ?_
          refine lv_iload_n hx hb dX6_longestSeason_36 rfl (lv_at hl 3 rfl) ?_
          refine r_callVI ⟨hx, hb, hml, hown, hts⟩ G (k_X6_pileAt l (b := 0) (k := k) (q := i) (σ := σ) (⟨by omega, by omega⟩) (⟨by omega, by omega⟩) (⟨by omega, by omega⟩)) (kV_X6_pileAt hts qM_X6_50 ⟨by decide, by decide⟩) (rc_X6 G) rfl rfl hl.1 rfl (Nat.le_of_ble_eq_true rfl) dX6_longestSeason_37 ⟨Nat.le_refl _, Nat.le_refl _⟩ (fun H locs G => ?_)
          have hky := hG.ky hk (hG.pl hk (p := i) (by omega) (by omega))
          refine r_callVI ⟨hx, hb, hml, hown, hts⟩ G (k_X6_age l (b := 0) (k := k) (y := mP σ 0 k i) (σ := σ) (⟨by omega, by omega⟩) (hG.pl hk (p := i) (by omega) (by omega)) (⟨by omega, by omega⟩)) (kV_X6_age hts qM_X6_44 ⟨by decide, by decide⟩) (rc_X6 G) rfl rfl hl.1 rfl (Nat.le_of_ble_eq_true rfl) dX6_longestSeason_40 ⟨Nat.le_refl _, Nat.le_refl _⟩ (fun H locs G => ?_)
          refine lv_istore (lv' := [(4, .int (kI (mD σ 0 - mT σ 0 k (mP σ 0 k i)))), (0, .ref (z + 133)), (1, .int (kI k)), (2, .int (kI v)), (3, .int (kI i))]) hx hb dX6_longestSeason_43 hl (by decide) rfl (fun ls hl => ?_)
          refine lv_iload hx hb dX6_longestSeason_45 (lv_at hl 0 rfl) ?_
          refine lv_iload_n hx hb dX6_longestSeason_47 rfl (lv_at hl 3 rfl) ?_
          refine r_icmp_le (tgt := 56) hx hb ⟨by omega, by omega⟩ ⟨by omega, by omega⟩ dX6_longestSeason_48 (by decide) (fun h_4 => ?_) (fun h_4 => ?_)
          · skip
            refine lv_iload_n hx hb dX6_longestSeason_56 rfl (lv_at hl 3 rfl) ?_
            refine lv_istore_n (lv' := [(2, .int (kI v)), (4, .int (kI (mD σ 0 - mT σ 0 k (mP σ 0 k i)))), (0, .ref (z + 133)), (1, .int (kI k)), (3, .int (kI i))]) hx hb dX6_longestSeason_57 rfl hl (by decide) rfl (fun ls hl => ?_)
            refine r_iinc (lv' := [(3, .int (kI (i + 1))), (2, .int (kI v)), (4, .int (kI (mD σ 0 - mT σ 0 k (mP σ 0 k i)))), (0, .ref (z + 133)), (1, .int (kI k))]) hx hb dX6_longestSeason_58 hl (k := 4) rfl (by decide) rfl (fun ls hl => ?_)
            refine lv_goto (tgt := 16) hx hb dX6_longestSeason_61 (by decide) ?_
            exact ih16 v (i + 1) (by omega) (by omega) (by omega) (by rw [it_s h0, ← hv]; unfold mloF; (repeat' split) <;> omega) (by omega) _ _ G _ (lv_sub hl [3, 4, 1, 0] rfl)
          · skip
            refine lv_iload hx hb dX6_longestSeason_51 (lv_at hl 0 rfl) ?_
            refine lv_goto (tgt := 57) hx hb dX6_longestSeason_53 (by decide) ?_
            refine lv_istore_n (lv' := [(2, .int (kI (mD σ 0 - mT σ 0 k (mP σ 0 k i)))), (4, .int (kI (mD σ 0 - mT σ 0 k (mP σ 0 k i)))), (0, .ref (z + 133)), (1, .int (kI k)), (3, .int (kI i))]) hx hb dX6_longestSeason_57 rfl hl (by decide) rfl (fun ls hl => ?_)
            refine r_iinc (lv' := [(3, .int (kI (i + 1))), (2, .int (kI (mD σ 0 - mT σ 0 k (mP σ 0 k i)))), (4, .int (kI (mD σ 0 - mT σ 0 k (mP σ 0 k i)))), (0, .ref (z + 133)), (1, .int (kI k))]) hx hb dX6_longestSeason_58 hl (k := 4) rfl (by decide) rfl (fun ls hl => ?_)
            refine lv_goto (tgt := 16) hx hb dX6_longestSeason_61 (by decide) ?_
            exact ih16 (mD σ 0 - mT σ 0 k (mP σ 0 k i)) (i + 1) (by omega) (by omega) (by omega) (by rw [it_s h0, ← hv]; unfold mloF; (repeat' split) <;> omega) (by omega) _ _ G _ (lv_sub hl [3, 4, 1, 0] rfl)
    exact lp16 17 (-1) 0 (by omega) (by omega) (by omega) (rfl) (by omega) _ _ G _ (lv_sub hl [2, 3, 1, 0] rfl)
  · skip
    refine r_bipush hx hb dX6_longestSeason_9 (by decide +kernel) ?_
    exact r_iret hx hb hr hlk G (by unfold mlo; rw [if_pos (by omega)]) (by rfl) dX6_longestSeason_11
set_option maxRecDepth 100000 in
set_option maxHeartbeats 4000000 in
theorem k_X6_fewest (l : Launch) {σ : Mem} {N : Int} (hG : SG σ 0 N) : CtI l yX6_fewest (Cond.code yX6_fewest cX6_fewest 3 (some .int)) 4 93 (fun z => [.ref (z + 133)]) σ (mfw σ) σ := by
  intro D T z
  refine Ct_of (by decide) (Nat.le_of_ble_eq_true rfl) ?_
  intro p e s m below meth c ls hx hb hml hr hts hown hlk G hl
  have hown : s.vm.findClass RX6 = some m.cls := hown
  have hl : lv_has ls 3 [(0, .ref (z + 133))] := hl
  refine r_iconst hx hb dX6_fewest_0 ?_
  refine lv_istore_n (lv' := [(1, .int (kI 0)), (0, .ref (z + 133))]) hx hb dX6_fewest_1 rfl hl (by decide) rfl (fun ls hl => ?_)
  refine r_iconst hx hb dX6_fewest_2 ?_
  refine lv_istore_n (lv' := [(2, .int (kI 1)), (1, .int (kI 0)), (0, .ref (z + 133))]) hx hb dX6_fewest_3 rfl hl (by decide) rfl (fun ls hl => ?_)
  have lp4 : ∀ (d : Nat) (v : Int) (i : Int), (1 ≤ i) → (i ≤ 4) → (0 ≤ v ∧ v ≤ 3) → (v = it (mfwF σ) 0 (i - 1)) → (4 - i : Int) < (d : Int) → ∀ (H : Heap) (locs : List Loc), Wd D T z 139 σ s H locs → ∀ (ls : Array Slot), lv_has ls 3 [(0, .ref (z + 133)), (1, .int (kI v)), (2, .int (kI i))] → W p l e (rmN 4 93) s m ([.ref (z + 133)] : List Value).toArray below meth c H locs 0 0 (MQ below (QI D T z 139 (mfw σ) σ) ([.ref (z + 133)] : List Value).toArray s 0 0 (Own z)) (F0 m 4 ls []) := by
    intro d
    induction d with
    | zero => intro v i h0 h1 hr0 hv hd; exact absurd hd (by omega)
    | succ d ih4 =>
      intro v i h0 h1 hr0 hv hd H locs G ls hl
      refine lv_iload_n hx hb dX6_fewest_4 rfl (lv_at hl 2 rfl) ?_
      refine r_iconst hx hb dX6_fewest_5 ?_
      refine r_icmp_ge (tgt := 50) hx hb ⟨by omega, by omega⟩ ⟨by decide, by decide⟩ dX6_fewest_6 (by decide) (fun h_1 => ?_) (fun h_1 => ?_)
      · skip
        refine lv_iload_n hx hb dX6_fewest_50 rfl (lv_at hl 1 rfl) ?_
        exact r_iret hx hb hr hlk G (by have e : i - 1 = 3 := (by omega); rw [hv, e]; rfl) (by rfl) dX6_fewest_51
      · skip
        refine lv_aload_n hx hb dX6_fewest_9 rfl (lv_at hl 0 rfl) ?_
        refine lv_iload_n hx hb dX6_fewest_10 rfl (lv_at hl 2 rfl) ?_
        refine r_iconst hx hb dX6_fewest_11 ?_
        refine r_callVI ⟨hx, hb, hml, hown, hts⟩ G (k_X6_keysIn l (kd := i) (w := 0) (σ := σ) (⟨by omega, by omega⟩) (⟨by omega, by omega⟩) (hG)) (kV_X6_keysIn hts qM_X6_118 ⟨by decide, by decide⟩) (rc_X6 G) rfl rfl hl.1 rfl (Nat.le_of_ble_eq_true rfl) dX6_fewest_12 ⟨Nat.le_refl _, Nat.le_refl _⟩ (fun H locs G => ?_)
        refine lv_aload_n hx hb dX6_fewest_15 rfl (lv_at hl 0 rfl) ?_
        refine lv_iload_n hx hb dX6_fewest_16 rfl (lv_at hl 2 rfl) ?_
        refine r_iconst hx hb dX6_fewest_17 ?_
        refine r_callVI ⟨hx, hb, hml, hown, hts⟩ G (k_X6_keysIn l (kd := i) (w := 4) (σ := σ) (⟨by omega, by omega⟩) (⟨by omega, by omega⟩) (hG)) (kV_X6_keysIn hts qM_X6_118 ⟨by decide, by decide⟩) (rc_X6 G) rfl rfl hl.1 rfl (Nat.le_of_ble_eq_true rfl) dX6_fewest_18 ⟨Nat.le_refl _, Nat.le_refl _⟩ (fun H locs G => ?_)
        refine r_iadd hx hb dX6_fewest_21 ?_
        refine lv_aload_n hx hb dX6_fewest_22 rfl (lv_at hl 0 rfl) ?_
        refine lv_iload_n hx hb dX6_fewest_23 rfl (lv_at hl 1 rfl) ?_
        refine r_iconst hx hb dX6_fewest_24 ?_
        refine r_callVI ⟨hx, hb, hml, hown, hts⟩ G (k_X6_keysIn l (kd := v) (w := 0) (σ := σ) (⟨by omega, by omega⟩) (⟨by omega, by omega⟩) (hG)) (kV_X6_keysIn hts qM_X6_118 ⟨by decide, by decide⟩) (rc_X6 G) rfl rfl hl.1 rfl (Nat.le_of_ble_eq_true rfl) dX6_fewest_25 ⟨Nat.le_refl _, Nat.le_refl _⟩ (fun H locs G => ?_)
        refine lv_aload_n hx hb dX6_fewest_28 rfl (lv_at hl 0 rfl) ?_
        refine lv_iload_n hx hb dX6_fewest_29 rfl (lv_at hl 1 rfl) ?_
        refine r_iconst hx hb dX6_fewest_30 ?_
        refine r_callVI ⟨hx, hb, hml, hown, hts⟩ G (k_X6_keysIn l (kd := v) (w := 4) (σ := σ) (⟨by omega, by omega⟩) (⟨by omega, by omega⟩) (hG)) (kV_X6_keysIn hts qM_X6_118 ⟨by decide, by decide⟩) (rc_X6 G) rfl rfl hl.1 rfl (Nat.le_of_ble_eq_true rfl) dX6_fewest_31 ⟨Nat.le_refl _, Nat.le_refl _⟩ (fun H locs G => ?_)
        refine r_iadd hx hb dX6_fewest_34 ?_
        have r1 := kin_rg (σ := σ) (kd := i) (w := 0)
        have r2 := kin_rg (σ := σ) (kd := i) (w := 4)
        have r3 := kin_rg (σ := σ) (kd := v) (w := 0)
        have r4 := kin_rg (σ := σ) (kd := v) (w := 4)
        refine r_icmp_ge (tgt := 42) hx hb ⟨by omega, by omega⟩ ⟨by omega, by omega⟩ dX6_fewest_35 (by decide) (fun h_2 => ?_) (fun h_2 => ?_)
        · skip
          have hs : v = it (mfwF σ) 0 (i + 1 - 1) := by rw [show i + 1 - 1 = i - 1 + 1 by omega, it_s (by omega), ← hv]; unfold mfwF; rw [show i - 1 + 1 = i by omega]; exact (if_neg (by omega)).symm
          refine lv_iload_n hx hb dX6_fewest_42 rfl (lv_at hl 1 rfl) ?_
          refine lv_istore_n (lv' := [(1, .int (kI v)), (0, .ref (z + 133)), (2, .int (kI i))]) hx hb dX6_fewest_43 rfl hl (by decide) rfl (fun ls hl => ?_)
          refine r_iinc (lv' := [(2, .int (kI (i + 1))), (1, .int (kI v)), (0, .ref (z + 133))]) hx hb dX6_fewest_44 hl (k := 2) rfl (by decide) rfl (fun ls hl => ?_)
          refine lv_goto (tgt := 4) hx hb dX6_fewest_47 (by decide) ?_
          exact ih4 v (i + 1) (by omega) (by omega) (by omega) (hs) (by omega) _ _ G _ (lv_sub hl [2, 1, 0] rfl)
        · skip
          have hs : i = it (mfwF σ) 0 (i + 1 - 1) := by rw [show i + 1 - 1 = i - 1 + 1 by omega, it_s (by omega), ← hv]; unfold mfwF; rw [show i - 1 + 1 = i by omega]; exact (if_pos (by omega)).symm
          refine lv_iload_n hx hb dX6_fewest_38 rfl (lv_at hl 2 rfl) ?_
          refine lv_goto (tgt := 43) hx hb dX6_fewest_39 (by decide) ?_
          refine lv_istore_n (lv' := [(1, .int (kI i)), (0, .ref (z + 133)), (2, .int (kI i))]) hx hb dX6_fewest_43 rfl hl (by decide) rfl (fun ls hl => ?_)
          refine r_iinc (lv' := [(2, .int (kI (i + 1))), (1, .int (kI i)), (0, .ref (z + 133))]) hx hb dX6_fewest_44 hl (k := 2) rfl (by decide) rfl (fun ls hl => ?_)
          refine lv_goto (tgt := 4) hx hb dX6_fewest_47 (by decide) ?_
          exact ih4 i (i + 1) (by omega) (by omega) (by omega) (hs) (by omega) _ _ G _ (lv_sub hl [2, 1, 0] rfl)
  exact lp4 4 0 1 (by omega) (by omega) (by omega) (rfl) (by omega) _ _ G _ (lv_sub hl [2, 1, 0] rfl)
set_option maxRecDepth 100000 in
set_option maxHeartbeats 4000000 in
theorem k_X6_keyOf (l : Launch) {σ : Mem} {N k y w : Int} (hk0 : inR k) (hy0 : inR y) (hw0 : inR w) (hG : SG σ 0 N) : CtI l yX6_keyOf (Cond.code yX6_keyOf cX6_keyOf 4 (some .int)) 3 73 (fun z => [.ref (z + 133), .int (kI k), .int (kI y), .int (kI w)]) σ (if isY k y ∧ (0 ≤ w ∧ w ≤ 4) then mky (up σ 133 3 0) k y w else 0) (if isY k y ∧ (0 ≤ w ∧ w ≤ 4) then up σ 133 3 0 else up σ 133 3 (if isY k y then (if (0 ≤ w ∧ w ≤ 4) then 0 else 2) else 1)) := by
  intro D T z
  refine Ct_of (by decide) (Nat.le_of_ble_eq_true rfl) ?_
  intro p e s m below meth c ls hx hb hml hr hts hown hlk G hl
  have hown : s.vm.findClass RX6 = some m.cls := hown
  have hl : lv_has ls 4 [(0, .ref (z + 133)), (1, .int (kI k)), (2, .int (kI y)), (3, .int (kI w))] := hl
  refine lv_aload_n hx hb dX6_keyOf_0 rfl (lv_at hl 0 rfl) ?_
  refine lv_iload_n hx hb dX6_keyOf_1 rfl (lv_at hl 1 rfl) ?_
  refine lv_iload_n hx hb dX6_keyOf_2 rfl (lv_at hl 2 rfl) ?_
  refine r_callSI ⟨hx, hb, hml, hown, hts⟩ G (k_X6_isKey l (k := k) (y := y) (σ := σ) (⟨by omega, by omega⟩) (⟨by omega, by omega⟩)) (kS_X6_isKey hts qM_X6_93 ⟨by decide, by decide⟩) rfl rfl hl.1 rfl (Nat.le_of_ble_eq_true rfl) dX6_keyOf_3 ⟨Nat.le_refl _, Nat.le_refl _⟩ (fun H locs G => ?_)
  refine lv_iload_n hx hb dX6_keyOf_6 rfl (lv_at hl 3 rfl) ?_
  refine r_iconst hx hb dX6_keyOf_7 ?_
  refine r_iconst hx hb dX6_keyOf_8 ?_
  refine r_callSI ⟨hx, hb, hml, hown, hts⟩ G (k_X6_in l (v := w) (lo := 0) (hi := 4) (σ := σ) (⟨by omega, by omega⟩) (⟨by omega, by omega⟩) (⟨by omega, by omega⟩)) (kS_X6_in hts qM_X6_32 ⟨by decide, by decide⟩) rfl rfl hl.1 rfl (Nat.le_of_ble_eq_true rfl) dX6_keyOf_9 ⟨Nat.le_refl _, Nat.le_refl _⟩ (fun H locs G => ?_)
  refine r_callVI ⟨hx, hb, hml, hown, hts⟩ G (k_X6_goes l (P := (0 ≤ k ∧ k ≤ 3) ∧ 0 ≤ y ∧ y ≤ 15) (Q := 0 ≤ w ∧ w ≤ 4) (σ := σ) ) (kV_X6_goes hts qM_X6_83 ⟨by decide, by decide⟩) (rc_X6 G) rfl rfl hl.1 rfl (Nat.le_of_ble_eq_true rfl) dX6_keyOf_12 ⟨Nat.le_refl _, Nat.le_refl _⟩ (fun H locs G => ?_)
  refine r_zeq (tgt := 28) hx hb dX6_keyOf_15 (by decide) (fun h_1 => ?_) (fun h_1 => ?_)
  · skip
    have hPQ := h_1
    refine r_iconst hx hb dX6_keyOf_28 ?_
    exact r_iret hx hb hr hlk G (by first | exact (if_neg hPQ).symm | exact (if_pos hPQ).symm) (by first | exact (if_neg hPQ).symm | exact (if_pos hPQ).symm) dX6_keyOf_29
  · skip
    have hPQ := h_1
    have G := G.cong (τ := up σ 133 3 0) (by rw [if_pos hPQ.1, if_pos hPQ.2])
    refine lv_aload_n hx hb dX6_keyOf_18 rfl (lv_at hl 0 rfl) ?_
    refine lv_iload_n hx hb dX6_keyOf_19 rfl (lv_at hl 1 rfl) ?_
    refine lv_iload_n hx hb dX6_keyOf_20 rfl (lv_at hl 2 rfl) ?_
    refine lv_iload_n hx hb dX6_keyOf_21 rfl (lv_at hl 3 rfl) ?_
    refine r_callVI ⟨hx, hb, hml, hown, hts⟩ G (k_X6_keys l (k := k) (y := y) (w := w) (σ := up σ 133 3 0) (⟨by omega, by omega⟩) (⟨by omega, by omega⟩) (⟨by omega, by omega⟩) (hG.f)) (kV_X6_keys hts qM_X6_165 ⟨by decide, by decide⟩) (rc_X6 G) rfl rfl hl.1 rfl (Nat.le_of_ble_eq_true rfl) dX6_keyOf_22 ⟨Nat.le_refl _, Nat.le_refl _⟩ (fun H locs G => ?_)
    refine lv_goto (tgt := 29) hx hb dX6_keyOf_25 (by decide) ?_
    exact r_iret hx hb hr hlk G (by first | exact (if_neg hPQ).symm | exact (if_pos hPQ).symm) (by first | exact (if_neg hPQ).symm | exact (if_pos hPQ).symm) dX6_keyOf_29
set_option maxRecDepth 100000 in
set_option maxHeartbeats 4000000 in
theorem k_X6_kindOf (l : Launch) {σ : Mem} {N k w : Int} (hk0 : inR k) (hw0 : inR w) (hG : SG σ 0 N) : CtI l yX6_kindOf (Cond.code yX6_kindOf cX6_kindOf 3 (some .int)) 5 115 (fun z => [.ref (z + 133), .int (kI k), .int (kI w)]) σ (if isK k ∧ (0 ≤ w ∧ w ≤ 10) then mkd (up σ 133 3 0) k w else 0) (if isK k ∧ (0 ≤ w ∧ w ≤ 10) then up σ 133 3 0 else up σ 133 3 (if isK k then (if (0 ≤ w ∧ w ≤ 10) then 0 else 2) else 1)) := by
  intro D T z
  refine Ct_of (by decide) (Nat.le_of_ble_eq_true rfl) ?_
  intro p e s m below meth c ls hx hb hml hr hts hown hlk G hl
  have hown : s.vm.findClass RX6 = some m.cls := hown
  have hl : lv_has ls 3 [(0, .ref (z + 133)), (1, .int (kI k)), (2, .int (kI w))] := hl
  refine lv_aload_n hx hb dX6_kindOf_0 rfl (lv_at hl 0 rfl) ?_
  refine lv_iload_n hx hb dX6_kindOf_1 rfl (lv_at hl 1 rfl) ?_
  refine r_callSI ⟨hx, hb, hml, hown, hts⟩ G (k_X6_isKind l (v := k) (σ := σ) (⟨by omega, by omega⟩)) (kS_X6_isKind hts qM_X6_36 ⟨by decide, by decide⟩) rfl rfl hl.1 rfl (Nat.le_of_ble_eq_true rfl) dX6_kindOf_2 ⟨Nat.le_refl _, Nat.le_refl _⟩ (fun H locs G => ?_)
  refine lv_iload_n hx hb dX6_kindOf_5 rfl (lv_at hl 2 rfl) ?_
  refine r_iconst hx hb dX6_kindOf_6 ?_
  refine r_bipush hx hb dX6_kindOf_7 (by decide +kernel) ?_
  refine r_callSI ⟨hx, hb, hml, hown, hts⟩ G (k_X6_in l (v := w) (lo := 0) (hi := 10) (σ := σ) (⟨by omega, by omega⟩) (⟨by omega, by omega⟩) (⟨by omega, by omega⟩)) (kS_X6_in hts qM_X6_32 ⟨by decide, by decide⟩) rfl rfl hl.1 rfl (Nat.le_of_ble_eq_true rfl) dX6_kindOf_9 ⟨Nat.le_refl _, Nat.le_refl _⟩ (fun H locs G => ?_)
  refine r_callVI ⟨hx, hb, hml, hown, hts⟩ G (k_X6_goes l (P := 0 ≤ k ∧ k ≤ 3) (Q := 0 ≤ w ∧ w ≤ 10) (σ := σ) ) (kV_X6_goes hts qM_X6_83 ⟨by decide, by decide⟩) (rc_X6 G) rfl rfl hl.1 rfl (Nat.le_of_ble_eq_true rfl) dX6_kindOf_12 ⟨Nat.le_refl _, Nat.le_refl _⟩ (fun H locs G => ?_)
  refine r_zeq (tgt := 27) hx hb dX6_kindOf_15 (by decide) (fun h_1 => ?_) (fun h_1 => ?_)
  · skip
    have hPQ := h_1
    refine r_iconst hx hb dX6_kindOf_27 ?_
    exact r_iret hx hb hr hlk G (by first | exact (if_neg hPQ).symm | exact (if_pos hPQ).symm) (by first | exact (if_neg hPQ).symm | exact (if_pos hPQ).symm) dX6_kindOf_28
  · skip
    have hPQ := h_1
    have G := G.cong (τ := up σ 133 3 0) (by rw [if_pos hPQ.1, if_pos hPQ.2])
    refine lv_aload_n hx hb dX6_kindOf_18 rfl (lv_at hl 0 rfl) ?_
    refine lv_iload_n hx hb dX6_kindOf_19 rfl (lv_at hl 1 rfl) ?_
    refine lv_iload_n hx hb dX6_kindOf_20 rfl (lv_at hl 2 rfl) ?_
    refine r_callVI ⟨hx, hb, hml, hown, hts⟩ G (k_X6_kinds l (k := k) (w := w) (σ := up σ 133 3 0) (⟨by omega, by omega⟩) (⟨by omega, by omega⟩) (hG.f)) (kV_X6_kinds hts qM_X6_168 ⟨by decide, by decide⟩) (rc_X6 G) rfl rfl hl.1 rfl (Nat.le_of_ble_eq_true rfl) dX6_kindOf_21 ⟨Nat.le_refl _, Nat.le_refl _⟩ (fun H locs G => ?_)
    refine lv_goto (tgt := 28) hx hb dX6_kindOf_24 (by decide) ?_
    exact r_iret hx hb hr hlk G (by first | exact (if_neg hPQ).symm | exact (if_pos hPQ).symm) (by first | exact (if_neg hPQ).symm | exact (if_pos hPQ).symm) dX6_kindOf_28
set_option maxRecDepth 100000 in
set_option maxHeartbeats 4000000 in
theorem k_X6_pile (l : Launch) {σ : Mem} {N k q : Int} (hk0 : inR k) (hq0 : inR q) (hG : SG σ 0 N) : CtI l yX6_pile (Cond.code yX6_pile cX6_pile 3 (some .int)) 2 45 (fun z => [.ref (z + 133), .int (kI k), .int (kI q)]) σ (if isK k ∧ (0 ≤ q) then mpl (up σ 133 3 0) k q else 0) (if isK k ∧ (0 ≤ q) then up σ 133 3 0 else up σ 133 3 (if isK k then (if (0 ≤ q) then 0 else 2) else 1)) := by
  intro D T z
  refine Ct_of (by decide) (Nat.le_of_ble_eq_true rfl) ?_
  intro p e s m below meth c ls hx hb hml hr hts hown hlk G hl
  have hown : s.vm.findClass RX6 = some m.cls := hown
  have hl : lv_has ls 3 [(0, .ref (z + 133)), (1, .int (kI k)), (2, .int (kI q))] := hl
  refine lv_aload_n hx hb dX6_pile_0 rfl (lv_at hl 0 rfl) ?_
  refine lv_iload_n hx hb dX6_pile_1 rfl (lv_at hl 1 rfl) ?_
  refine r_callSI ⟨hx, hb, hml, hown, hts⟩ G (k_X6_isKind l (v := k) (σ := σ) (⟨by omega, by omega⟩)) (kS_X6_isKind hts qM_X6_36 ⟨by decide, by decide⟩) rfl rfl hl.1 rfl (Nat.le_of_ble_eq_true rfl) dX6_pile_2 ⟨Nat.le_refl _, Nat.le_refl _⟩ (fun H locs G => ?_)
  refine lv_iload_n hx hb dX6_pile_5 rfl (lv_at hl 2 rfl) ?_
  refine r_if_lt (tgt := 13) hx hb ⟨by omega, by omega⟩ dX6_pile_6 (by decide) (fun h_1 => ?_) (fun h_1 => ?_)
  · skip
    refine r_iconst hx hb dX6_pile_13 ?_
    refine r_top (b := bz (0 ≤ q)) (by first | exact one_bz (by omega) | exact zero_bz (by omega)) ?_
    skip
    refine r_callVI ⟨hx, hb, hml, hown, hts⟩ G (k_X6_goes l (P := 0 ≤ k ∧ k ≤ 3) (Q := 0 ≤ q) (σ := σ) ) (kV_X6_goes hts qM_X6_83 ⟨by decide, by decide⟩) (rc_X6 G) rfl rfl hl.1 rfl (Nat.le_of_ble_eq_true rfl) dX6_pile_14 ⟨Nat.le_refl _, Nat.le_refl _⟩ (fun H locs G => ?_)
    refine r_zeq (tgt := 29) hx hb dX6_pile_17 (by decide) (fun h_2 => ?_) (fun h_2 => ?_)
    · skip
      have hPQ := h_2
      refine r_iconst hx hb dX6_pile_29 ?_
      exact r_iret hx hb hr hlk G (by first | exact (if_neg hPQ).symm | exact (if_pos hPQ).symm) (by first | exact (if_neg hPQ).symm | exact (if_pos hPQ).symm) dX6_pile_30
    · skip
      have hPQ := h_2
      have G := G.cong (τ := up σ 133 3 0) (by rw [if_pos hPQ.1, if_pos hPQ.2])
      refine lv_aload_n hx hb dX6_pile_20 rfl (lv_at hl 0 rfl) ?_
      refine lv_iload_n hx hb dX6_pile_21 rfl (lv_at hl 1 rfl) ?_
      refine lv_iload_n hx hb dX6_pile_22 rfl (lv_at hl 2 rfl) ?_
      refine r_callVI ⟨hx, hb, hml, hown, hts⟩ G (k_X6_piled l (k := k) (q := q) (σ := up σ 133 3 0) (⟨by omega, by omega⟩) (⟨by omega, by omega, by omega⟩) (hG.f)) (kV_X6_piled hts qM_X6_171 ⟨by decide, by decide⟩) (rc_X6 G) rfl rfl hl.1 rfl (Nat.le_of_ble_eq_true rfl) dX6_pile_23 ⟨Nat.le_refl _, Nat.le_refl _⟩ (fun H locs G => ?_)
      refine lv_goto (tgt := 30) hx hb dX6_pile_26 (by decide) ?_
      exact r_iret hx hb hr hlk G (by first | exact (if_neg hPQ).symm | exact (if_pos hPQ).symm) (by first | exact (if_neg hPQ).symm | exact (if_pos hPQ).symm) dX6_pile_30
  · skip
    refine r_iconst hx hb dX6_pile_9 ?_
    refine lv_goto (tgt := 14) hx hb dX6_pile_10 (by decide) ?_
    refine r_top (b := bz (0 ≤ q)) (by first | exact one_bz (by omega) | exact zero_bz (by omega)) ?_
    skip
    refine r_callVI ⟨hx, hb, hml, hown, hts⟩ G (k_X6_goes l (P := 0 ≤ k ∧ k ≤ 3) (Q := 0 ≤ q) (σ := σ) ) (kV_X6_goes hts qM_X6_83 ⟨by decide, by decide⟩) (rc_X6 G) rfl rfl hl.1 rfl (Nat.le_of_ble_eq_true rfl) dX6_pile_14 ⟨Nat.le_refl _, Nat.le_refl _⟩ (fun H locs G => ?_)
    refine r_zeq (tgt := 29) hx hb dX6_pile_17 (by decide) (fun h_3 => ?_) (fun h_3 => ?_)
    · skip
      have hPQ := h_3
      refine r_iconst hx hb dX6_pile_29 ?_
      exact r_iret hx hb hr hlk G (by first | exact (if_neg hPQ).symm | exact (if_pos hPQ).symm) (by first | exact (if_neg hPQ).symm | exact (if_pos hPQ).symm) dX6_pile_30
    · skip
      have hPQ := h_3
      have G := G.cong (τ := up σ 133 3 0) (by rw [if_pos hPQ.1, if_pos hPQ.2])
      refine lv_aload_n hx hb dX6_pile_20 rfl (lv_at hl 0 rfl) ?_
      refine lv_iload_n hx hb dX6_pile_21 rfl (lv_at hl 1 rfl) ?_
      refine lv_iload_n hx hb dX6_pile_22 rfl (lv_at hl 2 rfl) ?_
      refine r_callVI ⟨hx, hb, hml, hown, hts⟩ G (k_X6_piled l (k := k) (q := q) (σ := up σ 133 3 0) (⟨by omega, by omega⟩) (⟨by omega, by omega, by omega⟩) (hG.f)) (kV_X6_piled hts qM_X6_171 ⟨by decide, by decide⟩) (rc_X6 G) rfl rfl hl.1 rfl (Nat.le_of_ble_eq_true rfl) dX6_pile_23 ⟨Nat.le_refl _, Nat.le_refl _⟩ (fun H locs G => ?_)
      refine lv_goto (tgt := 30) hx hb dX6_pile_26 (by decide) ?_
      exact r_iret hx hb hr hlk G (by first | exact (if_neg hPQ).symm | exact (if_pos hPQ).symm) (by first | exact (if_neg hPQ).symm | exact (if_pos hPQ).symm) dX6_pile_30
set_option maxRecDepth 100000 in
set_option maxHeartbeats 4000000 in
theorem k_X6_count (l : Launch) {σ : Mem} {N w : Int} (hw0 : inR w) (hG : SG σ 0 N) : CtI l yX6_count (Cond.code yX6_count cX6_count 2 (some .int)) 5 114 (fun z => [.ref (z + 133), .int (kI w)]) σ (if (0 ≤ w ∧ w ≤ 9) ∧ True then mco (up σ 133 3 0) w else 0) (if (0 ≤ w ∧ w ≤ 9) ∧ True then up σ 133 3 0 else up σ 133 3 (if (0 ≤ w ∧ w ≤ 9) then (if True then 0 else 2) else 1)) := by
  intro D T z
  refine Ct_of (by decide) (Nat.le_of_ble_eq_true rfl) ?_
  intro p e s m below meth c ls hx hb hml hr hts hown hlk G hl
  have hown : s.vm.findClass RX6 = some m.cls := hown
  have hl : lv_has ls 2 [(0, .ref (z + 133)), (1, .int (kI w))] := hl
  refine lv_aload_n hx hb dX6_count_0 rfl (lv_at hl 0 rfl) ?_
  refine lv_iload_n hx hb dX6_count_1 rfl (lv_at hl 1 rfl) ?_
  refine r_iconst hx hb dX6_count_2 ?_
  refine r_bipush hx hb dX6_count_3 (by decide +kernel) ?_
  refine r_callSI ⟨hx, hb, hml, hown, hts⟩ G (k_X6_in l (v := w) (lo := 0) (hi := 9) (σ := σ) (⟨by omega, by omega⟩) (⟨by omega, by omega⟩) (⟨by omega, by omega⟩)) (kS_X6_in hts qM_X6_32 ⟨by decide, by decide⟩) rfl rfl hl.1 rfl (Nat.le_of_ble_eq_true rfl) dX6_count_5 ⟨Nat.le_refl _, Nat.le_refl _⟩ (fun H locs G => ?_)
  refine r_iconst hx hb dX6_count_8 ?_
  refine r_callVI ⟨hx, hb, hml, hown, hts⟩ G (k_X6_goes l (P := 0 ≤ w ∧ w ≤ 9) (Q := True) (σ := σ) ) (kV_X6_goes hts qM_X6_83 ⟨by decide, by decide⟩) (rc_X6 G) rfl rfl hl.1 rfl (Nat.le_of_ble_eq_true rfl) dX6_count_9 ⟨Nat.le_refl _, Nat.le_refl _⟩ (fun H locs G => ?_)
  refine r_zeq (tgt := 23) hx hb dX6_count_12 (by decide) (fun h_1 => ?_) (fun h_1 => ?_)
  · skip
    have hPQ := h_1
    refine r_iconst hx hb dX6_count_23 ?_
    exact r_iret hx hb hr hlk G (by first | exact (if_neg hPQ).symm | exact (if_pos hPQ).symm) (by first | exact (if_neg hPQ).symm | exact (if_pos hPQ).symm) dX6_count_24
  · skip
    have hPQ := h_1
    have G := G.cong (τ := up σ 133 3 0) (by rw [if_pos hPQ.1, if_pos hPQ.2])
    refine lv_aload_n hx hb dX6_count_15 rfl (lv_at hl 0 rfl) ?_
    refine lv_iload_n hx hb dX6_count_16 rfl (lv_at hl 1 rfl) ?_
    refine r_callVI ⟨hx, hb, hml, hown, hts⟩ G (k_X6_counted l (w := w) (σ := up σ 133 3 0) (⟨by omega, by omega⟩) (hG.f)) (kV_X6_counted hts qM_X6_180 ⟨by decide, by decide⟩) (rc_X6 G) rfl rfl hl.1 rfl (Nat.le_of_ble_eq_true rfl) dX6_count_17 ⟨Nat.le_refl _, Nat.le_refl _⟩ (fun H locs G => ?_)
    refine lv_goto (tgt := 24) hx hb dX6_count_20 (by decide) ?_
    exact r_iret hx hb hr hlk G (by first | exact (if_neg hPQ).symm | exact (if_pos hPQ).symm) (by first | exact (if_neg hPQ).symm | exact (if_pos hPQ).symm) dX6_count_24
set_option maxRecDepth 100000 in
set_option maxHeartbeats 4000000 in
theorem k_X6_setting (l : Launch) {σ : Mem} {N k : Int} (hk0 : inR k) (hG : SG σ 0 N) : CtI l yX6_setting (Cond.code yX6_setting cX6_setting 2 (some .int)) 1 22 (fun z => [.ref (z + 133), .int (kI k)]) σ (if (0 ≤ k ∧ k ≤ 2) ∧ True then σ 134 k else 0) (if (0 ≤ k ∧ k ≤ 2) ∧ True then up σ 133 3 0 else up σ 133 3 (if (0 ≤ k ∧ k ≤ 2) then (if True then 0 else 2) else 1)) := by
  intro D T z
  refine Ct_of (by decide) (Nat.le_of_ble_eq_true rfl) ?_
  intro p e s m below meth c ls hx hb hml hr hts hown hlk G hl
  have hown : s.vm.findClass RX6 = some m.cls := hown
  have hl : lv_has ls 2 [(0, .ref (z + 133)), (1, .int (kI k))] := hl
  refine lv_aload_n hx hb dX6_setting_0 rfl (lv_at hl 0 rfl) ?_
  refine lv_iload_n hx hb dX6_setting_1 rfl (lv_at hl 1 rfl) ?_
  refine r_iconst hx hb dX6_setting_2 ?_
  refine r_iconst hx hb dX6_setting_3 ?_
  refine r_callSI ⟨hx, hb, hml, hown, hts⟩ G (k_X6_in l (v := k) (lo := 0) (hi := 2) (σ := σ) (⟨by omega, by omega⟩) (⟨by omega, by omega⟩) (⟨by omega, by omega⟩)) (kS_X6_in hts qM_X6_32 ⟨by decide, by decide⟩) rfl rfl hl.1 rfl (Nat.le_of_ble_eq_true rfl) dX6_setting_4 ⟨Nat.le_refl _, Nat.le_refl _⟩ (fun H locs G => ?_)
  refine r_iconst hx hb dX6_setting_7 ?_
  refine r_callVI ⟨hx, hb, hml, hown, hts⟩ G (k_X6_goes l (P := 0 ≤ k ∧ k ≤ 2) (Q := True) (σ := σ) ) (kV_X6_goes hts qM_X6_83 ⟨by decide, by decide⟩) (rc_X6 G) rfl rfl hl.1 rfl (Nat.le_of_ble_eq_true rfl) dX6_setting_8 ⟨Nat.le_refl _, Nat.le_refl _⟩ (fun H locs G => ?_)
  refine r_zeq (tgt := 23) hx hb dX6_setting_11 (by decide) (fun h_1 => ?_) (fun h_1 => ?_)
  · skip
    have hPQ := h_1
    refine r_iconst hx hb dX6_setting_23 ?_
    exact r_iret hx hb hr hlk G (by first | exact (if_neg hPQ).symm | exact (if_pos hPQ).symm) (by first | exact (if_neg hPQ).symm | exact (if_pos hPQ).symm) dX6_setting_24
  · skip
    have hPQ := h_1
    have G := G.cong (τ := up σ 133 3 0) (by rw [if_pos hPQ.1, if_pos hPQ.2])
    refine lv_aload_n hx hb dX6_setting_14 rfl (lv_at hl 0 rfl) ?_
    refine gf_X6_7 hx hb hts hown G dX6_setting_15 ?_
    refine lv_iload_n hx hb dX6_setting_18 rfl (lv_at hl 1 rfl) ?_
    refine r_iald hx hb G 134 (by decide) (N := 2910) (fun _ => rfl) (by omega) (by omega) (by decide) dX6_setting_19 ?_
    refine r_top (b := σ 134 k) (by simp [up_ap]) ?_
    refine lv_goto (tgt := 24) hx hb dX6_setting_20 (by decide) ?_
    exact r_iret hx hb hr hlk G (by first | exact (if_neg hPQ).symm | exact (if_pos hPQ).symm) (by first | exact (if_neg hPQ).symm | exact (if_pos hPQ).symm) dX6_setting_24
set_option maxRecDepth 100000 in
set_option maxHeartbeats 4000000 in
theorem k_X6_ifAsked (l : Launch) {σ : Mem} {N k : Int} (hk0 : inR k) (hG : SG σ 0 N) : CtI l yX6_ifAsked (Cond.code yX6_ifAsked cX6_ifAsked 2 (some .int)) 6 143 (fun z => [.ref (z + 133), .int (kI k)]) σ (if isK k ∧ True then mas (up σ 133 3 0) k else 0) (if isK k ∧ True then up σ 133 3 0 else up σ 133 3 (if isK k then (if True then 0 else 2) else 1)) := by
  intro D T z
  refine Ct_of (by decide) (Nat.le_of_ble_eq_true rfl) ?_
  intro p e s m below meth c ls hx hb hml hr hts hown hlk G hl
  have hown : s.vm.findClass RX6 = some m.cls := hown
  have hl : lv_has ls 2 [(0, .ref (z + 133)), (1, .int (kI k))] := hl
  refine lv_aload_n hx hb dX6_ifAsked_0 rfl (lv_at hl 0 rfl) ?_
  refine lv_iload_n hx hb dX6_ifAsked_1 rfl (lv_at hl 1 rfl) ?_
  refine r_callSI ⟨hx, hb, hml, hown, hts⟩ G (k_X6_isKind l (v := k) (σ := σ) (⟨by omega, by omega⟩)) (kS_X6_isKind hts qM_X6_36 ⟨by decide, by decide⟩) rfl rfl hl.1 rfl (Nat.le_of_ble_eq_true rfl) dX6_ifAsked_2 ⟨Nat.le_refl _, Nat.le_refl _⟩ (fun H locs G => ?_)
  refine r_iconst hx hb dX6_ifAsked_5 ?_
  refine r_callVI ⟨hx, hb, hml, hown, hts⟩ G (k_X6_goes l (P := 0 ≤ k ∧ k ≤ 3) (Q := True) (σ := σ) ) (kV_X6_goes hts qM_X6_83 ⟨by decide, by decide⟩) (rc_X6 G) rfl rfl hl.1 rfl (Nat.le_of_ble_eq_true rfl) dX6_ifAsked_6 ⟨Nat.le_refl _, Nat.le_refl _⟩ (fun H locs G => ?_)
  refine r_zeq (tgt := 20) hx hb dX6_ifAsked_9 (by decide) (fun h_1 => ?_) (fun h_1 => ?_)
  · skip
    have hPQ := h_1
    refine r_iconst hx hb dX6_ifAsked_20 ?_
    exact r_iret hx hb hr hlk G (by first | exact (if_neg hPQ).symm | exact (if_pos hPQ).symm) (by first | exact (if_neg hPQ).symm | exact (if_pos hPQ).symm) dX6_ifAsked_21
  · skip
    have hPQ := h_1
    have G := G.cong (τ := up σ 133 3 0) (by rw [if_pos hPQ.1, if_pos hPQ.2])
    refine lv_aload_n hx hb dX6_ifAsked_12 rfl (lv_at hl 0 rfl) ?_
    refine lv_iload_n hx hb dX6_ifAsked_13 rfl (lv_at hl 1 rfl) ?_
    refine r_callVI ⟨hx, hb, hml, hown, hts⟩ G (k_X6_wouldAsk l (k := k) (σ := up σ 133 3 0) (⟨by omega, by omega⟩) (hG.f)) (kV_X6_wouldAsk hts qM_X6_183 ⟨by decide, by decide⟩) (rc_X6 G) rfl rfl hl.1 rfl (Nat.le_of_ble_eq_true rfl) dX6_ifAsked_14 ⟨Nat.le_refl _, Nat.le_refl _⟩ (fun H locs G => ?_)
    refine lv_goto (tgt := 21) hx hb dX6_ifAsked_17 (by decide) ?_
    exact r_iret hx hb hr hlk G (by first | exact (if_neg hPQ).symm | exact (if_pos hPQ).symm) (by first | exact (if_neg hPQ).symm | exact (if_pos hPQ).symm) dX6_ifAsked_21
set_option maxRecDepth 100000 in
set_option maxHeartbeats 4000000 in
theorem k_X6_keyIn (l : Launch) {σ : Mem} {N k : Int} (hk0 : inR k) (hG : SG σ 0 N) : CtI l yX6_keyIn (Cond.code yX6_keyIn cX6_keyIn 2 (some .int)) 6 145 (fun z => [.ref (z + 133), .int (kI k)]) σ (if isK k ∧ True then mso (up σ 133 3 0) k else 0) (if isK k ∧ True then up σ 133 3 0 else up σ 133 3 (if isK k then (if True then 0 else 2) else 1)) := by
  intro D T z
  refine Ct_of (by decide) (Nat.le_of_ble_eq_true rfl) ?_
  intro p e s m below meth c ls hx hb hml hr hts hown hlk G hl
  have hown : s.vm.findClass RX6 = some m.cls := hown
  have hl : lv_has ls 2 [(0, .ref (z + 133)), (1, .int (kI k))] := hl
  refine lv_aload_n hx hb dX6_keyIn_0 rfl (lv_at hl 0 rfl) ?_
  refine lv_iload_n hx hb dX6_keyIn_1 rfl (lv_at hl 1 rfl) ?_
  refine r_callSI ⟨hx, hb, hml, hown, hts⟩ G (k_X6_isKind l (v := k) (σ := σ) (⟨by omega, by omega⟩)) (kS_X6_isKind hts qM_X6_36 ⟨by decide, by decide⟩) rfl rfl hl.1 rfl (Nat.le_of_ble_eq_true rfl) dX6_keyIn_2 ⟨Nat.le_refl _, Nat.le_refl _⟩ (fun H locs G => ?_)
  refine r_iconst hx hb dX6_keyIn_5 ?_
  refine r_callVI ⟨hx, hb, hml, hown, hts⟩ G (k_X6_goes l (P := 0 ≤ k ∧ k ≤ 3) (Q := True) (σ := σ) ) (kV_X6_goes hts qM_X6_83 ⟨by decide, by decide⟩) (rc_X6 G) rfl rfl hl.1 rfl (Nat.le_of_ble_eq_true rfl) dX6_keyIn_6 ⟨Nat.le_refl _, Nat.le_refl _⟩ (fun H locs G => ?_)
  refine r_zeq (tgt := 20) hx hb dX6_keyIn_9 (by decide) (fun h_1 => ?_) (fun h_1 => ?_)
  · skip
    have hPQ := h_1
    refine r_iconst hx hb dX6_keyIn_20 ?_
    exact r_iret hx hb hr hlk G (by first | exact (if_neg hPQ).symm | exact (if_pos hPQ).symm) (by first | exact (if_neg hPQ).symm | exact (if_pos hPQ).symm) dX6_keyIn_21
  · skip
    have hPQ := h_1
    have G := G.cong (τ := up σ 133 3 0) (by rw [if_pos hPQ.1, if_pos hPQ.2])
    refine lv_aload_n hx hb dX6_keyIn_12 rfl (lv_at hl 0 rfl) ?_
    refine lv_iload_n hx hb dX6_keyIn_13 rfl (lv_at hl 1 rfl) ?_
    refine r_callVI ⟨hx, hb, hml, hown, hts⟩ G (k_X6_soonest l (k := k) (σ := up σ 133 3 0) (⟨by omega, by omega⟩) (hG.f)) (kV_X6_soonest hts qM_X6_186 ⟨by decide, by decide⟩) (rc_X6 G) rfl rfl hl.1 rfl (Nat.le_of_ble_eq_true rfl) dX6_keyIn_14 ⟨Nat.le_refl _, Nat.le_refl _⟩ (fun H locs G => ?_)
    refine lv_goto (tgt := 21) hx hb dX6_keyIn_17 (by decide) ?_
    exact r_iret hx hb hr hlk G (by first | exact (if_neg hPQ).symm | exact (if_pos hPQ).symm) (by first | exact (if_neg hPQ).symm | exact (if_pos hPQ).symm) dX6_keyIn_21
set_option maxRecDepth 100000 in
set_option maxHeartbeats 4000000 in
theorem k_X6_coming (l : Launch) {σ : Mem} {N k n : Int} (hk0 : inR k) (hn0 : inR n) (hN : 0 ≤ N ∧ N ≤ 100) (hG : SG σ 0 N) : CtI l yX6_coming (Cond.code yX6_coming cX6_coming 3 (some .int)) 6 146 (fun z => [.ref (z + 133), .int (kI k), .int (kI n)]) σ (if isK k ∧ (1 ≤ n ∧ n ≤ 16) then mcR (up σ 133 3 0) k n else 0) (if isK k ∧ (1 ≤ n ∧ n ≤ 16) then (mcs (up σ 133 3 0) k n).1 else up σ 133 3 (if isK k then (if (1 ≤ n ∧ n ≤ 16) then 0 else 2) else 1)) := by
  intro D T z
  refine Ct_of (by decide) (Nat.le_of_ble_eq_true rfl) ?_
  intro p e s m below meth c ls hx hb hml hr hts hown hlk G hl
  have hown : s.vm.findClass RX6 = some m.cls := hown
  have hl : lv_has ls 3 [(0, .ref (z + 133)), (1, .int (kI k)), (2, .int (kI n))] := hl
  refine lv_aload_n hx hb dX6_coming_0 rfl (lv_at hl 0 rfl) ?_
  refine lv_iload_n hx hb dX6_coming_1 rfl (lv_at hl 1 rfl) ?_
  refine r_callSI ⟨hx, hb, hml, hown, hts⟩ G (k_X6_isKind l (v := k) (σ := σ) (⟨by omega, by omega⟩)) (kS_X6_isKind hts qM_X6_36 ⟨by decide, by decide⟩) rfl rfl hl.1 rfl (Nat.le_of_ble_eq_true rfl) dX6_coming_2 ⟨Nat.le_refl _, Nat.le_refl _⟩ (fun H locs G => ?_)
  refine lv_iload_n hx hb dX6_coming_5 rfl (lv_at hl 2 rfl) ?_
  refine r_iconst hx hb dX6_coming_6 ?_
  refine r_bipush hx hb dX6_coming_7 (by decide +kernel) ?_
  refine r_callSI ⟨hx, hb, hml, hown, hts⟩ G (k_X6_in l (v := n) (lo := 1) (hi := 16) (σ := σ) (⟨by omega, by omega⟩) (⟨by omega, by omega⟩) (⟨by omega, by omega⟩)) (kS_X6_in hts qM_X6_32 ⟨by decide, by decide⟩) rfl rfl hl.1 rfl (Nat.le_of_ble_eq_true rfl) dX6_coming_9 ⟨Nat.le_refl _, Nat.le_refl _⟩ (fun H locs G => ?_)
  refine r_callVI ⟨hx, hb, hml, hown, hts⟩ G (k_X6_goes l (P := 0 ≤ k ∧ k ≤ 3) (Q := 1 ≤ n ∧ n ≤ 16) (σ := σ) ) (kV_X6_goes hts qM_X6_83 ⟨by decide, by decide⟩) (rc_X6 G) rfl rfl hl.1 rfl (Nat.le_of_ble_eq_true rfl) dX6_coming_12 ⟨Nat.le_refl _, Nat.le_refl _⟩ (fun H locs G => ?_)
  refine r_zeq (tgt := 27) hx hb dX6_coming_15 (by decide) (fun h_1 => ?_) (fun h_1 => ?_)
  · skip
    have hPQ := h_1
    refine r_iconst hx hb dX6_coming_27 ?_
    exact r_iret hx hb hr hlk G (by first | exact (if_neg hPQ).symm | exact (if_pos hPQ).symm) (by first | exact (if_neg hPQ).symm | exact (if_pos hPQ).symm) dX6_coming_28
  · skip
    have hPQ := h_1
    have G := G.cong (τ := up σ 133 3 0) (by rw [if_pos hPQ.1, if_pos hPQ.2])
    refine lv_aload_n hx hb dX6_coming_18 rfl (lv_at hl 0 rfl) ?_
    refine lv_iload_n hx hb dX6_coming_19 rfl (lv_at hl 1 rfl) ?_
    refine lv_iload_n hx hb dX6_coming_20 rfl (lv_at hl 2 rfl) ?_
    refine r_callVI ⟨hx, hb, hml, hown, hts⟩ G (k_X6_comes l (k := k) (n := n) (σ := up σ 133 3 0) (⟨by omega, by omega⟩) (⟨by omega, by omega⟩) (hN) (hG.f)) (kV_X6_comes hts qM_X6_189 ⟨by decide, by decide⟩) (rc_X6 G) rfl rfl hl.1 rfl (Nat.le_of_ble_eq_true rfl) dX6_coming_21 ⟨Nat.le_refl _, Nat.le_refl _⟩ (fun H locs G => ?_)
    refine lv_goto (tgt := 28) hx hb dX6_coming_24 (by decide) ?_
    exact r_iret hx hb hr hlk G (by first | exact (if_neg hPQ).symm | exact (if_pos hPQ).symm) (by first | exact (if_neg hPQ).symm | exact (if_pos hPQ).symm) dX6_coming_28
set_option maxRecDepth 100000 in
set_option maxHeartbeats 4000000 in
theorem k_X6_longest (l : Launch) {σ : Mem} {N k : Int} (hk0 : inR k) (hG : SG σ 0 N) : CtI l yX6_longest (Cond.code yX6_longest cX6_longest 2 (some .int)) 3 70 (fun z => [.ref (z + 133), .int (kI k)]) σ (if isK k ∧ True then mlo (up σ 133 3 0) k else 0) (if isK k ∧ True then up σ 133 3 0 else up σ 133 3 (if isK k then (if True then 0 else 2) else 1)) := by
  intro D T z
  refine Ct_of (by decide) (Nat.le_of_ble_eq_true rfl) ?_
  intro p e s m below meth c ls hx hb hml hr hts hown hlk G hl
  have hown : s.vm.findClass RX6 = some m.cls := hown
  have hl : lv_has ls 2 [(0, .ref (z + 133)), (1, .int (kI k))] := hl
  refine lv_aload_n hx hb dX6_longest_0 rfl (lv_at hl 0 rfl) ?_
  refine lv_iload_n hx hb dX6_longest_1 rfl (lv_at hl 1 rfl) ?_
  refine r_callSI ⟨hx, hb, hml, hown, hts⟩ G (k_X6_isKind l (v := k) (σ := σ) (⟨by omega, by omega⟩)) (kS_X6_isKind hts qM_X6_36 ⟨by decide, by decide⟩) rfl rfl hl.1 rfl (Nat.le_of_ble_eq_true rfl) dX6_longest_2 ⟨Nat.le_refl _, Nat.le_refl _⟩ (fun H locs G => ?_)
  refine r_iconst hx hb dX6_longest_5 ?_
  refine r_callVI ⟨hx, hb, hml, hown, hts⟩ G (k_X6_goes l (P := 0 ≤ k ∧ k ≤ 3) (Q := True) (σ := σ) ) (kV_X6_goes hts qM_X6_83 ⟨by decide, by decide⟩) (rc_X6 G) rfl rfl hl.1 rfl (Nat.le_of_ble_eq_true rfl) dX6_longest_6 ⟨Nat.le_refl _, Nat.le_refl _⟩ (fun H locs G => ?_)
  refine r_zeq (tgt := 20) hx hb dX6_longest_9 (by decide) (fun h_1 => ?_) (fun h_1 => ?_)
  · skip
    have hPQ := h_1
    refine r_iconst hx hb dX6_longest_20 ?_
    exact r_iret hx hb hr hlk G (by first | exact (if_neg hPQ).symm | exact (if_pos hPQ).symm) (by first | exact (if_neg hPQ).symm | exact (if_pos hPQ).symm) dX6_longest_21
  · skip
    have hPQ := h_1
    have G := G.cong (τ := up σ 133 3 0) (by rw [if_pos hPQ.1, if_pos hPQ.2])
    refine lv_aload_n hx hb dX6_longest_12 rfl (lv_at hl 0 rfl) ?_
    refine lv_iload_n hx hb dX6_longest_13 rfl (lv_at hl 1 rfl) ?_
    refine r_callVI ⟨hx, hb, hml, hown, hts⟩ G (k_X6_longestSeason l (k := k) (σ := up σ 133 3 0) (⟨by omega, by omega⟩) (hG.f)) (kV_X6_longestSeason hts qM_X6_192 ⟨by decide, by decide⟩) (rc_X6 G) rfl rfl hl.1 rfl (Nat.le_of_ble_eq_true rfl) dX6_longest_14 ⟨Nat.le_refl _, Nat.le_refl _⟩ (fun H locs G => ?_)
    refine lv_goto (tgt := 21) hx hb dX6_longest_17 (by decide) ?_
    exact r_iret hx hb hr hlk G (by first | exact (if_neg hPQ).symm | exact (if_pos hPQ).symm) (by first | exact (if_neg hPQ).symm | exact (if_pos hPQ).symm) dX6_longest_21
set_option maxRecDepth 100000 in
set_option maxHeartbeats 4000000 in
theorem k_X6_ifFollowed (l : Launch) {σ : Mem} {N k y q : Int} (hk0 : inR k) (hy0 : inR y) (hq0 : inR q) (hG : SG σ 0 N) : CtI l yX6_ifFollowed (Cond.code yX6_ifFollowed cX6_ifFollowed 4 (some .int)) 3 68 (fun z => [.ref (z + 133), .int (kI k), .int (kI y), .int (kI q)]) σ (if isY k y ∧ (1 ≤ q) then mrf (up σ 133 3 0) k y q else 0) (if isY k y ∧ (1 ≤ q) then up σ 133 3 0 else up σ 133 3 (if isY k y then (if (1 ≤ q) then 0 else 2) else 1)) := by
  intro D T z
  refine Ct_of (by decide) (Nat.le_of_ble_eq_true rfl) ?_
  intro p e s m below meth c ls hx hb hml hr hts hown hlk G hl
  have hown : s.vm.findClass RX6 = some m.cls := hown
  have hl : lv_has ls 4 [(0, .ref (z + 133)), (1, .int (kI k)), (2, .int (kI y)), (3, .int (kI q))] := hl
  refine lv_aload_n hx hb dX6_ifFollowed_0 rfl (lv_at hl 0 rfl) ?_
  refine lv_iload_n hx hb dX6_ifFollowed_1 rfl (lv_at hl 1 rfl) ?_
  refine lv_iload_n hx hb dX6_ifFollowed_2 rfl (lv_at hl 2 rfl) ?_
  refine r_callSI ⟨hx, hb, hml, hown, hts⟩ G (k_X6_isKey l (k := k) (y := y) (σ := σ) (⟨by omega, by omega⟩) (⟨by omega, by omega⟩)) (kS_X6_isKey hts qM_X6_93 ⟨by decide, by decide⟩) rfl rfl hl.1 rfl (Nat.le_of_ble_eq_true rfl) dX6_ifFollowed_3 ⟨Nat.le_refl _, Nat.le_refl _⟩ (fun H locs G => ?_)
  refine lv_iload_n hx hb dX6_ifFollowed_6 rfl (lv_at hl 3 rfl) ?_
  refine r_iconst hx hb dX6_ifFollowed_7 ?_
  refine r_icmp_lt (tgt := 15) hx hb ⟨by omega, by omega⟩ ⟨by decide, by decide⟩ dX6_ifFollowed_8 (by decide) (fun h_1 => ?_) (fun h_1 => ?_)
  · skip
    refine r_iconst hx hb dX6_ifFollowed_15 ?_
    refine r_top (b := bz (1 ≤ q)) (by first | exact one_bz (by omega) | exact zero_bz (by omega)) ?_
    skip
    refine r_callVI ⟨hx, hb, hml, hown, hts⟩ G (k_X6_goes l (P := (0 ≤ k ∧ k ≤ 3) ∧ 0 ≤ y ∧ y ≤ 15) (Q := 1 ≤ q) (σ := σ) ) (kV_X6_goes hts qM_X6_83 ⟨by decide, by decide⟩) (rc_X6 G) rfl rfl hl.1 rfl (Nat.le_of_ble_eq_true rfl) dX6_ifFollowed_16 ⟨Nat.le_refl _, Nat.le_refl _⟩ (fun H locs G => ?_)
    refine r_zeq (tgt := 32) hx hb dX6_ifFollowed_19 (by decide) (fun h_2 => ?_) (fun h_2 => ?_)
    · skip
      have hPQ := h_2
      refine r_iconst hx hb dX6_ifFollowed_32 ?_
      exact r_iret hx hb hr hlk G (by first | exact (if_neg hPQ).symm | exact (if_pos hPQ).symm) (by first | exact (if_neg hPQ).symm | exact (if_pos hPQ).symm) dX6_ifFollowed_33
    · skip
      have hPQ := h_2
      have G := G.cong (τ := up σ 133 3 0) (by rw [if_pos hPQ.1, if_pos hPQ.2])
      refine lv_aload_n hx hb dX6_ifFollowed_22 rfl (lv_at hl 0 rfl) ?_
      refine lv_iload_n hx hb dX6_ifFollowed_23 rfl (lv_at hl 1 rfl) ?_
      refine lv_iload_n hx hb dX6_ifFollowed_24 rfl (lv_at hl 2 rfl) ?_
      refine lv_iload_n hx hb dX6_ifFollowed_25 rfl (lv_at hl 3 rfl) ?_
      refine r_callVI ⟨hx, hb, hml, hown, hts⟩ G (k_X6_refers l (k := k) (y := y) (q := q) (σ := up σ 133 3 0) (⟨by omega, by omega⟩) (⟨by omega, by omega⟩) (hq0) (hG.f)) (kV_X6_refers hts qM_X6_115 ⟨by decide, by decide⟩) (rc_X6 G) rfl rfl hl.1 rfl (Nat.le_of_ble_eq_true rfl) dX6_ifFollowed_26 ⟨Nat.le_refl _, Nat.le_refl _⟩ (fun H locs G => ?_)
      refine lv_goto (tgt := 33) hx hb dX6_ifFollowed_29 (by decide) ?_
      exact r_iret hx hb hr hlk G (by first | exact (if_neg hPQ).symm | exact (if_pos hPQ).symm) (by first | exact (if_neg hPQ).symm | exact (if_pos hPQ).symm) dX6_ifFollowed_33
  · skip
    refine r_iconst hx hb dX6_ifFollowed_11 ?_
    refine lv_goto (tgt := 16) hx hb dX6_ifFollowed_12 (by decide) ?_
    refine r_top (b := bz (1 ≤ q)) (by first | exact one_bz (by omega) | exact zero_bz (by omega)) ?_
    skip
    refine r_callVI ⟨hx, hb, hml, hown, hts⟩ G (k_X6_goes l (P := (0 ≤ k ∧ k ≤ 3) ∧ 0 ≤ y ∧ y ≤ 15) (Q := 1 ≤ q) (σ := σ) ) (kV_X6_goes hts qM_X6_83 ⟨by decide, by decide⟩) (rc_X6 G) rfl rfl hl.1 rfl (Nat.le_of_ble_eq_true rfl) dX6_ifFollowed_16 ⟨Nat.le_refl _, Nat.le_refl _⟩ (fun H locs G => ?_)
    refine r_zeq (tgt := 32) hx hb dX6_ifFollowed_19 (by decide) (fun h_3 => ?_) (fun h_3 => ?_)
    · skip
      have hPQ := h_3
      refine r_iconst hx hb dX6_ifFollowed_32 ?_
      exact r_iret hx hb hr hlk G (by first | exact (if_neg hPQ).symm | exact (if_pos hPQ).symm) (by first | exact (if_neg hPQ).symm | exact (if_pos hPQ).symm) dX6_ifFollowed_33
    · skip
      have hPQ := h_3
      have G := G.cong (τ := up σ 133 3 0) (by rw [if_pos hPQ.1, if_pos hPQ.2])
      refine lv_aload_n hx hb dX6_ifFollowed_22 rfl (lv_at hl 0 rfl) ?_
      refine lv_iload_n hx hb dX6_ifFollowed_23 rfl (lv_at hl 1 rfl) ?_
      refine lv_iload_n hx hb dX6_ifFollowed_24 rfl (lv_at hl 2 rfl) ?_
      refine lv_iload_n hx hb dX6_ifFollowed_25 rfl (lv_at hl 3 rfl) ?_
      refine r_callVI ⟨hx, hb, hml, hown, hts⟩ G (k_X6_refers l (k := k) (y := y) (q := q) (σ := up σ 133 3 0) (⟨by omega, by omega⟩) (⟨by omega, by omega⟩) (hq0) (hG.f)) (kV_X6_refers hts qM_X6_115 ⟨by decide, by decide⟩) (rc_X6 G) rfl rfl hl.1 rfl (Nat.le_of_ble_eq_true rfl) dX6_ifFollowed_26 ⟨Nat.le_refl _, Nat.le_refl _⟩ (fun H locs G => ?_)
      refine lv_goto (tgt := 33) hx hb dX6_ifFollowed_29 (by decide) ?_
      exact r_iret hx hb hr hlk G (by first | exact (if_neg hPQ).symm | exact (if_pos hPQ).symm) (by first | exact (if_neg hPQ).symm | exact (if_pos hPQ).symm) dX6_ifFollowed_33
set_option maxRecDepth 100000 in
set_option maxHeartbeats 4000000 in
theorem k_X6_scarcest (l : Launch) {σ : Mem} {N : Int} (hG : SG σ 0 N) : CtI l yX6_scarcest (Cond.code yX6_scarcest cX6_scarcest 1 (some .int)) 5 115 (fun z => [.ref (z + 133)]) σ (mfw (up σ 133 3 0)) (up σ 133 3 0) := by
  intro D T z
  refine Ct_of (by decide) (Nat.le_of_ble_eq_true rfl) ?_
  intro p e s m below meth c ls hx hb hml hr hts hown hlk G hl
  have hown : s.vm.findClass RX6 = some m.cls := hown
  have hl : lv_has ls 1 [(0, .ref (z + 133))] := hl
  refine lv_aload_n hx hb dX6_scarcest_0 rfl (lv_at hl 0 rfl) ?_
  refine r_iconst hx hb dX6_scarcest_1 ?_
  refine pf_X6_21 hx hb hts hown G dX6_scarcest_2 (fun H locs G => ?_)
  refine lv_aload_n hx hb dX6_scarcest_5 rfl (lv_at hl 0 rfl) ?_
  refine r_callVI ⟨hx, hb, hml, hown, hts⟩ G (k_X6_fewest l (σ := up σ 133 3 0) (hG.f)) (kV_X6_fewest hts qM_X6_195 ⟨by decide, by decide⟩) (rc_X6 G) rfl rfl hl.1 rfl (Nat.le_of_ble_eq_true rfl) dX6_scarcest_6 ⟨Nat.le_refl _, Nat.le_refl _⟩ (fun H locs G => ?_)
  exact r_iret hx hb hr hlk G (by first | rfl | omega) (by rfl) dX6_scarcest_9
/-- whatever the errors' walk leaves -/
theorem er_o {σ : Mem} {c : Nat} {j i : Int} (hi : 0 ≤ i) (h : c ≠ 133 ∨ (j ≠ 6 ∧ j ≠ 7 ∧ j ≠ 8)) : (erI σ i).1 c j = σ c j := by
  have ea : ∀ μ : Mem, adv μ c j = μ c j := fun μ => by unfold adv; rw [up_ap, if_neg (by omega)]
  refine it_inv (f := erF) (a := (up σ 133 6 0, 0)) (n := i) (fun _ v => v.1 c j = σ c j) ?_ (fun q v h0 h1 h2 => ?_) hi (Int.le_refl _)
  · show up σ 133 6 0 c j = σ c j; rw [up_ap, if_neg (by omega)]
  · unfold erF
    (repeat' split) <;> first | exact h2 | (show ordM _ c j = _; rw [ordM_o h]; exact h2) | (show adv _ c j = _; rw [ea, ordM_o h]; exact h2)
theorem er_6 {σ : Mem} {i : Int} (hX : IX σ) (hi : 0 ≤ i) : 0 ≤ (erI σ i).1 133 6 ∧ (erI σ i).1 133 6 ≤ (erI σ i).1 133 5 := by
  refine it_inv (f := erF) (a := (up σ 133 6 0, 0)) (n := i) (fun _ v => 0 ≤ v.1 133 6 ∧ v.1 133 6 ≤ v.1 133 5) ?_ (fun q v h0 h1 h2 => ?_) hi (Int.le_refl _)
  · have := hX.1; simp [up_ap]; omega
  · have h3 := ordM_6 h2.2
    have h4 : ordM v.1 133 5 = v.1 133 5 := ordM_o (by omega)
    unfold erF
    split
    · exact h2
    · split
      · show 0 ≤ ordM v.1 133 6 ∧ ordM v.1 133 6 ≤ ordM v.1 133 5; omega
      · split
        · show 0 ≤ ordM v.1 133 6 ∧ ordM v.1 133 6 ≤ ordM v.1 133 5; omega
        · split
          · show 0 ≤ ordM v.1 133 6 ∧ ordM v.1 133 6 ≤ ordM v.1 133 5; omega
          · show 0 ≤ adv (ordM v.1) 133 6 ∧ adv (ordM v.1) 133 6 ≤ adv (ordM v.1) 133 5
            rw [adv6, adv5]; omega
theorem erR_rg {σ : Mem} (hX : IX σ) : -1 ≤ erR σ ∧ erR σ ≤ 60 := by
  have h1 := er_6 hX (i := 61) (by decide)
  have h2 : (erI σ 61).1 133 5 = σ 133 5 := er_o (by decide) (by omega)
  have h3 := hX.1
  unfold erR; split <;> omega
set_option maxRecDepth 100000 in
set_option maxHeartbeats 4000000 in
theorem k_X6_firstError (l : Launch) {σ : Mem} (hX : IX σ) : CtI l yX6_firstError (Cond.code yX6_firstError cX6_firstError 2 (some .int)) 5 108 (fun z => [.ref (z + 133)]) σ (if erR (up σ 133 3 0) < 0 then σ 133 5 else erR (up σ 133 3 0)) (erM (up σ 133 3 0)) := by
  intro D T z
  refine Ct_of (by decide) (Nat.le_of_ble_eq_true rfl) ?_
  intro p e s m below meth c ls hx hb hml hr hts hown hlk G hl
  have hown : s.vm.findClass RX6 = some m.cls := hown
  have hl : lv_has ls 2 [(0, .ref (z + 133))] := hl
  refine lv_aload_n hx hb dX6_firstError_0 rfl (lv_at hl 0 rfl) ?_
  refine r_iconst hx hb dX6_firstError_1 ?_
  refine pf_X6_21 hx hb hts hown G dX6_firstError_2 (fun H locs G => ?_)
  refine lv_aload_n hx hb dX6_firstError_5 rfl (lv_at hl 0 rfl) ?_
  refine r_callVI ⟨hx, hb, hml, hown, hts⟩ G (k_X6_error l (σ := up σ 133 3 0) (hX.f (by decide))) (kV_X6_error hts qM_X6_157 ⟨by decide, by decide⟩) (rc_X6 G) rfl rfl hl.1 rfl (Nat.le_of_ble_eq_true rfl) dX6_firstError_6 ⟨Nat.le_refl _, Nat.le_refl _⟩ (fun H locs G => ?_)
  have hrr := erR_rg (σ := up σ 133 3 0) (hX.f (by decide))
  refine lv_istore_n (lv' := [(1, .int (kI (erR (up σ 133 3 0)))), (0, .ref (z + 133))]) hx hb dX6_firstError_9 rfl hl (by decide) rfl (fun ls hl => ?_)
  refine lv_iload_n hx hb dX6_firstError_10 rfl (lv_at hl 0 rfl) ?_
  refine r_if_ge (tgt := 21) hx hb ⟨by omega, by omega⟩ dX6_firstError_11 (by decide) (fun h_1 => ?_) (fun h_1 => ?_)
  · skip
    refine lv_iload_n hx hb dX6_firstError_21 rfl (lv_at hl 0 rfl) ?_
    exact r_iret hx hb hr hlk G (by first | rw [if_pos (by omega)] | rw [if_neg (by omega)]) (by rfl) dX6_firstError_22
  · skip
    refine lv_aload_n hx hb dX6_firstError_14 rfl (lv_at hl 1 rfl) ?_
    refine gf_X6_127 hx hb hts hown G dX6_firstError_15 ?_
    refine r_top (b := σ 133 5) (by unfold erM; rw [er_o (by decide) (by omega), up_ap, if_neg (by omega)]) ?_
    refine lv_goto (tgt := 22) hx hb dX6_firstError_18 (by decide) ?_
    exact r_iret hx hb hr hlk G (by first | rw [if_pos (by omega)] | rw [if_neg (by omega)]) (by rfl) dX6_firstError_22
