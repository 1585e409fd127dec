set_option maxRecDepth 100000 in
set_option maxHeartbeats 4000000 in
theorem k_X6_keep (l : Launch) {σ : Mem} {q : Int} (hq0 : inR q) : CtI l yX6_keep (Cond.code yX6_keep cX6_keep 2 (some .int)) 1 23 (fun z => [.ref (z + 133), .int (kI q)]) σ (if (0 ≤ q ∧ q ≤ 1) ∧ True then σ 134 3 else 0) (if (0 ≤ q ∧ q ≤ 1) ∧ True then up (sgc (up σ 133 3 0) 0 (7 + q) 291) 135 q 1 else up σ 133 3 (if (0 ≤ q ∧ q ≤ 1) then (if True then 0 else 2) else 1)) := by
  intro D T z
  refine Ct_of (by decide) (Nat.le_of_ble_eq_true rfl) ?_
  intro p e s m below meth c ls hx hb hml hr hts hown hlk G hl
  have hown : s.vm.findClass RX6 = some m.cls := hown
  have hl : lv_has ls 2 [(0, .ref (z + 133)), (1, .int (kI q))] := hl
  refine lv_aload_n hx hb dX6_keep_0 rfl (lv_at hl 0 rfl) ?_
  refine lv_iload_n hx hb dX6_keep_1 rfl (lv_at hl 1 rfl) ?_
  refine r_iconst hx hb dX6_keep_2 ?_
  refine r_iconst hx hb dX6_keep_3 ?_
  refine r_callSI ⟨hx, hb, hml, hown, hts⟩ G (k_X6_in l (v := q) (lo := 0) (hi := 1) (σ := σ) (⟨by omega, by omega⟩) (⟨by omega, by omega⟩) (⟨by omega, by omega⟩)) (kS_X6_in hts qM_X6_32 ⟨by decide, by decide⟩) rfl rfl hl.1 rfl (Nat.le_of_ble_eq_true rfl) dX6_keep_4 ⟨Nat.le_refl _, Nat.le_refl _⟩ (fun H locs G => ?_)
  refine r_iconst hx hb dX6_keep_7 ?_
  refine r_callVI ⟨hx, hb, hml, hown, hts⟩ G (k_X6_goes l (P := 0 ≤ q ∧ q ≤ 1) (Q := True) (σ := σ) ) (kV_X6_goes hts qM_X6_83 ⟨by decide, by decide⟩) (rc_X6 G) rfl rfl hl.1 rfl (Nat.le_of_ble_eq_true rfl) dX6_keep_8 ⟨Nat.le_refl _, Nat.le_refl _⟩ (fun H locs G => ?_)
  refine r_zne (tgt := 16) hx hb dX6_keep_11 (by decide) (fun h_1 => ?_) (fun h_1 => ?_)
  · skip
    have hPQ := h_1
    have G := G.cong (τ := up σ 133 3 0) (by rw [if_pos hPQ.1, if_pos hPQ.2])
    refine lv_aload_n hx hb dX6_keep_16 rfl (lv_at hl 0 rfl) ?_
    refine r_iconst hx hb dX6_keep_17 ?_
    refine r_bipush hx hb dX6_keep_18 (by decide +kernel) ?_
    refine lv_iload_n hx hb dX6_keep_20 rfl (lv_at hl 1 rfl) ?_
    refine r_iadd hx hb dX6_keep_21 ?_
    refine r_callVV ⟨hx, hb, hml, hown, hts⟩ G (k_X6_copies l (f := 0) (t := 7 + q) (σ := up σ 133 3 0) (⟨by omega, by omega⟩) (⟨by omega, by omega⟩)) (kV_X6_copies hts qM_X6_28 ⟨by decide, by decide⟩) (rc_X6 G) rfl rfl hl.1 rfl (Nat.le_of_ble_eq_true rfl) dX6_keep_22 ⟨Nat.le_refl _, Nat.le_refl _⟩ (fun H locs G => ?_)
    refine lv_aload_n hx hb dX6_keep_25 rfl (lv_at hl 0 rfl) ?_
    refine gf_X6_13 hx hb hts hown G dX6_keep_26 ?_
    refine lv_iload_n hx hb dX6_keep_29 rfl (lv_at hl 1 rfl) ?_
    refine r_iconst hx hb dX6_keep_30 ?_
    refine r_zast hx hb G 135 (by decide) (N := 2) (fun _ => rfl) (by omega) (by omega) (by omega) (by decide) dX6_keep_31 (fun H locs G => ?_)
    refine lv_aload_n hx hb dX6_keep_32 rfl (lv_at hl 0 rfl) ?_
    refine gf_X6_7 hx hb hts hown G dX6_keep_33 ?_
    refine r_iconst hx hb dX6_keep_36 ?_
    refine r_iald hx hb G 134 (by decide) (N := 2910) (fun _ => rfl) (by omega) (by omega) (by decide) dX6_keep_37 ?_
    refine r_top (b := σ 134 3) (by rw [up_ap, if_neg (by omega), sgc_at (by omega), up_ap, if_neg (by omega)]) ?_
    exact r_iret hx hb hr hlk G (by first | exact (if_neg hPQ).symm | exact (if_pos hPQ).symm) (by first | exact (if_neg hPQ).symm | exact (if_pos hPQ).symm) dX6_keep_38
  · skip
    have hPQ := h_1
    refine r_iconst hx hb dX6_keep_14 ?_
    exact r_iret hx hb hr hlk G (by first | exact (if_neg hPQ).symm | exact (if_pos hPQ).symm) (by first | exact (if_neg hPQ).symm | exact (if_pos hPQ).symm) dX6_keep_15
theorem goM_7 {σ : Mem} {i j : Int} (hs : 0 ≤ σ 133 1 ∧ σ 133 1 ≤ 6) (h : i = j ∧ 2037 ≤ j) : goM σ 134 i = σ 134 j := by
  obtain ⟨rfl, h⟩ := h
  unfold goM svM
  have e : (up σ 133 3 0) 133 1 = σ 133 1 := by simp [up_ap]
  rw [e]
  split
  · rw [sgc_at (by omega), up_ap, if_neg (by omega)]; simp only [shfc]; rw [if_neg (by omega), up_ap, if_neg (by omega)]
  · rw [sgc_at (by omega), up_ap, if_neg (by omega), up_ap, if_neg (by omega)]
set_option maxRecDepth 100000 in
set_option maxHeartbeats 4000000 in
theorem k_X6_goBack (l : Launch) {σ : Mem} {q : Int} (hq0 : inR q) (hs : 0 ≤ σ 133 1 ∧ σ 133 1 ≤ 6) (hK : ∀ q, 0 ≤ q → q ≤ 1 → σ 135 q = 0 ∨ σ 135 q = 1) : CtI l yX6_goBack (Cond.code yX6_goBack cX6_goBack 2 (some .int)) 2 44 (fun z => [.ref (z + 133), .int (kI q)]) σ (if (0 ≤ q ∧ q ≤ 1) ∧ ((0 ≤ q ∧ q ≤ 1) ∧ σ 135 q = 1) then σ 134 (3 + 291 * (7 + q)) else 0) (if (0 ≤ q ∧ q ≤ 1) ∧ ((0 ≤ q ∧ q ≤ 1) ∧ σ 135 q = 1) then sgc (goM σ) (7 + q) 0 291 else up σ 133 3 (if (0 ≤ q ∧ q ≤ 1) then (if ((0 ≤ q ∧ q ≤ 1) ∧ σ 135 q = 1) then 0 else 2) else 1)) := by
  intro D T z
  refine Ct_of (by decide) (Nat.le_of_ble_eq_true rfl) ?_
  intro p e s m below meth c ls hx hb hml hr hts hown hlk G hl
  have hown : s.vm.findClass RX6 = some m.cls := hown
  have hl : lv_has ls 2 [(0, .ref (z + 133)), (1, .int (kI q))] := hl
  refine lv_aload_n hx hb dX6_goBack_0 rfl (lv_at hl 0 rfl) ?_
  refine lv_iload_n hx hb dX6_goBack_1 rfl (lv_at hl 1 rfl) ?_
  refine r_iconst hx hb dX6_goBack_2 ?_
  refine r_iconst hx hb dX6_goBack_3 ?_
  refine r_callSI ⟨hx, hb, hml, hown, hts⟩ G (k_X6_in l (v := q) (lo := 0) (hi := 1) (σ := σ) (⟨by omega, by omega⟩) (⟨by omega, by omega⟩) (⟨by omega, by omega⟩)) (kS_X6_in hts qM_X6_32 ⟨by decide, by decide⟩) rfl rfl hl.1 rfl (Nat.le_of_ble_eq_true rfl) dX6_goBack_4 ⟨Nat.le_refl _, Nat.le_refl _⟩ (fun H locs G => ?_)
  refine lv_iload_n hx hb dX6_goBack_7 rfl (lv_at hl 1 rfl) ?_
  refine r_iconst hx hb dX6_goBack_8 ?_
  refine r_iconst hx hb dX6_goBack_9 ?_
  refine r_callSI ⟨hx, hb, hml, hown, hts⟩ G (k_X6_in l (v := q) (lo := 0) (hi := 1) (σ := σ) (⟨by omega, by omega⟩) (⟨by omega, by omega⟩) (⟨by omega, by omega⟩)) (kS_X6_in hts qM_X6_32 ⟨by decide, by decide⟩) rfl rfl hl.1 rfl (Nat.le_of_ble_eq_true rfl) dX6_goBack_10 ⟨Nat.le_refl _, Nat.le_refl _⟩ (fun H locs G => ?_)
  refine r_zeq (tgt := 29) hx hb dX6_goBack_13 (by decide) (fun h_1 => ?_) (fun h_1 => ?_)
  · skip
    refine r_iconst hx hb dX6_goBack_29 ?_
    refine r_top (b := bz ((0 ≤ q ∧ q ≤ 1) ∧ σ 135 q = 1)) (by first | exact one_bz (by omega) | exact zero_bz (by omega)) ?_
    skip
    refine r_callVI ⟨hx, hb, hml, hown, hts⟩ G (k_X6_goes l (P := 0 ≤ q ∧ q ≤ 1) (Q := (0 ≤ q ∧ q ≤ 1) ∧ σ 135 q = 1) (σ := σ) ) (kV_X6_goes hts qM_X6_83 ⟨by decide, by decide⟩) (rc_X6 G) rfl rfl hl.1 rfl (Nat.le_of_ble_eq_true rfl) dX6_goBack_30 ⟨Nat.le_refl _, Nat.le_refl _⟩ (fun H locs G => ?_)
    refine r_zne (tgt := 38) hx hb dX6_goBack_33 (by decide) (fun h_2 => ?_) (fun h_2 => ?_)
    · skip
      have hPQ := h_2
      have G := G.cong (τ := up σ 133 3 0) (by rw [if_pos hPQ.1, if_pos hPQ.2])
      refine lv_aload_n hx hb dX6_goBack_38 rfl (lv_at hl 0 rfl) ?_
      refine r_callVV ⟨hx, hb, hml, hown, hts⟩ G (k_X6_saves l (σ := up σ 133 3 0) (⟨by simp [up_ap]; omega, by simp [up_ap]; omega⟩)) (kV_X6_saves hts qM_X6_87 ⟨by decide, by decide⟩) (rc_X6 G) rfl rfl hl.1 rfl (Nat.le_of_ble_eq_true rfl) dX6_goBack_39 ⟨Nat.le_refl _, Nat.le_refl _⟩ (fun H locs G => ?_)
      have G := G.cong (τ := goM σ) (rfl)
      refine lv_aload_n hx hb dX6_goBack_42 rfl (lv_at hl 0 rfl) ?_
      refine r_bipush hx hb dX6_goBack_43 (by decide +kernel) ?_
      refine lv_iload_n hx hb dX6_goBack_45 rfl (lv_at hl 1 rfl) ?_
      refine r_iadd hx hb dX6_goBack_46 ?_
      refine r_iconst hx hb dX6_goBack_47 ?_
      refine r_callVV ⟨hx, hb, hml, hown, hts⟩ G (k_X6_copies l (f := 7 + q) (t := 0) (σ := goM σ) (⟨by omega, by omega⟩) (⟨by omega, by omega⟩)) (kV_X6_copies hts qM_X6_28 ⟨by decide, by decide⟩) (rc_X6 G) rfl rfl hl.1 rfl (Nat.le_of_ble_eq_true rfl) dX6_goBack_48 ⟨Nat.le_refl _, Nat.le_refl _⟩ (fun H locs G => ?_)
      refine lv_aload_n hx hb dX6_goBack_51 rfl (lv_at hl 0 rfl) ?_
      refine gf_X6_7 hx hb hts hown G dX6_goBack_52 ?_
      refine r_iconst hx hb dX6_goBack_55 ?_
      refine r_iald hx hb G 134 (by decide) (N := 2910) (fun _ => rfl) (by omega) (by omega) (by decide) dX6_goBack_56 ?_
      refine r_top (b := σ 134 (3 + 291 * (7 + q))) (by rw [sgc_in (by omega)]; exact goM_7 hs (by omega)) ?_
      exact r_iret hx hb hr hlk G (by first | exact (if_neg hPQ).symm | exact (if_pos hPQ).symm) (by first | exact (if_neg hPQ).symm | exact (if_pos hPQ).symm) dX6_goBack_57
    · skip
      have hPQ := h_2
      refine r_iconst hx hb dX6_goBack_36 ?_
      exact r_iret hx hb hr hlk G (by first | exact (if_neg hPQ).symm | exact (if_pos hPQ).symm) (by first | exact (if_neg hPQ).symm | exact (if_pos hPQ).symm) dX6_goBack_37
  · skip
    refine lv_aload_n hx hb dX6_goBack_16 rfl (lv_at hl 0 rfl) ?_
    refine gf_X6_13 hx hb hts hown G dX6_goBack_17 ?_
    refine lv_iload_n hx hb dX6_goBack_20 rfl (lv_at hl 1 rfl) ?_
    have hkk := hK q (by omega) (by omega)
    refine r_zald hx hb G 135 (by decide) (N := 2) (fun _ => rfl) (by omega) (by omega) (by decide) dX6_goBack_21 ?_
    refine r_if_eq (tgt := 29) hx hb ⟨by omega, by omega⟩ dX6_goBack_22 (by decide) (fun h_3 => ?_) (fun h_3 => ?_)
    · skip
      refine r_iconst hx hb dX6_goBack_29 ?_
      refine r_top (b := bz ((0 ≤ q ∧ q ≤ 1) ∧ σ 135 q = 1)) (by first | exact one_bz (by omega) | exact zero_bz (by omega)) ?_
      skip
      refine r_callVI ⟨hx, hb, hml, hown, hts⟩ G (k_X6_goes l (P := 0 ≤ q ∧ q ≤ 1) (Q := (0 ≤ q ∧ q ≤ 1) ∧ σ 135 q = 1) (σ := σ) ) (kV_X6_goes hts qM_X6_83 ⟨by decide, by decide⟩) (rc_X6 G) rfl rfl hl.1 rfl (Nat.le_of_ble_eq_true rfl) dX6_goBack_30 ⟨Nat.le_refl _, Nat.le_refl _⟩ (fun H locs G => ?_)
      refine r_zne (tgt := 38) hx hb dX6_goBack_33 (by decide) (fun h_4 => ?_) (fun h_4 => ?_)
      · skip
        have hPQ := h_4
        have G := G.cong (τ := up σ 133 3 0) (by rw [if_pos hPQ.1, if_pos hPQ.2])
        refine lv_aload_n hx hb dX6_goBack_38 rfl (lv_at hl 0 rfl) ?_
        refine r_callVV ⟨hx, hb, hml, hown, hts⟩ G (k_X6_saves l (σ := up σ 133 3 0) (⟨by simp [up_ap]; omega, by simp [up_ap]; omega⟩)) (kV_X6_saves hts qM_X6_87 ⟨by decide, by decide⟩) (rc_X6 G) rfl rfl hl.1 rfl (Nat.le_of_ble_eq_true rfl) dX6_goBack_39 ⟨Nat.le_refl _, Nat.le_refl _⟩ (fun H locs G => ?_)
        have G := G.cong (τ := goM σ) (rfl)
        refine lv_aload_n hx hb dX6_goBack_42 rfl (lv_at hl 0 rfl) ?_
        refine r_bipush hx hb dX6_goBack_43 (by decide +kernel) ?_
        refine lv_iload_n hx hb dX6_goBack_45 rfl (lv_at hl 1 rfl) ?_
        refine r_iadd hx hb dX6_goBack_46 ?_
        refine r_iconst hx hb dX6_goBack_47 ?_
        refine r_callVV ⟨hx, hb, hml, hown, hts⟩ G (k_X6_copies l (f := 7 + q) (t := 0) (σ := goM σ) (⟨by omega, by omega⟩) (⟨by omega, by omega⟩)) (kV_X6_copies hts qM_X6_28 ⟨by decide, by decide⟩) (rc_X6 G) rfl rfl hl.1 rfl (Nat.le_of_ble_eq_true rfl) dX6_goBack_48 ⟨Nat.le_refl _, Nat.le_refl _⟩ (fun H locs G => ?_)
        refine lv_aload_n hx hb dX6_goBack_51 rfl (lv_at hl 0 rfl) ?_
        refine gf_X6_7 hx hb hts hown G dX6_goBack_52 ?_
        refine r_iconst hx hb dX6_goBack_55 ?_
        refine r_iald hx hb G 134 (by decide) (N := 2910) (fun _ => rfl) (by omega) (by omega) (by decide) dX6_goBack_56 ?_
        refine r_top (b := σ 134 (3 + 291 * (7 + q))) (by rw [sgc_in (by omega)]; exact goM_7 hs (by omega)) ?_
        exact r_iret hx hb hr hlk G (by first | exact (if_neg hPQ).symm | exact (if_pos hPQ).symm) (by first | exact (if_neg hPQ).symm | exact (if_pos hPQ).symm) dX6_goBack_57
      · skip
        have hPQ := h_4
        refine r_iconst hx hb dX6_goBack_36 ?_
        exact r_iret hx hb hr hlk G (by first | exact (if_neg hPQ).symm | exact (if_pos hPQ).symm) (by first | exact (if_neg hPQ).symm | exact (if_pos hPQ).symm) dX6_goBack_37
    · skip
      refine r_iconst hx hb dX6_goBack_25 ?_
      refine lv_goto (tgt := 30) hx hb dX6_goBack_26 (by decide) ?_
      refine r_top (b := bz ((0 ≤ q ∧ q ≤ 1) ∧ σ 135 q = 1)) (by first | exact one_bz (by omega) | exact zero_bz (by omega)) ?_
      skip
      refine r_callVI ⟨hx, hb, hml, hown, hts⟩ G (k_X6_goes l (P := 0 ≤ q ∧ q ≤ 1) (Q := (0 ≤ q ∧ q ≤ 1) ∧ σ 135 q = 1) (σ := σ) ) (kV_X6_goes hts qM_X6_83 ⟨by decide, by decide⟩) (rc_X6 G) rfl rfl hl.1 rfl (Nat.le_of_ble_eq_true rfl) dX6_goBack_30 ⟨Nat.le_refl _, Nat.le_refl _⟩ (fun H locs G => ?_)
      refine r_zne (tgt := 38) hx hb dX6_goBack_33 (by decide) (fun h_5 => ?_) (fun h_5 => ?_)
      · skip
        have hPQ := h_5
        have G := G.cong (τ := up σ 133 3 0) (by rw [if_pos hPQ.1, if_pos hPQ.2])
        refine lv_aload_n hx hb dX6_goBack_38 rfl (lv_at hl 0 rfl) ?_
        refine r_callVV ⟨hx, hb, hml, hown, hts⟩ G (k_X6_saves l (σ := up σ 133 3 0) (⟨by simp [up_ap]; omega, by simp [up_ap]; omega⟩)) (kV_X6_saves hts qM_X6_87 ⟨by decide, by decide⟩) (rc_X6 G) rfl rfl hl.1 rfl (Nat.le_of_ble_eq_true rfl) dX6_goBack_39 ⟨Nat.le_refl _, Nat.le_refl _⟩ (fun H locs G => ?_)
        have G := G.cong (τ := goM σ) (rfl)
        refine lv_aload_n hx hb dX6_goBack_42 rfl (lv_at hl 0 rfl) ?_
        refine r_bipush hx hb dX6_goBack_43 (by decide +kernel) ?_
        refine lv_iload_n hx hb dX6_goBack_45 rfl (lv_at hl 1 rfl) ?_
        refine r_iadd hx hb dX6_goBack_46 ?_
        refine r_iconst hx hb dX6_goBack_47 ?_
        refine r_callVV ⟨hx, hb, hml, hown, hts⟩ G (k_X6_copies l (f := 7 + q) (t := 0) (σ := goM σ) (⟨by omega, by omega⟩) (⟨by omega, by omega⟩)) (kV_X6_copies hts qM_X6_28 ⟨by decide, by decide⟩) (rc_X6 G) rfl rfl hl.1 rfl (Nat.le_of_ble_eq_true rfl) dX6_goBack_48 ⟨Nat.le_refl _, Nat.le_refl _⟩ (fun H locs G => ?_)
        refine lv_aload_n hx hb dX6_goBack_51 rfl (lv_at hl 0 rfl) ?_
        refine gf_X6_7 hx hb hts hown G dX6_goBack_52 ?_
        refine r_iconst hx hb dX6_goBack_55 ?_
        refine r_iald hx hb G 134 (by decide) (N := 2910) (fun _ => rfl) (by omega) (by omega) (by decide) dX6_goBack_56 ?_
        refine r_top (b := σ 134 (3 + 291 * (7 + q))) (by rw [sgc_in (by omega)]; exact goM_7 hs (by omega)) ?_
        exact r_iret hx hb hr hlk G (by first | exact (if_neg hPQ).symm | exact (if_pos hPQ).symm) (by first | exact (if_neg hPQ).symm | exact (if_pos hPQ).symm) dX6_goBack_57
      · skip
        have hPQ := h_5
        refine r_iconst hx hb dX6_goBack_36 ?_
        exact r_iret hx hb hr hlk G (by first | exact (if_neg hPQ).symm | exact (if_pos hPQ).symm) (by first | exact (if_neg hPQ).symm | exact (if_pos hPQ).symm) dX6_goBack_37
set_option maxRecDepth 100000 in
set_option maxHeartbeats 4000000 in
theorem k_X6_undo (l : Launch) {σ : Mem} (hs : 0 ≤ σ 133 1 ∧ σ 133 1 ≤ 6) : CtI l yX6_undo (Cond.code yX6_undo cX6_undo 1 (some .int)) 1 23 (fun z => [.ref (z + 133)]) σ (if 0 < σ 133 1 ∧ True then σ 133 1 - 1 else 0) (if 0 < σ 133 1 ∧ True then up (sgc (up σ 133 3 0) (σ 133 1) 0 291) 133 1 (σ 133 1 - 1) else up σ 133 3 (if 0 < σ 133 1 then (if True then 0 else 2) else 1)) := by
  intro D T z
  refine Ct_of (by decide) (Nat.le_of_ble_eq_true rfl) ?_
  intro p e s m below meth c ls hx hb hml hr hts hown hlk G hl
  have hown : s.vm.findClass RX6 = some m.cls := hown
  have hl : lv_has ls 1 [(0, .ref (z + 133))] := hl
  refine lv_aload_n hx hb dX6_undo_0 rfl (lv_at hl 0 rfl) ?_
  refine lv_aload_n hx hb dX6_undo_1 rfl (lv_at hl 0 rfl) ?_
  refine gf_X6_25 hx hb hts hown G dX6_undo_2 ?_
  refine r_if_le (tgt := 12) hx hb ⟨by omega, by omega⟩ dX6_undo_5 (by decide) (fun h_1 => ?_) (fun h_1 => ?_)
  · skip
    refine r_iconst hx hb dX6_undo_12 ?_
    refine r_top (b := bz (0 < σ 133 1)) (by first | exact one_bz (by omega) | exact zero_bz (by omega)) ?_
    skip
    refine r_iconst hx hb dX6_undo_13 ?_
    refine r_callVI ⟨hx, hb, hml, hown, hts⟩ G (k_X6_goes l (P := 0 < σ 133 1) (Q := True) (σ := σ) ) (kV_X6_goes hts qM_X6_83 ⟨by decide, by decide⟩) (rc_X6 G) rfl rfl hl.1 rfl (Nat.le_of_ble_eq_true rfl) dX6_undo_14 ⟨Nat.le_refl _, Nat.le_refl _⟩ (fun H locs G => ?_)
    refine r_zne (tgt := 22) hx hb dX6_undo_17 (by decide) (fun h_2 => ?_) (fun h_2 => ?_)
    · skip
      have hPQ := h_2
      have G := G.cong (τ := up σ 133 3 0) (by rw [if_pos hPQ.1, if_pos hPQ.2])
      refine lv_aload_n hx hb dX6_undo_22 rfl (lv_at hl 0 rfl) ?_
      refine lv_aload_n hx hb dX6_undo_23 rfl (lv_at hl 0 rfl) ?_
      refine gf_X6_25 hx hb hts hown G dX6_undo_24 ?_
      refine r_top (b := σ 133 1) (by simp [up_ap]) ?_
      refine r_iconst hx hb dX6_undo_27 ?_
      refine r_callVV ⟨hx, hb, hml, hown, hts⟩ G (k_X6_copies l (f := σ 133 1) (t := 0) (σ := up σ 133 3 0) (⟨by omega, by omega⟩) (⟨by omega, by omega⟩)) (kV_X6_copies hts qM_X6_28 ⟨by decide, by decide⟩) (rc_X6 G) rfl rfl hl.1 rfl (Nat.le_of_ble_eq_true rfl) dX6_undo_28 ⟨Nat.le_refl _, Nat.le_refl _⟩ (fun H locs G => ?_)
      refine lv_aload_n hx hb dX6_undo_31 rfl (lv_at hl 0 rfl) ?_
      refine lv_dup hx hb dX6_undo_32 rfl ?_
      refine gf_X6_25 hx hb hts hown G dX6_undo_33 ?_
      refine r_top (b := σ 133 1) (by simp [sgc, up_ap]) ?_
      refine r_iconst hx hb dX6_undo_36 ?_
      refine r_isub hx hb dX6_undo_37 ?_
      refine pf_X6_25 hx hb hts hown G dX6_undo_38 (fun H locs G => ?_)
      refine lv_aload_n hx hb dX6_undo_41 rfl (lv_at hl 0 rfl) ?_
      refine gf_X6_25 hx hb hts hown G dX6_undo_42 ?_
      refine r_top (b := σ 133 1 - 1) (by simp [up_ap]) ?_
      exact r_iret hx hb hr hlk G (by first | exact (if_neg hPQ).symm | exact (if_pos hPQ).symm) (by first | exact (if_neg hPQ).symm | exact (if_pos hPQ).symm) dX6_undo_45
    · skip
      have hPQ := h_2
      refine r_iconst hx hb dX6_undo_20 ?_
      exact r_iret hx hb hr hlk G (by first | exact (if_neg hPQ).symm | exact (if_pos hPQ).symm) (by first | exact (if_neg hPQ).symm | exact (if_pos hPQ).symm) dX6_undo_21
  · skip
    refine r_iconst hx hb dX6_undo_8 ?_
    refine lv_goto (tgt := 13) hx hb dX6_undo_9 (by decide) ?_
    refine r_top (b := bz (0 < σ 133 1)) (by first | exact one_bz (by omega) | exact zero_bz (by omega)) ?_
    skip
    refine r_iconst hx hb dX6_undo_13 ?_
    refine r_callVI ⟨hx, hb, hml, hown, hts⟩ G (k_X6_goes l (P := 0 < σ 133 1) (Q := True) (σ := σ) ) (kV_X6_goes hts qM_X6_83 ⟨by decide, by decide⟩) (rc_X6 G) rfl rfl hl.1 rfl (Nat.le_of_ble_eq_true rfl) dX6_undo_14 ⟨Nat.le_refl _, Nat.le_refl _⟩ (fun H locs G => ?_)
    refine r_zne (tgt := 22) hx hb dX6_undo_17 (by decide) (fun h_3 => ?_) (fun h_3 => ?_)
    · skip
      have hPQ := h_3
      have G := G.cong (τ := up σ 133 3 0) (by rw [if_pos hPQ.1, if_pos hPQ.2])
      refine lv_aload_n hx hb dX6_undo_22 rfl (lv_at hl 0 rfl) ?_
      refine lv_aload_n hx hb dX6_undo_23 rfl (lv_at hl 0 rfl) ?_
      refine gf_X6_25 hx hb hts hown G dX6_undo_24 ?_
      refine r_top (b := σ 133 1) (by simp [up_ap]) ?_
      refine r_iconst hx hb dX6_undo_27 ?_
      refine r_callVV ⟨hx, hb, hml, hown, hts⟩ G (k_X6_copies l (f := σ 133 1) (t := 0) (σ := up σ 133 3 0) (⟨by omega, by omega⟩) (⟨by omega, by omega⟩)) (kV_X6_copies hts qM_X6_28 ⟨by decide, by decide⟩) (rc_X6 G) rfl rfl hl.1 rfl (Nat.le_of_ble_eq_true rfl) dX6_undo_28 ⟨Nat.le_refl _, Nat.le_refl _⟩ (fun H locs G => ?_)
      refine lv_aload_n hx hb dX6_undo_31 rfl (lv_at hl 0 rfl) ?_
      refine lv_dup hx hb dX6_undo_32 rfl ?_
      refine gf_X6_25 hx hb hts hown G dX6_undo_33 ?_
      refine r_top (b := σ 133 1) (by simp [sgc, up_ap]) ?_
      refine r_iconst hx hb dX6_undo_36 ?_
      refine r_isub hx hb dX6_undo_37 ?_
      refine pf_X6_25 hx hb hts hown G dX6_undo_38 (fun H locs G => ?_)
      refine lv_aload_n hx hb dX6_undo_41 rfl (lv_at hl 0 rfl) ?_
      refine gf_X6_25 hx hb hts hown G dX6_undo_42 ?_
      refine r_top (b := σ 133 1 - 1) (by simp [up_ap]) ?_
      exact r_iret hx hb hr hlk G (by first | exact (if_neg hPQ).symm | exact (if_pos hPQ).symm) (by first | exact (if_neg hPQ).symm | exact (if_pos hPQ).symm) dX6_undo_45
    · skip
      have hPQ := h_3
      refine r_iconst hx hb dX6_undo_20 ?_
      exact r_iret hx hb hr hlk G (by first | exact (if_neg hPQ).symm | exact (if_pos hPQ).symm) (by first | exact (if_neg hPQ).symm | exact (if_pos hPQ).symm) dX6_undo_21
