set_option maxRecDepth 100000 in
set_option maxHeartbeats 4000000 in
theorem k_X3_statusOf (l : Launch) {σ : Mem} {k y : Int} (hk : 0 ≤ k ∧ k < 4) (hy : 0 ≤ y ∧ y < 16) : CtI l yX3_statusOf (Cond.code yX3_statusOf cX3_statusOf 3 (some .int)) 0 0 (fun z => [.ref (z + 2), .int (kI k), .int (kI y)]) σ (σ 4 (k * 16 + y)) σ := by
  intro D T z
  refine Ct_of (by decide) (Nat.le_of_ble_eq_true rfl) ?_
  intro p e s m below meth c ls hx hb hml hr hts hown hlk G hl
  have hown : s.vm.findClass RX3 = some m.cls := hown
  have hl : lv_has ls 3 [(0, .ref (z + 2)), (1, .int (kI k)), (2, .int (kI y))] := hl
  refine lv_aload_n hx hb dX3_statusOf_0 rfl (lv_at hl 0 rfl) ?_
  refine gf_X3_15 hx hb hts hown G dX3_statusOf_1 ?_
  refine lv_iload_n hx hb dX3_statusOf_4 rfl (lv_at hl 1 rfl) ?_
  refine r_bipush hx hb dX3_statusOf_5 (by decide +kernel) ?_
  refine r_imul hx hb dX3_statusOf_7 ?_
  refine lv_iload_n hx hb dX3_statusOf_8 rfl (lv_at hl 2 rfl) ?_
  refine r_iadd hx hb dX3_statusOf_9 ?_
  refine r_iald hx hb G 4 (by decide) (N := 64) (fun _ => rfl) (by omega) (by omega) (by decide) dX3_statusOf_10 ?_
  exact r_iret hx hb hr hlk G (by first | rfl | omega) (by rfl) dX3_statusOf_11
set_option maxRecDepth 100000 in
set_option maxHeartbeats 4000000 in
theorem k_X3_roundOf (l : Launch) {σ : Mem} {k y : Int} (hk : 0 ≤ k ∧ k < 4) (hy : 0 ≤ y ∧ y < 16) : CtI l yX3_roundOf (Cond.code yX3_roundOf cX3_roundOf 3 (some .int)) 0 0 (fun z => [.ref (z + 2), .int (kI k), .int (kI y)]) σ (σ 5 (k * 16 + y)) σ := by
  intro D T z
  refine Ct_of (by decide) (Nat.le_of_ble_eq_true rfl) ?_
  intro p e s m below meth c ls hx hb hml hr hts hown hlk G hl
  have hown : s.vm.findClass RX3 = some m.cls := hown
  have hl : lv_has ls 3 [(0, .ref (z + 2)), (1, .int (kI k)), (2, .int (kI y))] := hl
  refine lv_aload_n hx hb dX3_roundOf_0 rfl (lv_at hl 0 rfl) ?_
  refine gf_X3_18 hx hb hts hown G dX3_roundOf_1 ?_
  refine lv_iload_n hx hb dX3_roundOf_4 rfl (lv_at hl 1 rfl) ?_
  refine r_bipush hx hb dX3_roundOf_5 (by decide +kernel) ?_
  refine r_imul hx hb dX3_roundOf_7 ?_
  refine lv_iload_n hx hb dX3_roundOf_8 rfl (lv_at hl 2 rfl) ?_
  refine r_iadd hx hb dX3_roundOf_9 ?_
  refine r_iald hx hb G 5 (by decide) (N := 64) (fun _ => rfl) (by omega) (by omega) (by decide) dX3_roundOf_10 ?_
  exact r_iret hx hb hr hlk G (by first | rfl | omega) (by rfl) dX3_roundOf_11
set_option maxRecDepth 100000 in
set_option maxHeartbeats 4000000 in
theorem k_X3_daysLain (l : Launch) {σ : Mem} {k y : Int} (hk : 0 ≤ k ∧ k < 4) (hy : 0 ≤ y ∧ y < 16) : CtI l yX3_daysLain (Cond.code yX3_daysLain cX3_daysLain 3 (some .int)) 0 0 (fun z => [.ref (z + 2), .int (kI k), .int (kI y)]) σ (σ 2 0 - σ 7 (k * 16 + y)) σ := by
  intro D T z
  refine Ct_of (by decide) (Nat.le_of_ble_eq_true rfl) ?_
  intro p e s m below meth c ls hx hb hml hr hts hown hlk G hl
  have hown : s.vm.findClass RX3 = some m.cls := hown
  have hl : lv_has ls 3 [(0, .ref (z + 2)), (1, .int (kI k)), (2, .int (kI y))] := hl
  refine lv_aload_n hx hb dX3_daysLain_0 rfl (lv_at hl 0 rfl) ?_
  refine gf_X3_27 hx hb hts hown G dX3_daysLain_1 ?_
  refine lv_aload_n hx hb dX3_daysLain_4 rfl (lv_at hl 0 rfl) ?_
  refine gf_X3_24 hx hb hts hown G dX3_daysLain_5 ?_
  refine lv_iload_n hx hb dX3_daysLain_8 rfl (lv_at hl 1 rfl) ?_
  refine r_bipush hx hb dX3_daysLain_9 (by decide +kernel) ?_
  refine r_imul hx hb dX3_daysLain_11 ?_
  refine lv_iload_n hx hb dX3_daysLain_12 rfl (lv_at hl 2 rfl) ?_
  refine r_iadd hx hb dX3_daysLain_13 ?_
  refine r_iald hx hb G 7 (by decide) (N := 64) (fun _ => rfl) (by omega) (by omega) (by decide) dX3_daysLain_14 ?_
  refine r_isub hx hb dX3_daysLain_15 ?_
  exact r_iret hx hb hr hlk G (by first | rfl | omega) (by rfl) dX3_daysLain_16
set_option maxRecDepth 100000 in
set_option maxHeartbeats 4000000 in
theorem k_X3_daysToRipe (l : Launch) {σ : Mem} {k y : Int} (hk : 0 ≤ k ∧ k < 4) (hy : 0 ≤ y ∧ y < 16) (hI : IC σ) : CtI l yX3_daysToRipe (Cond.code yX3_daysToRipe cX3_daysToRipe 3 (some .int)) 1 22 (fun z => [.ref (z + 2), .int (kI k), .int (kI y)]) σ (dtr σ k y) σ := by
  intro D T z
  refine Ct_of (by decide) (Nat.le_of_ble_eq_true rfl) ?_
  intro p e s m below meth c ls hx hb hml hr hts hown hlk G hl
  have hown : s.vm.findClass RX3 = some m.cls := hown
  have hl : lv_has ls 3 [(0, .ref (z + 2)), (1, .int (kI k)), (2, .int (kI y))] := hl
  have hi := hI.2.2 (k * 16 + y) (by omega) (by omega)
  have hd := hI.1
  have hs := hI.2.1 k hk.1 hk.2
  refine r_iconst hx hb dX3_daysToRipe_0 ?_
  refine lv_aload_n hx hb dX3_daysToRipe_1 rfl (lv_at hl 0 rfl) ?_
  refine gf_X3_9 hx hb hts hown G dX3_daysToRipe_2 ?_
  refine lv_iload_n hx hb dX3_daysToRipe_5 rfl (lv_at hl 1 rfl) ?_
  refine r_iald hx hb G 3 (by decide) (N := 4) (fun _ => rfl) (by omega) (by omega) (by decide) dX3_daysToRipe_6 ?_
  refine lv_aload_n hx hb dX3_daysToRipe_7 rfl (lv_at hl 0 rfl) ?_
  refine lv_iload_n hx hb dX3_daysToRipe_8 rfl (lv_at hl 1 rfl) ?_
  refine lv_iload_n hx hb dX3_daysToRipe_9 rfl (lv_at hl 2 rfl) ?_
  refine r_callVI ⟨hx, hb, hml, hown, hts⟩ G (k_X3_daysLain l (k := k) (y := y) (σ := σ) (by omega) (by omega)) (kV_X3_daysLain hts qM_X3_37 ⟨by decide, by decide⟩) (rc_X3 G) rfl rfl hl.1 rfl (Nat.le_of_ble_eq_true rfl) dX3_daysToRipe_10 ⟨Nat.le_refl _, Nat.le_refl _⟩ (fun H locs G => ?_)
  refine r_isub hx hb dX3_daysToRipe_13 ?_
  refine r_max ⟨hx, hb, hml, hown, hts⟩ hl.1 qM_X3_41 ⟨Nat.le_of_ble_eq_true rfl, Nat.le_of_ble_eq_true rfl⟩ ⟨Nat.le_refl _, Nat.le_refl _⟩ ⟨by decide, by decide⟩ ⟨by omega, by omega⟩ dX3_daysToRipe_14 ?_
  exact r_iret hx hb hr hlk G (by rfl) (by rfl) dX3_daysToRipe_17
set_option maxRecDepth 100000 in
set_option maxHeartbeats 4000000 in
theorem k_X3_isRipe (l : Launch) {σ : Mem} {k y : Int} (hk : 0 ≤ k ∧ k < 4) (hy : 0 ≤ y ∧ y < 16) (hI : IC σ) : CtI l yX3_isRipe (Cond.code yX3_isRipe cX3_isRipe 4 (some .boolean)) 0 0 (fun z => [.ref (z + 2), .int (kI k), .int (kI y)]) σ (bz (ripe σ k y)) σ := by
  intro D T z
  refine Ct_of (by decide) (Nat.le_of_ble_eq_true rfl) ?_
  intro p e s m below meth c ls hx hb hml hr hts hown hlk G hl
  have hown : s.vm.findClass RX3 = some m.cls := hown
  have hl : lv_has ls 4 [(0, .ref (z + 2)), (1, .int (kI k)), (2, .int (kI y))] := hl
  have hi := hI.2.2 (k * 16 + y) (by omega) (by omega)
  have hd := hI.1
  have hs := hI.2.1 k hk.1 hk.2
  refine lv_iload_n hx hb dX3_isRipe_0 rfl (lv_at hl 1 rfl) ?_
  refine r_bipush hx hb dX3_isRipe_1 (by decide +kernel) ?_
  refine r_imul hx hb dX3_isRipe_3 ?_
  refine lv_iload_n hx hb dX3_isRipe_4 rfl (lv_at hl 2 rfl) ?_
  refine r_iadd hx hb dX3_isRipe_5 ?_
  refine lv_istore_n (lv' := [(3, .int (kI (k * 16 + y))), (0, .ref (z + 2)), (1, .int (kI k)), (2, .int (kI y))]) hx hb dX3_isRipe_6 rfl hl (by decide) rfl (fun ls hl => ?_)
  refine lv_aload_n hx hb dX3_isRipe_7 rfl (lv_at hl 1 rfl) ?_
  refine gf_X3_15 hx hb hts hown G dX3_isRipe_8 ?_
  refine lv_iload_n hx hb dX3_isRipe_11 rfl (lv_at hl 0 rfl) ?_
  refine r_iald hx hb G 4 (by decide) (N := 64) (fun _ => rfl) (by omega) (by omega) (by decide) dX3_isRipe_12 ?_
  refine r_iconst hx hb dX3_isRipe_13 ?_
  refine r_icmp_ne (tgt := 41) hx hb ⟨by omega, by omega⟩ ⟨by decide, by decide⟩ dX3_isRipe_14 (by decide) (fun h_1 => ?_) (fun h_1 => ?_)
  · skip
    refine r_iconst hx hb dX3_isRipe_41 ?_
    exact r_zret hx hb hr hlk G (Or.inl rfl) (by first | exact one_bz (by omega) | exact zero_bz (by omega)) (by rfl) dX3_isRipe_42
  · skip
    refine lv_aload_n hx hb dX3_isRipe_17 rfl (lv_at hl 1 rfl) ?_
    refine gf_X3_27 hx hb hts hown G dX3_isRipe_18 ?_
    refine lv_aload_n hx hb dX3_isRipe_21 rfl (lv_at hl 1 rfl) ?_
    refine gf_X3_24 hx hb hts hown G dX3_isRipe_22 ?_
    refine lv_iload_n hx hb dX3_isRipe_25 rfl (lv_at hl 0 rfl) ?_
    refine r_iald hx hb G 7 (by decide) (N := 64) (fun _ => rfl) (by omega) (by omega) (by decide) dX3_isRipe_26 ?_
    refine r_isub hx hb dX3_isRipe_27 ?_
    refine lv_aload_n hx hb dX3_isRipe_28 rfl (lv_at hl 1 rfl) ?_
    refine gf_X3_9 hx hb hts hown G dX3_isRipe_29 ?_
    refine lv_iload_n hx hb dX3_isRipe_32 rfl (lv_at hl 2 rfl) ?_
    refine r_iald hx hb G 3 (by decide) (N := 4) (fun _ => rfl) (by omega) (by omega) (by decide) dX3_isRipe_33 ?_
    refine r_icmp_lt (tgt := 41) hx hb ⟨by omega, by omega⟩ ⟨by omega, by omega⟩ dX3_isRipe_34 (by decide) (fun h_2 => ?_) (fun h_2 => ?_)
    · skip
      refine r_iconst hx hb dX3_isRipe_41 ?_
      exact r_zret hx hb hr hlk G (Or.inl rfl) (by first | exact one_bz (by omega) | exact zero_bz (by omega)) (by rfl) dX3_isRipe_42
    · skip
      refine r_iconst hx hb dX3_isRipe_37 ?_
      refine lv_goto (tgt := 42) hx hb dX3_isRipe_38 (by decide) ?_
      exact r_zret hx hb hr hlk G (Or.inr rfl) (by first | exact one_bz (by omega) | exact zero_bz (by omega)) (by rfl) dX3_isRipe_42
set_option maxRecDepth 100000 in
set_option maxHeartbeats 4000000 in
theorem k_X3_canBeGiven (l : Launch) {σ : Mem} {k y : Int} (hk : 0 ≤ k ∧ k < 4) (hy : 0 ≤ y ∧ y < 16) (hI : IC σ) : CtI l yX3_canBeGiven (Cond.code yX3_canBeGiven cX3_canBeGiven 3 (some .boolean)) 1 23 (fun z => [.ref (z + 2), .int (kI k), .int (kI y)]) σ (bz (cbg σ k y)) σ := by
  intro D T z
  refine Ct_of (by decide) (Nat.le_of_ble_eq_true rfl) ?_
  intro p e s m below meth c ls hx hb hml hr hts hown hlk G hl
  have hown : s.vm.findClass RX3 = some m.cls := hown
  have hl : lv_has ls 3 [(0, .ref (z + 2)), (1, .int (kI k)), (2, .int (kI y))] := hl
  have hi := hI.2.2 (k * 16 + y) (by omega) (by omega)
  have hd := hI.1
  have hs := hI.2.1 k hk.1 hk.2
  refine lv_aload_n hx hb dX3_canBeGiven_0 rfl (lv_at hl 0 rfl) ?_
  refine lv_iload_n hx hb dX3_canBeGiven_1 rfl (lv_at hl 1 rfl) ?_
  refine lv_iload_n hx hb dX3_canBeGiven_2 rfl (lv_at hl 2 rfl) ?_
  refine r_callVI ⟨hx, hb, hml, hown, hts⟩ G (k_X3_statusOf l (k := k) (y := y) (σ := σ) (by omega) (by omega)) (kV_X3_statusOf hts qM_X3_46 ⟨by decide, by decide⟩) (rc_X3 G) rfl rfl hl.1 rfl (Nat.le_of_ble_eq_true rfl) dX3_canBeGiven_3 ⟨Nat.le_refl _, Nat.le_refl _⟩ (fun H locs G => ?_)
  refine r_if_eq (tgt := 18) hx hb ⟨by omega, by omega⟩ dX3_canBeGiven_6 (by decide) (fun h_1 => ?_) (fun h_1 => ?_)
  · skip
    refine r_iconst hx hb dX3_canBeGiven_18 ?_
    refine lv_goto (tgt := 23) hx hb dX3_canBeGiven_19 (by decide) ?_
    exact r_zret hx hb hr hlk G (Or.inr rfl) (by first | exact one_bz (by omega) | exact zero_bz (by omega)) (by rfl) dX3_canBeGiven_23
  · skip
    refine lv_aload_n hx hb dX3_canBeGiven_9 rfl (lv_at hl 0 rfl) ?_
    refine lv_iload_n hx hb dX3_canBeGiven_10 rfl (lv_at hl 1 rfl) ?_
    refine lv_iload_n hx hb dX3_canBeGiven_11 rfl (lv_at hl 2 rfl) ?_
    refine r_callVI ⟨hx, hb, hml, hown, hts⟩ G (k_X3_isRipe l (k := k) (y := y) (σ := σ) (by omega) (by omega) (hI)) (kV_X3_isRipe hts qM_X3_49 ⟨by decide, by decide⟩) (rc_X3 G) rfl rfl hl.1 rfl (Nat.le_of_ble_eq_true rfl) dX3_canBeGiven_12 ⟨Nat.le_refl _, Nat.le_refl _⟩ (fun H locs G => ?_)
    refine r_zeq (tgt := 22) hx hb dX3_canBeGiven_15 (by decide) (fun h_2 => ?_) (fun h_2 => ?_)
    · skip
      refine r_iconst hx hb dX3_canBeGiven_22 ?_
      exact r_zret hx hb hr hlk G (Or.inl rfl) (by first | exact one_bz (by omega) | exact zero_bz (by omega)) (by rfl) dX3_canBeGiven_23
    · skip
      refine r_iconst hx hb dX3_canBeGiven_18 ?_
      refine lv_goto (tgt := 23) hx hb dX3_canBeGiven_19 (by decide) ?_
      exact r_zret hx hb hr hlk G (Or.inr rfl) (by first | exact one_bz (by omega) | exact zero_bz (by omega)) (by rfl) dX3_canBeGiven_23
set_option maxRecDepth 100000 in
set_option maxHeartbeats 4000000 in
theorem k_X3_takeOut (l : Launch) {σ : Mem} {k y : Int} (hk : 0 ≤ k ∧ k < 4) (hy : 0 ≤ y ∧ y < 16) (hI : IC σ) : CtV l yX3_takeOut (Cond.code yX3_takeOut cX3_takeOut 5 none) 0 0 (fun z => [.ref (z + 2), .int (kI k), .int (kI y)]) σ (tko σ k y) := by
  intro D T z
  refine Ct_of (by decide) (Nat.le_of_ble_eq_true rfl) ?_
  intro p e s m below meth c ls hx hb hml hr hts hown hlk G hl
  have hown : s.vm.findClass RX3 = some m.cls := hown
  have hl : lv_has ls 5 [(0, .ref (z + 2)), (1, .int (kI k)), (2, .int (kI y))] := hl
  have hi := hI.2.2 (k * 16 + y) (by omega) (by omega)
  refine lv_iload_n hx hb dX3_takeOut_0 rfl (lv_at hl 1 rfl) ?_
  refine r_bipush hx hb dX3_takeOut_1 (by decide +kernel) ?_
  refine r_imul hx hb dX3_takeOut_3 ?_
  refine lv_iload_n hx hb dX3_takeOut_4 rfl (lv_at hl 2 rfl) ?_
  refine r_iadd hx hb dX3_takeOut_5 ?_
  refine lv_istore_n (lv' := [(3, .int (kI (k * 16 + y))), (0, .ref (z + 2)), (1, .int (kI k)), (2, .int (kI y))]) hx hb dX3_takeOut_6 rfl hl (by decide) rfl (fun ls hl => ?_)
  refine lv_aload_n hx hb dX3_takeOut_7 rfl (lv_at hl 1 rfl) ?_
  refine gf_X3_15 hx hb hts hown G dX3_takeOut_8 ?_
  refine lv_iload_n hx hb dX3_takeOut_11 rfl (lv_at hl 0 rfl) ?_
  refine r_iald hx hb G 4 (by decide) (N := 64) (fun _ => rfl) (by omega) (by omega) (by decide) dX3_takeOut_12 ?_
  refine r_iconst hx hb dX3_takeOut_13 ?_
  refine r_icmp_eq (tgt := 18) hx hb ⟨by omega, by omega⟩ ⟨by decide, by decide⟩ dX3_takeOut_14 (by decide) (fun h_1 => ?_) (fun h_1 => ?_)
  · skip
    have he := h_1
    refine lv_iload_n hx hb dX3_takeOut_18 rfl (lv_at hl 2 rfl) ?_
    refine r_bipush hx hb dX3_takeOut_19 (by decide +kernel) ?_
    refine r_imul hx hb dX3_takeOut_21 ?_
    refine lv_istore (lv' := [(4, .int (kI (k * 16))), (3, .int (kI (k * 16 + y))), (0, .ref (z + 2)), (1, .int (kI k)), (2, .int (kI y))]) hx hb dX3_takeOut_22 hl (by decide) rfl (fun ls hl => ?_)
    have lp24 : ∀ (d : Nat) (i : Int), (k * 16 ≤ i) → (i ≤ k * 16 + 16) → (k * 16 + 16 - i : Int) < (d : Int) → ∀ (H : Heap) (locs : List Loc), Wd D T z 133 (dec6 σ (k * 16) i (σ 6 (k * 16 + y))) s H locs → ∀ (ls : Array Slot), lv_has ls 5 [(0, .ref (z + 2)), (1, .int (kI k)), (2, .int (kI y)), (3, .int (kI (k * 16 + y))), (4, .int (kI i))] → W p l e (rmN 0 0) s m ([.ref (z + 2), .int (kI k), .int (kI y)] : List Value).toArray below meth c H locs 0 0 (MQ below (QV D T z 133 (tko σ k y)) ([.ref (z + 2), .int (kI k), .int (kI y)] : List Value).toArray s 0 0 (Own T z)) (F0 m 24 ls []) := by
      intro d
      induction d with
      | zero => intro i h0 h1 hd; exact absurd hd (by omega)
      | succ d ih24 =>
        intro i h0 h1 hd H locs G ls hl
        have hj : i < k * 16 + 16 → inR (σ 6 i) := fun h => (hI.2.2 i (by omega) (by omega)).2.2.1
        refine lv_iload hx hb dX3_takeOut_24 (lv_at hl 4 rfl) ?_
        refine lv_iload_n hx hb dX3_takeOut_26 rfl (lv_at hl 1 rfl) ?_
        refine r_iconst hx hb dX3_takeOut_27 ?_
        refine r_iadd hx hb dX3_takeOut_28 ?_
        refine r_bipush hx hb dX3_takeOut_29 (by decide +kernel) ?_
        refine r_imul hx hb dX3_takeOut_31 ?_
        refine r_icmp_ge (tgt := 68) hx hb ⟨by omega, by omega⟩ ⟨by omega, by omega⟩ dX3_takeOut_32 (by decide) (fun h_2 => ?_) (fun h_2 => ?_)
        · skip
          exact r_vret hx hb hr hlk G (by unfold tko; rw [if_pos he, show i = k * 16 + 16 by omega]) dX3_takeOut_68
        · skip
          refine lv_aload_n hx hb dX3_takeOut_35 rfl (lv_at hl 0 rfl) ?_
          refine gf_X3_21 hx hb hts hown G dX3_takeOut_36 ?_
          refine lv_iload hx hb dX3_takeOut_39 (lv_at hl 4 rfl) ?_
          refine r_iald hx hb G 6 (by decide) (N := 64) (fun _ => rfl) (by omega) (by omega) (by decide) dX3_takeOut_41 ?_
          refine r_top (b := σ 6 i) (dec6_at (Int.le_refl _)) ?_
          refine lv_aload_n hx hb dX3_takeOut_42 rfl (lv_at hl 0 rfl) ?_
          refine gf_X3_21 hx hb hts hown G dX3_takeOut_43 ?_
          refine lv_iload_n hx hb dX3_takeOut_46 rfl (lv_at hl 3 rfl) ?_
          refine r_iald hx hb G 6 (by decide) (N := 64) (fun _ => rfl) (by omega) (by omega) (by decide) dX3_takeOut_47 ?_
          refine r_top (b := σ 6 (k * 16 + y)) (dec6_own) ?_
          refine r_icmp_le (tgt := 62) hx hb ⟨by omega, by omega⟩ ⟨by omega, by omega⟩ dX3_takeOut_48 (by decide) (fun h_3 => ?_) (fun h_3 => ?_)
          · skip
            have G := G.cong (τ := dec6 σ (k * 16) (i + 1) (σ 6 (k * 16 + y))) (dec6_n (by omega))
            refine r_iinc (lv' := [(4, .int (kI (i + 1))), (0, .ref (z + 2)), (1, .int (kI k)), (2, .int (kI y)), (3, .int (kI (k * 16 + y)))]) hx hb dX3_takeOut_62 hl (k := 4) rfl (by decide) rfl (fun ls hl => ?_)
            refine lv_goto (tgt := 24) hx hb dX3_takeOut_65 (by decide) ?_
            exact ih24 (i + 1) (by omega) (by omega) (by omega) _ _ G _ (lv_sub hl [1, 2, 3, 4, 0] rfl)
          · skip
            refine lv_aload_n hx hb dX3_takeOut_51 rfl (lv_at hl 0 rfl) ?_
            refine gf_X3_21 hx hb hts hown G dX3_takeOut_52 ?_
            refine lv_iload hx hb dX3_takeOut_55 (lv_at hl 4 rfl) ?_
            refine lv_dup2_11 hx hb dX3_takeOut_57 rfl rfl ?_
            refine r_iald hx hb G 6 (by decide) (N := 64) (fun _ => rfl) (by omega) (by omega) (by decide) dX3_takeOut_58 ?_
            refine r_top (b := σ 6 i) (dec6_at (Int.le_refl _)) ?_
            refine r_iconst hx hb dX3_takeOut_59 ?_
            refine r_isub hx hb dX3_takeOut_60 ?_
            refine r_topk (b := wr (σ 6 i - 1)) (kI_wr _).symm ?_
            refine r_iast hx hb G 6 (by decide) (N := 64) (fun _ => rfl) (by omega) (by omega) (by decide) dX3_takeOut_61 (fun H locs G => ?_)
            have G := G.cong (τ := dec6 σ (k * 16) (i + 1) (σ 6 (k * 16 + y))) (dec6_s (by omega) (by omega))
            refine r_iinc (lv' := [(4, .int (kI (i + 1))), (0, .ref (z + 2)), (1, .int (kI k)), (2, .int (kI y)), (3, .int (kI (k * 16 + y)))]) hx hb dX3_takeOut_62 hl (k := 4) rfl (by decide) rfl (fun ls hl => ?_)
            refine lv_goto (tgt := 24) hx hb dX3_takeOut_65 (by decide) ?_
            exact ih24 (i + 1) (by omega) (by omega) (by omega) _ _ G _ (lv_sub hl [1, 2, 3, 4, 0] rfl)
    have G := G.cong (dec6_0 (σ := σ) (a := k * 16) (q := σ 6 (k * 16 + y))).symm
    exact lp24 17 (k * 16) (by omega) (by omega) (by omega) _ _ G _ (lv_sub hl [2, 3, 4, 1, 0] rfl)
  · skip
    have he := h_1
    exact r_vret hx hb hr hlk G (by unfold tko; rw [if_neg he]) dX3_takeOut_17
set_option maxRecDepth 100000 in
set_option maxHeartbeats 4000000 in
theorem k_X3_give (l : Launch) {σ : Mem} {k y : Int} (hk : 0 ≤ k ∧ k < 4) (hy : 0 ≤ y ∧ y < 16) (hI : IC σ) : CtV l yX3_give (Cond.code yX3_give cX3_give 3 none) 1 24 (fun z => [.ref (z + 2), .int (kI k), .int (kI y)]) σ (giv σ k y) := by
  intro D T z
  refine Ct_of (by decide) (Nat.le_of_ble_eq_true rfl) ?_
  intro p e s m below meth c ls hx hb hml hr hts hown hlk G hl
  have hown : s.vm.findClass RX3 = some m.cls := hown
  have hl : lv_has ls 3 [(0, .ref (z + 2)), (1, .int (kI k)), (2, .int (kI y))] := hl
  refine lv_aload_n hx hb dX3_give_0 rfl (lv_at hl 0 rfl) ?_
  refine lv_iload_n hx hb dX3_give_1 rfl (lv_at hl 1 rfl) ?_
  refine lv_iload_n hx hb dX3_give_2 rfl (lv_at hl 2 rfl) ?_
  refine r_callVV ⟨hx, hb, hml, hown, hts⟩ G (k_X3_takeOut l (k := k) (y := y) (σ := σ) (by omega) (by omega) (hI)) (kV_X3_takeOut hts qM_X3_53 ⟨by decide, by decide⟩) (rc_X3 G) rfl rfl hl.1 rfl (Nat.le_of_ble_eq_true rfl) dX3_give_3 ⟨Nat.le_refl _, Nat.le_refl _⟩ (fun H locs G => ?_)
  refine lv_aload_n hx hb dX3_give_6 rfl (lv_at hl 0 rfl) ?_
  refine gf_X3_18 hx hb hts hown G dX3_give_7 ?_
  refine lv_iload_n hx hb dX3_give_10 rfl (lv_at hl 1 rfl) ?_
  refine r_bipush hx hb dX3_give_11 (by decide +kernel) ?_
  refine r_imul hx hb dX3_give_13 ?_
  refine lv_iload_n hx hb dX3_give_14 rfl (lv_at hl 2 rfl) ?_
  refine r_iadd hx hb dX3_give_15 ?_
  refine lv_dup2_11 hx hb dX3_give_16 rfl rfl ?_
  refine r_iald hx hb G 5 (by decide) (N := 64) (fun _ => rfl) (by omega) (by omega) (by decide) dX3_give_17 ?_
  refine r_top (b := σ 5 (k * 16 + y)) (by rw [tko_o (by decide)]) ?_
  refine r_iconst hx hb dX3_give_18 ?_
  refine r_iadd hx hb dX3_give_19 ?_
  refine r_iast hx hb G 5 (by decide) (N := 64) (fun _ => rfl) (by omega) (by omega) (by decide) dX3_give_20 (fun H locs G => ?_)
  refine lv_aload_n hx hb dX3_give_21 rfl (lv_at hl 0 rfl) ?_
  refine gf_X3_15 hx hb hts hown G dX3_give_22 ?_
  refine lv_iload_n hx hb dX3_give_25 rfl (lv_at hl 1 rfl) ?_
  refine r_bipush hx hb dX3_give_26 (by decide +kernel) ?_
  refine r_imul hx hb dX3_give_28 ?_
  refine lv_iload_n hx hb dX3_give_29 rfl (lv_at hl 2 rfl) ?_
  refine r_iadd hx hb dX3_give_30 ?_
  refine r_iconst hx hb dX3_give_31 ?_
  refine r_iast hx hb G 4 (by decide) (N := 64) (fun _ => rfl) (by omega) (by omega) (by decide) dX3_give_32 (fun H locs G => ?_)
  exact r_vret hx hb hr hlk G (by rfl) dX3_give_33
set_option maxRecDepth 100000 in
set_option maxHeartbeats 4000000 in
theorem k_X3_revive (l : Launch) {σ : Mem} {k y : Int} (hk : 0 ≤ k ∧ k < 4) (hy : 0 ≤ y ∧ y < 16) (hI : IC σ) : CtV l yX3_revive (Cond.code yX3_revive cX3_revive 3 none) 1 24 (fun z => [.ref (z + 2), .int (kI k), .int (kI y)]) σ (rev σ k y) := by
  intro D T z
  refine Ct_of (by decide) (Nat.le_of_ble_eq_true rfl) ?_
  intro p e s m below meth c ls hx hb hml hr hts hown hlk G hl
  have hown : s.vm.findClass RX3 = some m.cls := hown
  have hl : lv_has ls 3 [(0, .ref (z + 2)), (1, .int (kI k)), (2, .int (kI y))] := hl
  refine lv_aload_n hx hb dX3_revive_0 rfl (lv_at hl 0 rfl) ?_
  refine lv_iload_n hx hb dX3_revive_1 rfl (lv_at hl 1 rfl) ?_
  refine lv_iload_n hx hb dX3_revive_2 rfl (lv_at hl 2 rfl) ?_
  refine r_callVV ⟨hx, hb, hml, hown, hts⟩ G (k_X3_takeOut l (k := k) (y := y) (σ := σ) (by omega) (by omega) (hI)) (kV_X3_takeOut hts qM_X3_53 ⟨by decide, by decide⟩) (rc_X3 G) rfl rfl hl.1 rfl (Nat.le_of_ble_eq_true rfl) dX3_revive_3 ⟨Nat.le_refl _, Nat.le_refl _⟩ (fun H locs G => ?_)
  refine lv_aload_n hx hb dX3_revive_6 rfl (lv_at hl 0 rfl) ?_
  refine gf_X3_15 hx hb hts hown G dX3_revive_7 ?_
  refine lv_iload_n hx hb dX3_revive_10 rfl (lv_at hl 1 rfl) ?_
  refine r_bipush hx hb dX3_revive_11 (by decide +kernel) ?_
  refine r_imul hx hb dX3_revive_13 ?_
  refine lv_iload_n hx hb dX3_revive_14 rfl (lv_at hl 2 rfl) ?_
  refine r_iadd hx hb dX3_revive_15 ?_
  refine r_iconst hx hb dX3_revive_16 ?_
  refine r_iast hx hb G 4 (by decide) (N := 64) (fun _ => rfl) (by omega) (by omega) (by decide) dX3_revive_17 (fun H locs G => ?_)
  exact r_vret hx hb hr hlk G (by rfl) dX3_revive_18
set_option maxRecDepth 100000 in
set_option maxHeartbeats 4000000 in
theorem k_X3_wearOut (l : Launch) {σ : Mem} {k y : Int} (hk : 0 ≤ k ∧ k < 4) (hy : 0 ≤ y ∧ y < 16) : CtV l yX3_wearOut (Cond.code yX3_wearOut cX3_wearOut 3 none) 0 0 (fun z => [.ref (z + 2), .int (kI k), .int (kI y)]) σ (up σ 4 (k * 16 + y) 3) := by
  intro D T z
  refine Ct_of (by decide) (Nat.le_of_ble_eq_true rfl) ?_
  intro p e s m below meth c ls hx hb hml hr hts hown hlk G hl
  have hown : s.vm.findClass RX3 = some m.cls := hown
  have hl : lv_has ls 3 [(0, .ref (z + 2)), (1, .int (kI k)), (2, .int (kI y))] := hl
  refine lv_aload_n hx hb dX3_wearOut_0 rfl (lv_at hl 0 rfl) ?_
  refine gf_X3_15 hx hb hts hown G dX3_wearOut_1 ?_
  refine lv_iload_n hx hb dX3_wearOut_4 rfl (lv_at hl 1 rfl) ?_
  refine r_bipush hx hb dX3_wearOut_5 (by decide +kernel) ?_
  refine r_imul hx hb dX3_wearOut_7 ?_
  refine lv_iload_n hx hb dX3_wearOut_8 rfl (lv_at hl 2 rfl) ?_
  refine r_iadd hx hb dX3_wearOut_9 ?_
  refine r_iconst hx hb dX3_wearOut_10 ?_
  refine r_iast hx hb G 4 (by decide) (N := 64) (fun _ => rfl) (by omega) (by omega) (by decide) dX3_wearOut_11 (fun H locs G => ?_)
  exact r_vret hx hb hr hlk G (by rfl) dX3_wearOut_12
set_option maxRecDepth 100000 in
set_option maxHeartbeats 4000000 in
theorem k_X3_layOnTop (l : Launch) {σ : Mem} {k y : Int} (hk : 0 ≤ k ∧ k < 4) (hy : 0 ≤ y ∧ y < 16) : CtV l yX3_layOnTop (Cond.code yX3_layOnTop cX3_layOnTop 4 none) 0 0 (fun z => [.ref (z + 2), .int (kI k), .int (kI y)]) σ (lot σ k y) := by
  intro D T z
  refine Ct_of (by decide) (Nat.le_of_ble_eq_true rfl) ?_
  intro p e s m below meth c ls hx hb hml hr hts hown hlk G hl
  have hown : s.vm.findClass RX3 = some m.cls := hown
  have hl : lv_has ls 4 [(0, .ref (z + 2)), (1, .int (kI k)), (2, .int (kI y))] := hl
  refine lv_iload_n hx hb dX3_layOnTop_0 rfl (lv_at hl 1 rfl) ?_
  refine r_bipush hx hb dX3_layOnTop_1 (by decide +kernel) ?_
  refine r_imul hx hb dX3_layOnTop_3 ?_
  refine lv_istore_n (lv' := [(3, .int (kI (k * 16))), (0, .ref (z + 2)), (1, .int (kI k)), (2, .int (kI y))]) hx hb dX3_layOnTop_4 rfl hl (by decide) rfl (fun ls hl => ?_)
  have lp5 : ∀ (d : Nat) (i : Int), (k * 16 ≤ i) → (i ≤ k * 16 + 16) → (k * 16 + 16 - i : Int) < (d : Int) → ∀ (H : Heap) (locs : List Loc), Wd D T z 133 (inc6 σ (k * 16) i) s H locs → ∀ (ls : Array Slot), lv_has ls 4 [(0, .ref (z + 2)), (1, .int (kI k)), (2, .int (kI y)), (3, .int (kI i))] → W p l e (rmN 0 0) s m ([.ref (z + 2), .int (kI k), .int (kI y)] : List Value).toArray below meth c H locs 0 0 (MQ below (QV D T z 133 (lot σ k y)) ([.ref (z + 2), .int (kI k), .int (kI y)] : List Value).toArray s 0 0 (Own T z)) (F0 m 5 ls []) := by
    intro d
    induction d with
    | zero => intro i h0 h1 hd; exact absurd hd (by omega)
    | succ d ih5 =>
      intro i h0 h1 hd H locs G ls hl
      refine lv_iload_n hx hb dX3_layOnTop_5 rfl (lv_at hl 3 rfl) ?_
      refine lv_iload_n hx hb dX3_layOnTop_6 rfl (lv_at hl 1 rfl) ?_
      refine r_iconst hx hb dX3_layOnTop_7 ?_
      refine r_iadd hx hb dX3_layOnTop_8 ?_
      refine r_bipush hx hb dX3_layOnTop_9 (by decide +kernel) ?_
      refine r_imul hx hb dX3_layOnTop_11 ?_
      refine r_icmp_ge (tgt := 31) hx hb ⟨by omega, by omega⟩ ⟨by omega, by omega⟩ dX3_layOnTop_12 (by decide) (fun h_1 => ?_) (fun h_1 => ?_)
      · skip
        have G := G.cong (τ := inc6 σ (k * 16) (k * 16 + 16)) (by rw [show i = k * 16 + 16 by omega])
        refine lv_iload_n hx hb dX3_layOnTop_31 rfl (lv_at hl 1 rfl) ?_
        refine r_bipush hx hb dX3_layOnTop_32 (by decide +kernel) ?_
        refine r_imul hx hb dX3_layOnTop_34 ?_
        refine lv_iload_n hx hb dX3_layOnTop_35 rfl (lv_at hl 2 rfl) ?_
        refine r_iadd hx hb dX3_layOnTop_36 ?_
        refine lv_istore_n (lv' := [(3, .int (kI (k * 16 + y))), (0, .ref (z + 2)), (1, .int (kI k)), (2, .int (kI y))]) hx hb dX3_layOnTop_37 rfl hl (by decide) rfl (fun ls hl => ?_)
        refine lv_aload_n hx hb dX3_layOnTop_38 rfl (lv_at hl 1 rfl) ?_
        refine gf_X3_15 hx hb hts hown G dX3_layOnTop_39 ?_
        refine lv_iload_n hx hb dX3_layOnTop_42 rfl (lv_at hl 0 rfl) ?_
        refine r_iconst hx hb dX3_layOnTop_43 ?_
        refine r_iast hx hb G 4 (by decide) (N := 64) (fun _ => rfl) (by omega) (by omega) (by decide) dX3_layOnTop_44 (fun H locs G => ?_)
        refine lv_aload_n hx hb dX3_layOnTop_45 rfl (lv_at hl 1 rfl) ?_
        refine gf_X3_21 hx hb hts hown G dX3_layOnTop_46 ?_
        refine lv_iload_n hx hb dX3_layOnTop_49 rfl (lv_at hl 0 rfl) ?_
        refine r_iconst hx hb dX3_layOnTop_50 ?_
        refine r_iast hx hb G 6 (by decide) (N := 64) (fun _ => rfl) (by omega) (by omega) (by decide) dX3_layOnTop_51 (fun H locs G => ?_)
        refine lv_aload_n hx hb dX3_layOnTop_52 rfl (lv_at hl 1 rfl) ?_
        refine gf_X3_24 hx hb hts hown G dX3_layOnTop_53 ?_
        refine lv_iload_n hx hb dX3_layOnTop_56 rfl (lv_at hl 0 rfl) ?_
        refine lv_aload_n hx hb dX3_layOnTop_57 rfl (lv_at hl 1 rfl) ?_
        refine gf_X3_27 hx hb hts hown G dX3_layOnTop_58 ?_
        refine r_top (b := σ 2 0) (by simp [up_ap, inc6]) ?_
        refine r_iast hx hb G 7 (by decide) (N := 64) (fun _ => rfl) (by omega) (by omega) (by decide) dX3_layOnTop_61 (fun H locs G => ?_)
        exact r_vret hx hb hr hlk G (by rfl) dX3_layOnTop_62
      · skip
        refine lv_aload_n hx hb dX3_layOnTop_15 rfl (lv_at hl 0 rfl) ?_
        refine gf_X3_21 hx hb hts hown G dX3_layOnTop_16 ?_
        refine lv_iload_n hx hb dX3_layOnTop_19 rfl (lv_at hl 3 rfl) ?_
        refine lv_dup2_11 hx hb dX3_layOnTop_20 rfl rfl ?_
        refine r_iald hx hb G 6 (by decide) (N := 64) (fun _ => rfl) (by omega) (by omega) (by decide) dX3_layOnTop_21 ?_
        refine r_top (b := σ 6 i) (inc6_at (Int.le_refl _)) ?_
        refine r_iconst hx hb dX3_layOnTop_22 ?_
        refine r_iadd hx hb dX3_layOnTop_23 ?_
        refine r_topk (b := wr (σ 6 i + 1)) (kI_wr _).symm ?_
        refine r_iast hx hb G 6 (by decide) (N := 64) (fun _ => rfl) (by omega) (by omega) (by decide) dX3_layOnTop_24 (fun H locs G => ?_)
        have G := G.cong (τ := inc6 σ (k * 16) (i + 1)) (inc6_s (by omega))
        refine r_iinc (lv' := [(3, .int (kI (i + 1))), (0, .ref (z + 2)), (1, .int (kI k)), (2, .int (kI y))]) hx hb dX3_layOnTop_25 hl (k := 3) rfl (by decide) rfl (fun ls hl => ?_)
        refine lv_goto (tgt := 5) hx hb dX3_layOnTop_28 (by decide) ?_
        exact ih5 (i + 1) (by omega) (by omega) (by omega) _ _ G _ (lv_sub hl [1, 2, 3, 0] rfl)
  have G := G.cong (inc6_0 (σ := σ) (a := k * 16)).symm
  exact lp5 17 (k * 16) (by omega) (by omega) (by omega) _ _ G _ (lv_sub hl [1, 2, 3, 0] rfl)
set_option maxRecDepth 100000 in
set_option maxHeartbeats 4000000 in
theorem k_X3_howMany (l : Launch) {σ : Mem} {k w : Int} (hk : 0 ≤ k ∧ k < 4) (hw : inR w) (hI : IC σ) : CtI l yX3_howMany (Cond.code yX3_howMany cX3_howMany 5 (some .int)) 1 22 (fun z => [.ref (z + 2), .int (kI k), .int (kI w)]) σ (hm σ k w) σ := by
  intro D T z
  refine Ct_of (by decide) (Nat.le_of_ble_eq_true rfl) ?_
  intro p e s m below meth c ls hx hb hml hr hts hown hlk G hl
  have hown : s.vm.findClass RX3 = some m.cls := hown
  have hl : lv_has ls 5 [(0, .ref (z + 2)), (1, .int (kI k)), (2, .int (kI w))] := hl
  refine r_iconst hx hb dX3_howMany_0 ?_
  refine lv_istore_n (lv' := [(3, .int (kI 0)), (0, .ref (z + 2)), (1, .int (kI k)), (2, .int (kI w))]) hx hb dX3_howMany_1 rfl hl (by decide) rfl (fun ls hl => ?_)
  refine r_iconst hx hb dX3_howMany_2 ?_
  refine lv_istore (lv' := [(4, .int (kI 0)), (3, .int (kI 0)), (0, .ref (z + 2)), (1, .int (kI k)), (2, .int (kI w))]) hx hb dX3_howMany_3 hl (by decide) rfl (fun ls hl => ?_)
  have lp5 : ∀ (d : Nat) (v : Int) (i : Int), (0 ≤ i) → (i ≤ 16) → (v = cn (fun y => σ 4 (k * 16 + y) = w) i) → (16 - i : Int) < (d : Int) → ∀ (H : Heap) (locs : List Loc), Wd D T z 133 σ s H locs → ∀ (ls : Array Slot), lv_has ls 5 [(0, .ref (z + 2)), (1, .int (kI k)), (2, .int (kI w)), (3, .int (kI v)), (4, .int (kI i))] → W p l e (rmN 1 22) s m ([.ref (z + 2), .int (kI k), .int (kI w)] : List Value).toArray below meth c H locs 0 0 (MQ below (QI D T z 133 (hm σ k w) σ) ([.ref (z + 2), .int (kI k), .int (kI w)] : List Value).toArray s 0 0 (Own T z)) (F0 m 5 ls []) := by
    intro d
    induction d with
    | zero => intro v i h0 h1 hv hd; exact absurd hd (by omega)
    | succ d ih5 =>
      intro v i h0 h1 hv hd H locs G ls hl
      refine lv_iload hx hb dX3_howMany_5 (lv_at hl 4 rfl) ?_
      refine r_bipush hx hb dX3_howMany_7 (by decide +kernel) ?_
      refine r_icmp_ge (tgt := 32) hx hb ⟨by omega, by omega⟩ ⟨by decide, by decide⟩ dX3_howMany_9 (by decide) (fun h_1 => ?_) (fun h_1 => ?_)
      · skip
        refine lv_iload_n hx hb dX3_howMany_32 rfl (lv_at hl 3 rfl) ?_
        exact r_iret hx hb hr hlk G (by obtain rfl : i = 16 := (by omega); exact hv) (by rfl) dX3_howMany_33
      · skip
        refine lv_aload_n hx hb dX3_howMany_12 rfl (lv_at hl 0 rfl) ?_
        refine lv_iload_n hx hb dX3_howMany_13 rfl (lv_at hl 1 rfl) ?_
        refine lv_iload hx hb dX3_howMany_14 (lv_at hl 4 rfl) ?_
        refine r_callVI ⟨hx, hb, hml, hown, hts⟩ G (k_X3_statusOf l (k := k) (y := i) (σ := σ) (by omega) (by omega)) (kV_X3_statusOf hts qM_X3_46 ⟨by decide, by decide⟩) (rc_X3 G) rfl rfl hl.1 rfl (Nat.le_of_ble_eq_true rfl) dX3_howMany_16 ⟨Nat.le_refl _, Nat.le_refl _⟩ (fun H locs G => ?_)
        have hi := hI.2.2 (k * 16 + i) (by omega) (by omega)
        refine lv_iload_n hx hb dX3_howMany_19 rfl (lv_at hl 2 rfl) ?_
        refine r_icmp_ne (tgt := 26) hx hb ⟨by omega, by omega⟩ ⟨by omega, by omega⟩ dX3_howMany_20 (by decide) (fun h_2 => ?_) (fun h_2 => ?_)
        · skip
          have hq := h_2
          refine r_iinc (lv' := [(4, .int (kI (i + 1))), (0, .ref (z + 2)), (1, .int (kI k)), (2, .int (kI w)), (3, .int (kI v))]) hx hb dX3_howMany_26 hl (k := 4) rfl (by decide) rfl (fun ls hl => ?_)
          refine lv_goto (tgt := 5) hx hb dX3_howMany_29 (by decide) ?_
          exact ih5 v (i + 1) (by omega) (by omega) (by first | exact cn_t h0 hv hq | exact cn_f h0 hv hq) (by omega) _ _ G _ (lv_sub hl [1, 2, 3, 4, 0] rfl)
        · skip
          have hq := h_2
          refine r_iinc (lv' := [(3, .int (kI (v + 1))), (0, .ref (z + 2)), (1, .int (kI k)), (2, .int (kI w)), (4, .int (kI i))]) hx hb dX3_howMany_23 hl (k := 3) rfl (by decide) rfl (fun ls hl => ?_)
          refine r_iinc (lv' := [(4, .int (kI (i + 1))), (3, .int (kI (v + 1))), (0, .ref (z + 2)), (1, .int (kI k)), (2, .int (kI w))]) hx hb dX3_howMany_26 hl (k := 4) rfl (by decide) rfl (fun ls hl => ?_)
          refine lv_goto (tgt := 5) hx hb dX3_howMany_29 (by decide) ?_
          exact ih5 (v + 1) (i + 1) (by omega) (by omega) (by first | exact cn_t h0 hv hq | exact cn_f h0 hv hq) (by omega) _ _ G _ (lv_sub hl [2, 3, 4, 1, 0] rfl)
  exact lp5 17 0 0 (by omega) (by omega) (rfl) (by omega) _ _ G _ (lv_sub hl [2, 3, 4, 1, 0] rfl)
set_option maxRecDepth 100000 in
set_option maxHeartbeats 4000000 in
theorem k_X3_turnPile (l : Launch) {σ : Mem} {k : Int} (hk : 0 ≤ k ∧ k < 4) (hI : IC σ) : CtV l yX3_turnPile (Cond.code yX3_turnPile cX3_turnPile 4 none) 2 46 (fun z => [.ref (z + 2), .int (kI k)]) σ (tup σ k) := by
  intro D T z
  refine Ct_of (by decide) (Nat.le_of_ble_eq_true rfl) ?_
  intro p e s m below meth c ls hx hb hml hr hts hown hlk G hl
  have hown : s.vm.findClass RX3 = some m.cls := hown
  have hl : lv_has ls 4 [(0, .ref (z + 2)), (1, .int (kI k))] := hl
  refine lv_aload_n hx hb dX3_turnPile_0 rfl (lv_at hl 0 rfl) ?_
  refine lv_iload_n hx hb dX3_turnPile_1 rfl (lv_at hl 1 rfl) ?_
  refine r_iconst hx hb dX3_turnPile_2 ?_
  refine r_callVI ⟨hx, hb, hml, hown, hts⟩ G (k_X3_howMany l (k := k) (w := 2) (σ := σ) (by omega) (⟨by decide, by decide⟩) (hI)) (kV_X3_howMany hts qM_X3_57 ⟨by decide, by decide⟩) (rc_X3 G) rfl rfl hl.1 rfl (Nat.le_of_ble_eq_true rfl) dX3_turnPile_3 ⟨Nat.le_refl _, Nat.le_refl _⟩ (fun H locs G => ?_)
  refine r_iconst hx hb dX3_turnPile_6 ?_
  refine r_isub hx hb dX3_turnPile_7 ?_
  refine lv_istore_n (lv' := [(2, .int (kI (hm σ k 2 - 1))), (0, .ref (z + 2)), (1, .int (kI k))]) hx hb dX3_turnPile_8 rfl hl (by decide) rfl (fun ls hl => ?_)
  refine lv_iload_n hx hb dX3_turnPile_9 rfl (lv_at hl 2 rfl) ?_
  refine r_bipush hx hb dX3_turnPile_10 (by decide +kernel) ?_
  refine r_imul hx hb dX3_turnPile_12 ?_
  refine lv_istore_n (lv' := [(3, .int (kI (k * 16))), (2, .int (kI (hm σ k 2 - 1))), (0, .ref (z + 2)), (1, .int (kI k))]) hx hb dX3_turnPile_13 rfl hl (by decide) rfl (fun ls hl => ?_)
  have lp14 : ∀ (d : Nat) (i : Int), (k * 16 ≤ i) → (i ≤ k * 16 + 16) → (k * 16 + 16 - i : Int) < (d : Int) → ∀ (H : Heap) (locs : List Loc), Wd D T z 133 (flip6 σ (k * 16) i (hm σ k 2 - 1)) s H locs → ∀ (ls : Array Slot), lv_has ls 4 [(0, .ref (z + 2)), (1, .int (kI k)), (2, .int (kI (hm σ k 2 - 1))), (3, .int (kI i))] → W p l e (rmN 2 46) s m ([.ref (z + 2), .int (kI k)] : List Value).toArray below meth c H locs 0 0 (MQ below (QV D T z 133 (tup σ k)) ([.ref (z + 2), .int (kI k)] : List Value).toArray s 0 0 (Own T z)) (F0 m 14 ls []) := by
    intro d
    induction d with
    | zero => intro i h0 h1 hd; exact absurd hd (by omega)
    | succ d ih14 =>
      intro i h0 h1 hd H locs G ls hl
      refine lv_iload_n hx hb dX3_turnPile_14 rfl (lv_at hl 3 rfl) ?_
      refine lv_iload_n hx hb dX3_turnPile_15 rfl (lv_at hl 1 rfl) ?_
      refine r_iconst hx hb dX3_turnPile_16 ?_
      refine r_iadd hx hb dX3_turnPile_17 ?_
      refine r_bipush hx hb dX3_turnPile_18 (by decide +kernel) ?_
      refine r_imul hx hb dX3_turnPile_20 ?_
      refine r_icmp_ge (tgt := 44) hx hb ⟨by omega, by omega⟩ ⟨by omega, by omega⟩ dX3_turnPile_21 (by decide) (fun h_1 => ?_) (fun h_1 => ?_)
      · skip
        exact r_vret hx hb hr hlk G (by unfold tup; rw [show i = k * 16 + 16 by omega]) dX3_turnPile_44
      · skip
        refine lv_aload_n hx hb dX3_turnPile_24 rfl (lv_at hl 0 rfl) ?_
        refine gf_X3_21 hx hb hts hown G dX3_turnPile_25 ?_
        refine lv_iload_n hx hb dX3_turnPile_28 rfl (lv_at hl 3 rfl) ?_
        refine lv_iload_n hx hb dX3_turnPile_29 rfl (lv_at hl 2 rfl) ?_
        refine lv_aload_n hx hb dX3_turnPile_30 rfl (lv_at hl 0 rfl) ?_
        refine gf_X3_21 hx hb hts hown G dX3_turnPile_31 ?_
        refine lv_iload_n hx hb dX3_turnPile_34 rfl (lv_at hl 3 rfl) ?_
        refine r_iald hx hb G 6 (by decide) (N := 64) (fun _ => rfl) (by omega) (by omega) (by decide) dX3_turnPile_35 ?_
        refine r_top (b := σ 6 i) (flip6_at (Int.le_refl _)) ?_
        refine r_isub hx hb dX3_turnPile_36 ?_
        refine r_topk (b := wr (hm σ k 2 - 1 - σ 6 i)) (kI_wr _).symm ?_
        refine r_iast hx hb G 6 (by decide) (N := 64) (fun _ => rfl) (by omega) (by omega) (by decide) dX3_turnPile_37 (fun H locs G => ?_)
        have G := G.cong (τ := flip6 σ (k * 16) (i + 1) (hm σ k 2 - 1)) (flip6_s (by omega))
        refine r_iinc (lv' := [(3, .int (kI (i + 1))), (0, .ref (z + 2)), (1, .int (kI k)), (2, .int (kI (hm σ k 2 - 1)))]) hx hb dX3_turnPile_38 hl (k := 3) rfl (by decide) rfl (fun ls hl => ?_)
        refine lv_goto (tgt := 14) hx hb dX3_turnPile_41 (by decide) ?_
        exact ih14 (i + 1) (by omega) (by omega) (by omega) _ _ G _ (lv_sub hl [1, 2, 3, 0] rfl)
  have G := G.cong (flip6_0 (σ := σ) (a := k * 16) (q := hm σ k 2 - 1)).symm
  exact lp14 17 (k * 16) (by omega) (by omega) (by omega) _ _ G _ (lv_sub hl [2, 3, 1, 0] rfl)
set_option maxRecDepth 100000 in
set_option maxHeartbeats 4000000 in
theorem k_X3_keyAt (l : Launch) {σ : Mem} {k q : Int} (hk : 0 ≤ k ∧ k < 4) (hq : inR q) (hI : IC σ) : CtI l yX3_keyAt (Cond.code yX3_keyAt cX3_keyAt 4 (some .int)) 1 22 (fun z => [.ref (z + 2), .int (kI k), .int (kI q)]) σ (kat σ k q) σ := by
  intro D T z
  refine Ct_of (by decide) (Nat.le_of_ble_eq_true rfl) ?_
  intro p e s m below meth c ls hx hb hml hr hts hown hlk G hl
  have hown : s.vm.findClass RX3 = some m.cls := hown
  have hl : lv_has ls 4 [(0, .ref (z + 2)), (1, .int (kI k)), (2, .int (kI q))] := hl
  refine r_iconst hx hb dX3_keyAt_0 ?_
  refine lv_istore_n (lv' := [(3, .int (kI 0)), (0, .ref (z + 2)), (1, .int (kI k)), (2, .int (kI q))]) hx hb dX3_keyAt_1 rfl hl (by decide) rfl (fun ls hl => ?_)
  have lp2 : ∀ (d : Nat) (i : Int), (0 ≤ i) → (i ≤ 16) → (fs (fun y => σ 4 (k * 16 + y) = 2 ∧ σ 6 (k * 16 + y) = q) i = -1) → (16 - i : Int) < (d : Int) → ∀ (H : Heap) (locs : List Loc), Wd D T z 133 σ s H locs → ∀ (ls : Array Slot), lv_has ls 4 [(0, .ref (z + 2)), (1, .int (kI k)), (2, .int (kI q)), (3, .int (kI i))] → W p l e (rmN 1 22) s m ([.ref (z + 2), .int (kI k), .int (kI q)] : List Value).toArray below meth c H locs 0 0 (MQ below (QI D T z 133 (kat σ k q) σ) ([.ref (z + 2), .int (kI k), .int (kI q)] : List Value).toArray s 0 0 (Own T z)) (F0 m 2 ls []) := by
    intro d
    induction d with
    | zero => intro i h0 h1 hn hd; exact absurd hd (by omega)
    | succ d ih2 =>
      intro i h0 h1 hn hd H locs G ls hl
      refine lv_iload_n hx hb dX3_keyAt_2 rfl (lv_at hl 3 rfl) ?_
      refine r_bipush hx hb dX3_keyAt_3 (by decide +kernel) ?_
      refine r_icmp_ge (tgt := 41) hx hb ⟨by omega, by omega⟩ ⟨by decide, by decide⟩ dX3_keyAt_5 (by decide) (fun h_1 => ?_) (fun h_1 => ?_)
      · skip
        refine r_iconst hx hb dX3_keyAt_41 ?_
        exact r_iret hx hb hr hlk G (by obtain rfl : i = 16 := (by omega); exact hn.symm) (by rfl) dX3_keyAt_42
      · skip
        have hi := hI.2.2 (k * 16 + i) (by omega) (by omega)
        refine lv_aload_n hx hb dX3_keyAt_8 rfl (lv_at hl 0 rfl) ?_
        refine lv_iload_n hx hb dX3_keyAt_9 rfl (lv_at hl 1 rfl) ?_
        refine lv_iload_n hx hb dX3_keyAt_10 rfl (lv_at hl 3 rfl) ?_
        refine r_callVI ⟨hx, hb, hml, hown, hts⟩ G (k_X3_statusOf l (k := k) (y := i) (σ := σ) (by omega) (by omega)) (kV_X3_statusOf hts qM_X3_46 ⟨by decide, by decide⟩) (rc_X3 G) rfl rfl hl.1 rfl (Nat.le_of_ble_eq_true rfl) dX3_keyAt_11 ⟨Nat.le_refl _, Nat.le_refl _⟩ (fun H locs G => ?_)
        refine r_iconst hx hb dX3_keyAt_14 ?_
        refine r_icmp_ne (tgt := 35) hx hb ⟨by omega, by omega⟩ ⟨by decide, by decide⟩ dX3_keyAt_15 (by decide) (fun h_2 => ?_) (fun h_2 => ?_)
        · skip
          refine r_iinc (lv' := [(3, .int (kI (i + 1))), (0, .ref (z + 2)), (1, .int (kI k)), (2, .int (kI q))]) hx hb dX3_keyAt_35 hl (k := 3) rfl (by decide) rfl (fun ls hl => ?_)
          refine lv_goto (tgt := 2) hx hb dX3_keyAt_38 (by decide) ?_
          exact ih2 (i + 1) (by omega) (by omega) (fs_miss h0 hn (by show ¬ (σ 4 (k * 16 + i) = 2 ∧ σ 6 (k * 16 + i) = q); omega)) (by omega) _ _ G _ (lv_sub hl [1, 2, 3, 0] rfl)
        · skip
          refine lv_aload_n hx hb dX3_keyAt_18 rfl (lv_at hl 0 rfl) ?_
          refine gf_X3_21 hx hb hts hown G dX3_keyAt_19 ?_
          refine lv_iload_n hx hb dX3_keyAt_22 rfl (lv_at hl 1 rfl) ?_
          refine r_bipush hx hb dX3_keyAt_23 (by decide +kernel) ?_
          refine r_imul hx hb dX3_keyAt_25 ?_
          refine lv_iload_n hx hb dX3_keyAt_26 rfl (lv_at hl 3 rfl) ?_
          refine r_iadd hx hb dX3_keyAt_27 ?_
          refine r_iald hx hb G 6 (by decide) (N := 64) (fun _ => rfl) (by omega) (by omega) (by decide) dX3_keyAt_28 ?_
          refine lv_iload_n hx hb dX3_keyAt_29 rfl (lv_at hl 2 rfl) ?_
          refine r_icmp_ne (tgt := 35) hx hb ⟨by omega, by omega⟩ ⟨by omega, by omega⟩ dX3_keyAt_30 (by decide) (fun h_3 => ?_) (fun h_3 => ?_)
          · skip
            refine r_iinc (lv' := [(3, .int (kI (i + 1))), (0, .ref (z + 2)), (1, .int (kI k)), (2, .int (kI q))]) hx hb dX3_keyAt_35 hl (k := 3) rfl (by decide) rfl (fun ls hl => ?_)
            refine lv_goto (tgt := 2) hx hb dX3_keyAt_38 (by decide) ?_
            exact ih2 (i + 1) (by omega) (by omega) (fs_miss h0 hn (by show ¬ (σ 4 (k * 16 + i) = 2 ∧ σ 6 (k * 16 + i) = q); omega)) (by omega) _ _ G _ (lv_sub hl [1, 2, 3, 0] rfl)
          · skip
            refine lv_iload_n hx hb dX3_keyAt_33 rfl (lv_at hl 3 rfl) ?_
            exact r_iret hx hb hr hlk G (by exact fs_hit h0 (by omega) hn ⟨by omega, by omega⟩) (by rfl) dX3_keyAt_34
  exact lp2 17 0 (by omega) (by omega) (rfl) (by omega) _ _ G _ (lv_sub hl [1, 2, 3, 0] rfl)
set_option maxRecDepth 100000 in
set_option maxHeartbeats 4000000 in
theorem k_X3_rankByRule (l : Launch) {σ : Mem} {k y r : Int} (hk : 0 ≤ k ∧ k < 4) (hy : 0 ≤ y ∧ y < 16) (hr0 : inR r) (hI : IC σ) : CtI l yX3_rankByRule (Cond.code yX3_rankByRule cX3_rankByRule 6 (some .int)) 0 0 (fun z => [.ref (z + 2), .int (kI k), .int (kI y), .int (kI r)]) σ (rk σ k y r) σ := by
  intro D T z
  refine Ct_of (by decide) (Nat.le_of_ble_eq_true rfl) ?_
  intro p e s m below meth c ls hx hb hml hr hts hown hlk G hl
  have hown : s.vm.findClass RX3 = some m.cls := hown
  have hl : lv_has ls 6 [(0, .ref (z + 2)), (1, .int (kI k)), (2, .int (kI y)), (3, .int (kI r))] := hl
  have hi := hI.2.2 (k * 16 + y) (by omega) (by omega)
  refine lv_iload_n hx hb dX3_rankByRule_0 rfl (lv_at hl 1 rfl) ?_
  refine r_bipush hx hb dX3_rankByRule_1 (by decide +kernel) ?_
  refine r_imul hx hb dX3_rankByRule_3 ?_
  refine lv_iload_n hx hb dX3_rankByRule_4 rfl (lv_at hl 2 rfl) ?_
  refine r_iadd hx hb dX3_rankByRule_5 ?_
  refine lv_istore (lv' := [(4, .int (kI (k * 16 + y))), (0, .ref (z + 2)), (1, .int (kI k)), (2, .int (kI y)), (3, .int (kI r))]) hx hb dX3_rankByRule_6 hl (by decide) rfl (fun ls hl => ?_)
  refine lv_aload_n hx hb dX3_rankByRule_8 rfl (lv_at hl 1 rfl) ?_
  refine gf_X3_15 hx hb hts hown G dX3_rankByRule_9 ?_
  refine lv_iload hx hb dX3_rankByRule_12 (lv_at hl 0 rfl) ?_
  refine r_iald hx hb G 4 (by decide) (N := 64) (fun _ => rfl) (by omega) (by omega) (by decide) dX3_rankByRule_14 ?_
  refine r_if_ne (tgt := 22) hx hb ⟨by omega, by omega⟩ dX3_rankByRule_15 (by decide) (fun h_1 => ?_) (fun h_1 => ?_)
  · skip
    refine r_iconst hx hb dX3_rankByRule_22 ?_
    refine lv_istore (lv' := [(5, .int (kI 0)), (4, .int (kI (k * 16 + y))), (0, .ref (z + 2)), (1, .int (kI k)), (2, .int (kI y)), (3, .int (kI r))]) hx hb dX3_rankByRule_23 hl (by decide) rfl (fun ls hl => ?_)
    refine lv_iload_n hx hb dX3_rankByRule_25 rfl (lv_at hl 5 rfl) ?_
    by_cases hc_3 : r = 0
    · skip
      refine r_tabIn (j := 0) (tgt := 52) hx hb dX3_rankByRule_26 (by omega) (by omega) ⟨by omega, by omega⟩ rfl (by decide) ?_
      refine lv_iload hx hb dX3_rankByRule_52 (lv_at hl 0 rfl) ?_
      refine r_if_eq (tgt := 61) hx hb ⟨by decide, by decide⟩ dX3_rankByRule_54 (by decide) (fun _ => ?_) (fun h_4 => absurd h_4 (by decide))
      refine r_bipush hx hb dX3_rankByRule_61 (by decide +kernel) ?_
      refine lv_aload_n hx hb dX3_rankByRule_63 rfl (lv_at hl 2 rfl) ?_
      refine gf_X3_21 hx hb hts hown G dX3_rankByRule_64 ?_
      refine lv_iload hx hb dX3_rankByRule_67 (lv_at hl 1 rfl) ?_
      refine r_iald hx hb G 6 (by decide) (N := 64) (fun _ => rfl) (by omega) (by omega) (by decide) dX3_rankByRule_69 ?_
      refine r_iadd hx hb dX3_rankByRule_70 ?_
      refine r_topk (b := wr (16 + σ 6 (k * 16 + y))) (kI_wr _).symm ?_
      exact r_iret hx hb hr hlk G (by unfold rk; (repeat' split) <;> omega) (by rfl) dX3_rankByRule_71
    by_cases hc_5 : r = 1
    · skip
      refine r_tabIn (j := 1) (tgt := 72) hx hb dX3_rankByRule_26 (by omega) (by omega) ⟨by omega, by omega⟩ rfl (by decide) ?_
      refine lv_iload hx hb dX3_rankByRule_72 (lv_at hl 0 rfl) ?_
      refine r_if_eq (tgt := 84) hx hb ⟨by decide, by decide⟩ dX3_rankByRule_74 (by decide) (fun _ => ?_) (fun h_6 => absurd h_6 (by decide))
      refine lv_aload_n hx hb dX3_rankByRule_84 rfl (lv_at hl 2 rfl) ?_
      refine gf_X3_21 hx hb hts hown G dX3_rankByRule_85 ?_
      refine lv_iload hx hb dX3_rankByRule_88 (lv_at hl 1 rfl) ?_
      refine r_iald hx hb G 6 (by decide) (N := 64) (fun _ => rfl) (by omega) (by omega) (by decide) dX3_rankByRule_90 ?_
      exact r_iret hx hb hr hlk G (by unfold rk; (repeat' split) <;> omega) (by rfl) dX3_rankByRule_91
    by_cases hc_7 : r = 2
    · skip
      refine r_tabIn (j := 2) (tgt := 92) hx hb dX3_rankByRule_26 (by omega) (by omega) ⟨by omega, by omega⟩ rfl (by decide) ?_
      refine lv_iload_n hx hb dX3_rankByRule_92 rfl (lv_at hl 4 rfl) ?_
      exact r_iret hx hb hr hlk G (by unfold rk; (repeat' split) <;> omega) (by rfl) dX3_rankByRule_93
    refine r_tabOut (tgt := 94) hx hb dX3_rankByRule_26 ⟨by omega, by omega⟩ (by omega) (by decide) ?_
    refine lv_aload_n hx hb dX3_rankByRule_94 rfl (lv_at hl 2 rfl) ?_
    refine gf_X3_18 hx hb hts hown G dX3_rankByRule_95 ?_
    refine lv_iload hx hb dX3_rankByRule_98 (lv_at hl 1 rfl) ?_
    refine r_iald hx hb G 5 (by decide) (N := 64) (fun _ => rfl) (by omega) (by omega) (by decide) dX3_rankByRule_100 ?_
    refine r_bipush hx hb dX3_rankByRule_101 (by decide +kernel) ?_
    refine r_imul hx hb dX3_rankByRule_103 ?_
    refine lv_iload_n hx hb dX3_rankByRule_104 rfl (lv_at hl 4 rfl) ?_
    refine r_iadd hx hb dX3_rankByRule_105 ?_
    exact r_iret hx hb hr hlk G (by unfold rk; (repeat' split) <;> omega) (by rfl) dX3_rankByRule_106
  · skip
    refine r_iconst hx hb dX3_rankByRule_18 ?_
    refine lv_goto (tgt := 23) hx hb dX3_rankByRule_19 (by decide) ?_
    refine lv_istore (lv' := [(5, .int (kI 1)), (4, .int (kI (k * 16 + y))), (0, .ref (z + 2)), (1, .int (kI k)), (2, .int (kI y)), (3, .int (kI r))]) hx hb dX3_rankByRule_23 hl (by decide) rfl (fun ls hl => ?_)
    refine lv_iload_n hx hb dX3_rankByRule_25 rfl (lv_at hl 5 rfl) ?_
    by_cases hc_9 : r = 0
    · skip
      refine r_tabIn (j := 0) (tgt := 52) hx hb dX3_rankByRule_26 (by omega) (by omega) ⟨by omega, by omega⟩ rfl (by decide) ?_
      refine lv_iload hx hb dX3_rankByRule_52 (lv_at hl 0 rfl) ?_
      refine r_if_eq (tgt := 61) hx hb ⟨by decide, by decide⟩ dX3_rankByRule_54 (by decide) (fun h_10 => absurd h_10 (by decide)) (fun _ => ?_)
      refine lv_iload_n hx hb dX3_rankByRule_57 rfl (lv_at hl 4 rfl) ?_
      refine lv_goto (tgt := 71) hx hb dX3_rankByRule_58 (by decide) ?_
      exact r_iret hx hb hr hlk G (by unfold rk; (repeat' split) <;> omega) (by rfl) dX3_rankByRule_71
    by_cases hc_11 : r = 1
    · skip
      refine r_tabIn (j := 1) (tgt := 72) hx hb dX3_rankByRule_26 (by omega) (by omega) ⟨by omega, by omega⟩ rfl (by decide) ?_
      refine lv_iload hx hb dX3_rankByRule_72 (lv_at hl 0 rfl) ?_
      refine r_if_eq (tgt := 84) hx hb ⟨by decide, by decide⟩ dX3_rankByRule_74 (by decide) (fun h_12 => absurd h_12 (by decide)) (fun _ => ?_)
      refine r_bipush hx hb dX3_rankByRule_77 (by decide +kernel) ?_
      refine lv_iload_n hx hb dX3_rankByRule_79 rfl (lv_at hl 4 rfl) ?_
      refine r_iadd hx hb dX3_rankByRule_80 ?_
      refine lv_goto (tgt := 91) hx hb dX3_rankByRule_81 (by decide) ?_
      exact r_iret hx hb hr hlk G (by unfold rk; (repeat' split) <;> omega) (by rfl) dX3_rankByRule_91
    by_cases hc_13 : r = 2
    · skip
      refine r_tabIn (j := 2) (tgt := 92) hx hb dX3_rankByRule_26 (by omega) (by omega) ⟨by omega, by omega⟩ rfl (by decide) ?_
      refine lv_iload_n hx hb dX3_rankByRule_92 rfl (lv_at hl 4 rfl) ?_
      exact r_iret hx hb hr hlk G (by unfold rk; (repeat' split) <;> omega) (by rfl) dX3_rankByRule_93
    refine r_tabOut (tgt := 94) hx hb dX3_rankByRule_26 ⟨by omega, by omega⟩ (by omega) (by decide) ?_
    refine lv_aload_n hx hb dX3_rankByRule_94 rfl (lv_at hl 2 rfl) ?_
    refine gf_X3_18 hx hb hts hown G dX3_rankByRule_95 ?_
    refine lv_iload hx hb dX3_rankByRule_98 (lv_at hl 1 rfl) ?_
    refine r_iald hx hb G 5 (by decide) (N := 64) (fun _ => rfl) (by omega) (by omega) (by decide) dX3_rankByRule_100 ?_
    refine r_bipush hx hb dX3_rankByRule_101 (by decide +kernel) ?_
    refine r_imul hx hb dX3_rankByRule_103 ?_
    refine lv_iload_n hx hb dX3_rankByRule_104 rfl (lv_at hl 4 rfl) ?_
    refine r_iadd hx hb dX3_rankByRule_105 ?_
    exact r_iret hx hb hr hlk G (by unfold rk; (repeat' split) <;> omega) (by rfl) dX3_rankByRule_106
set_option maxRecDepth 100000 in
set_option maxHeartbeats 4000000 in
theorem k_X3_draw (l : Launch) {σ : Mem} {k r : Int} {t : Nat} (hk : 0 ≤ k ∧ k < 4) (hr0 : inR r) (ht : t < 65536) (hI : IC σ) : CtI l yX3_draw (Cond.code yX3_draw cX3_draw 8 (some .int)) 2 45 (fun z => [.ref (z + 2), .int (kI k), .int (kI r), .int (kI (t : Int))]) σ (drw σ k r t) σ := by
  intro D T z
  refine Ct_of (by decide) (Nat.le_of_ble_eq_true rfl) ?_
  intro p e s m below meth c ls hx hb hml hr hts hown hlk G hl
  have hown : s.vm.findClass RX3 = some m.cls := hown
  have hl : lv_has ls 8 [(0, .ref (z + 2)), (1, .int (kI k)), (2, .int (kI r)), (3, .int (kI (t : Int)))] := hl
  refine r_iconst hx hb dX3_draw_0 ?_
  refine lv_istore (lv' := [(4, .int (kI (-1))), (0, .ref (z + 2)), (1, .int (kI k)), (2, .int (kI r)), (3, .int (kI (t : Int)))]) hx hb dX3_draw_1 hl (by decide) rfl (fun ls hl => ?_)
  refine r_iconst hx hb dX3_draw_3 ?_
  refine lv_istore (lv' := [(5, .int (kI 0)), (4, .int (kI (-1))), (0, .ref (z + 2)), (1, .int (kI k)), (2, .int (kI r)), (3, .int (kI (t : Int)))]) hx hb dX3_draw_4 hl (by decide) rfl (fun ls hl => ?_)
  refine r_iconst hx hb dX3_draw_6 ?_
  refine lv_istore (lv' := [(6, .int (kI 0)), (5, .int (kI 0)), (4, .int (kI (-1))), (0, .ref (z + 2)), (1, .int (kI k)), (2, .int (kI r)), (3, .int (kI (t : Int)))]) hx hb dX3_draw_7 hl (by decide) rfl (fun ls hl => ?_)
  have lp9 : ∀ (d : Nat) (dr : Int) (le : Int) (i : Int), (0 ≤ i) → (i ≤ 16) → (-1 ≤ dr ∧ dr < 16) → (inR le) → ((dr, le) = it (dst σ k r t) (-1, 0) i) → (16 - i : Int) < (d : Int) → ∀ (H : Heap) (locs : List Loc), Wd D T z 133 σ s H locs → ∀ (ls : Array Slot), lv_has ls 8 [(0, .ref (z + 2)), (1, .int (kI k)), (2, .int (kI r)), (3, .int (kI (t : Int))), (4, .int (kI dr)), (5, .int (kI le)), (6, .int (kI i))] → W p l e (rmN 2 45) s m ([.ref (z + 2), .int (kI k), .int (kI r), .int (kI (t : Int))] : List Value).toArray below meth c H locs 0 0 (MQ below (QI D T z 133 (drw σ k r t) σ) ([.ref (z + 2), .int (kI k), .int (kI r), .int (kI (t : Int))] : List Value).toArray s 0 0 (Own T z)) (F0 m 9 ls []) := by
    intro d
    induction d with
    | zero => intro dr le i h0 h1 hd0 hl0 hv hd; exact absurd hd (by omega)
    | succ d ih9 =>
      intro dr le i h0 h1 hd0 hl0 hv hd H locs G ls hl
      refine lv_iload hx hb dX3_draw_9 (lv_at hl 6 rfl) ?_
      refine r_bipush hx hb dX3_draw_11 (by decide +kernel) ?_
      refine r_icmp_ge (tgt := 75) hx hb ⟨by omega, by omega⟩ ⟨by decide, by decide⟩ dX3_draw_13 (by decide) (fun h_1 => ?_) (fun h_1 => ?_)
      · skip
        refine lv_iload hx hb dX3_draw_75 (lv_at hl 4 rfl) ?_
        exact r_iret hx hb hr hlk G (by obtain rfl : i = 16 := (by omega); exact congrArg Prod.fst hv) (by rfl) dX3_draw_77
      · skip
        refine lv_iload_n hx hb dX3_draw_16 rfl (lv_at hl 3 rfl) ?_
        refine r_iconst hx hb dX3_draw_17 ?_
        refine lv_iload hx hb dX3_draw_18 (lv_at hl 6 rfl) ?_
        refine lv_ishl hx hb dX3_draw_20 ?_
        refine r_bit (tgt := 69) (by omega) (by omega) ht hx hb dX3_draw_21 dX3_draw_22 (by decide) (fun h_2 => ?_) (fun h_2 => ?_)
        · skip
          have hs := dst_skip h0 hv (Or.inl h_2)
          refine r_iinc (lv' := [(6, .int (kI (i + 1))), (0, .ref (z + 2)), (1, .int (kI k)), (2, .int (kI r)), (3, .int (kI (t : Int))), (4, .int (kI dr)), (5, .int (kI le))]) hx hb dX3_draw_69 hl (k := 6) rfl (by decide) rfl (fun ls hl => ?_)
          refine lv_goto (tgt := 9) hx hb dX3_draw_72 (by decide) ?_
          exact ih9 dr le (i + 1) (by omega) (by omega) (by omega) (by first | exact hl0 | exact hrk) (hs) (by omega) _ _ G _ (lv_sub hl [1, 2, 3, 4, 5, 6, 0] rfl)
        · skip
          have hbt := h_2
          refine lv_aload_n hx hb dX3_draw_25 rfl (lv_at hl 0 rfl) ?_
          refine lv_iload_n hx hb dX3_draw_26 rfl (lv_at hl 1 rfl) ?_
          refine lv_iload hx hb dX3_draw_27 (lv_at hl 6 rfl) ?_
          refine r_callVI ⟨hx, hb, hml, hown, hts⟩ G (k_X3_canBeGiven l (k := k) (y := i) (σ := σ) (by omega) (by omega) (hI)) (kV_X3_canBeGiven hts qM_X3_60 ⟨by decide, by decide⟩) (rc_X3 G) rfl rfl hl.1 rfl (Nat.le_of_ble_eq_true rfl) dX3_draw_29 ⟨Nat.le_refl _, Nat.le_refl _⟩ (fun H locs G => ?_)
          refine r_zne (tgt := 38) hx hb dX3_draw_32 (by decide) (fun h_3 => ?_) (fun h_3 => ?_)
          · skip
            have hcb := h_3
            refine lv_aload_n hx hb dX3_draw_38 rfl (lv_at hl 0 rfl) ?_
            refine lv_iload_n hx hb dX3_draw_39 rfl (lv_at hl 1 rfl) ?_
            refine lv_iload hx hb dX3_draw_40 (lv_at hl 6 rfl) ?_
            refine lv_iload_n hx hb dX3_draw_42 rfl (lv_at hl 2 rfl) ?_
            refine r_callVI ⟨hx, hb, hml, hown, hts⟩ G (k_X3_rankByRule l (k := k) (y := i) (r := r) (σ := σ) (by omega) (by omega) (by omega) (hI)) (kV_X3_rankByRule hts qM_X3_63 ⟨by decide, by decide⟩) (rc_X3 G) rfl rfl hl.1 rfl (Nat.le_of_ble_eq_true rfl) dX3_draw_43 ⟨Nat.le_refl _, Nat.le_refl _⟩ (fun H locs G => ?_)
            have hrk := rk_rg (r := r) hI hk ⟨h0, (by omega : i < 16)⟩
            refine lv_istore (lv' := [(7, .int (kI (rk σ k i r))), (0, .ref (z + 2)), (1, .int (kI k)), (2, .int (kI r)), (3, .int (kI (t : Int))), (4, .int (kI dr)), (5, .int (kI le)), (6, .int (kI i))]) hx hb dX3_draw_46 hl (by decide) rfl (fun ls hl => ?_)
            refine lv_iload hx hb dX3_draw_48 (lv_at hl 5 rfl) ?_
            refine r_iconst hx hb dX3_draw_50 ?_
            refine r_icmp_eq (tgt := 61) hx hb ⟨by omega, by omega⟩ ⟨by decide, by decide⟩ dX3_draw_51 (by decide) (fun h_4 => ?_) (fun h_4 => ?_)
            · skip
              have hs := dst_take h0 hv hbt hcb (Or.inl h_4)
              refine lv_iload hx hb dX3_draw_61 (lv_at hl 7 rfl) ?_
              refine lv_istore (lv' := [(4, .int (kI i)), (7, .int (kI (rk σ k i r))), (0, .ref (z + 2)), (1, .int (kI k)), (2, .int (kI r)), (3, .int (kI (t : Int))), (5, .int (kI le)), (6, .int (kI i))]) hx hb dX3_draw_63 hl (by decide) rfl (fun ls hl => ?_)
              refine lv_iload hx hb dX3_draw_65 (lv_at hl 1 rfl) ?_
              refine lv_istore (lv' := [(5, .int (kI (rk σ k i r))), (4, .int (kI i)), (7, .int (kI (rk σ k i r))), (0, .ref (z + 2)), (1, .int (kI k)), (2, .int (kI r)), (3, .int (kI (t : Int))), (6, .int (kI i))]) hx hb dX3_draw_67 hl (by decide) rfl (fun ls hl => ?_)
              refine r_iinc (lv' := [(6, .int (kI (i + 1))), (5, .int (kI (rk σ k i r))), (4, .int (kI i)), (7, .int (kI (rk σ k i r))), (0, .ref (z + 2)), (1, .int (kI k)), (2, .int (kI r)), (3, .int (kI (t : Int)))]) hx hb dX3_draw_69 hl (k := 7) rfl (by decide) rfl (fun ls hl => ?_)
              refine lv_goto (tgt := 9) hx hb dX3_draw_72 (by decide) ?_
              exact ih9 i (rk σ k i r) (i + 1) (by omega) (by omega) (by omega) (by first | exact hl0 | exact hrk) (hs) (by omega) _ _ G _ (lv_sub hl [4, 5, 6, 7, 2, 1, 0] rfl)
            · skip
              have hdn := h_4
              refine lv_iload hx hb dX3_draw_54 (lv_at hl 0 rfl) ?_
              refine lv_iload hx hb dX3_draw_56 (lv_at hl 6 rfl) ?_
              refine r_icmp_ge (tgt := 69) hx hb ⟨by omega, by omega⟩ ⟨by omega, by omega⟩ dX3_draw_58 (by decide) (fun h_5 => ?_) (fun h_5 => ?_)
              · skip
                have hs := dst_keep h0 hv hbt hcb hdn h_5
                refine r_iinc (lv' := [(6, .int (kI (i + 1))), (7, .int (kI (rk σ k i r))), (0, .ref (z + 2)), (1, .int (kI k)), (2, .int (kI r)), (3, .int (kI (t : Int))), (4, .int (kI dr)), (5, .int (kI le))]) hx hb dX3_draw_69 hl (k := 7) rfl (by decide) rfl (fun ls hl => ?_)
                refine lv_goto (tgt := 9) hx hb dX3_draw_72 (by decide) ?_
                exact ih9 dr le (i + 1) (by omega) (by omega) (by omega) (by first | exact hl0 | exact hrk) (hs) (by omega) _ _ G _ (lv_sub hl [2, 3, 4, 5, 6, 7, 0] rfl)
              · skip
                have hs := dst_take h0 hv hbt hcb (Or.inr (by omega))
                refine lv_iload hx hb dX3_draw_61 (lv_at hl 7 rfl) ?_
                refine lv_istore (lv' := [(4, .int (kI i)), (7, .int (kI (rk σ k i r))), (0, .ref (z + 2)), (1, .int (kI k)), (2, .int (kI r)), (3, .int (kI (t : Int))), (5, .int (kI le)), (6, .int (kI i))]) hx hb dX3_draw_63 hl (by decide) rfl (fun ls hl => ?_)
                refine lv_iload hx hb dX3_draw_65 (lv_at hl 1 rfl) ?_
                refine lv_istore (lv' := [(5, .int (kI (rk σ k i r))), (4, .int (kI i)), (7, .int (kI (rk σ k i r))), (0, .ref (z + 2)), (1, .int (kI k)), (2, .int (kI r)), (3, .int (kI (t : Int))), (6, .int (kI i))]) hx hb dX3_draw_67 hl (by decide) rfl (fun ls hl => ?_)
                refine r_iinc (lv' := [(6, .int (kI (i + 1))), (5, .int (kI (rk σ k i r))), (4, .int (kI i)), (7, .int (kI (rk σ k i r))), (0, .ref (z + 2)), (1, .int (kI k)), (2, .int (kI r)), (3, .int (kI (t : Int)))]) hx hb dX3_draw_69 hl (k := 7) rfl (by decide) rfl (fun ls hl => ?_)
                refine lv_goto (tgt := 9) hx hb dX3_draw_72 (by decide) ?_
                exact ih9 i (rk σ k i r) (i + 1) (by omega) (by omega) (by omega) (by first | exact hl0 | exact hrk) (hs) (by omega) _ _ G _ (lv_sub hl [4, 5, 6, 7, 2, 1, 0] rfl)
          · skip
            have hs := dst_skip h0 hv (Or.inr h_3)
            refine lv_goto (tgt := 69) hx hb dX3_draw_35 (by decide) ?_
            refine r_iinc (lv' := [(6, .int (kI (i + 1))), (0, .ref (z + 2)), (1, .int (kI k)), (2, .int (kI r)), (3, .int (kI (t : Int))), (4, .int (kI dr)), (5, .int (kI le))]) hx hb dX3_draw_69 hl (k := 6) rfl (by decide) rfl (fun ls hl => ?_)
            refine lv_goto (tgt := 9) hx hb dX3_draw_72 (by decide) ?_
            exact ih9 dr le (i + 1) (by omega) (by omega) (by omega) (by first | exact hl0 | exact hrk) (hs) (by omega) _ _ G _ (lv_sub hl [1, 2, 3, 4, 5, 6, 0] rfl)
  exact lp9 17 (-1) 0 0 (by omega) (by omega) (⟨by decide, by decide⟩) (⟨by decide, by decide⟩) (rfl) (by omega) _ _ G _ (lv_sub hl [3, 4, 5, 6, 2, 1, 0] rfl)
set_option maxRecDepth 100000 in
set_option maxHeartbeats 4000000 in
theorem k_X3_judge (l : Launch) {σ : Mem} {k y q : Int} (hk : 0 ≤ k ∧ k < 4) (hy : 0 ≤ y ∧ y < 16) (hq : inR q) (hI : IC σ) : CtI l yX3_judge (Cond.code yX3_judge cX3_judge 4 (some .int)) 1 22 (fun z => [.ref (z + 2), .int (kI k), .int (kI y), .int (kI q)]) σ (jud σ k y q) σ := by
  intro D T z
  refine Ct_of (by decide) (Nat.le_of_ble_eq_true rfl) ?_
  intro p e s m below meth c ls hx hb hml hr hts hown hlk G hl
  have hown : s.vm.findClass RX3 = some m.cls := hown
  have hl : lv_has ls 4 [(0, .ref (z + 2)), (1, .int (kI k)), (2, .int (kI y)), (3, .int (kI q))] := hl
  have hi := hI.2.2 (k * 16 + y) (by omega) (by omega)
  refine lv_aload_n hx hb dX3_judge_0 rfl (lv_at hl 0 rfl) ?_
  refine lv_iload_n hx hb dX3_judge_1 rfl (lv_at hl 1 rfl) ?_
  refine lv_iload_n hx hb dX3_judge_2 rfl (lv_at hl 2 rfl) ?_
  refine r_callVI ⟨hx, hb, hml, hown, hts⟩ G (k_X3_statusOf l (k := k) (y := y) (σ := σ) (by omega) (by omega)) (kV_X3_statusOf hts qM_X3_46 ⟨by decide, by decide⟩) (rc_X3 G) rfl rfl hl.1 rfl (Nat.le_of_ble_eq_true rfl) dX3_judge_3 ⟨Nat.le_refl _, Nat.le_refl _⟩ (fun H locs G => ?_)
  refine r_iconst hx hb dX3_judge_6 ?_
  refine r_icmp_ne (tgt := 20) hx hb ⟨by omega, by omega⟩ ⟨by decide, by decide⟩ dX3_judge_7 (by decide) (fun h_1 => ?_) (fun h_1 => ?_)
  · skip
    refine r_iconst hx hb dX3_judge_20 ?_
    exact r_iret hx hb hr hlk G (by unfold jud; (repeat' split) <;> omega) (by rfl) dX3_judge_21
  · skip
    refine lv_iload_n hx hb dX3_judge_10 rfl (lv_at hl 3 rfl) ?_
    refine lv_aload_n hx hb dX3_judge_11 rfl (lv_at hl 0 rfl) ?_
    refine lv_iload_n hx hb dX3_judge_12 rfl (lv_at hl 1 rfl) ?_
    refine lv_iload_n hx hb dX3_judge_13 rfl (lv_at hl 2 rfl) ?_
    refine r_callVI ⟨hx, hb, hml, hown, hts⟩ G (k_X3_roundOf l (k := k) (y := y) (σ := σ) (by omega) (by omega)) (kV_X3_roundOf hts qM_X3_67 ⟨by decide, by decide⟩) (rc_X3 G) rfl rfl hl.1 rfl (Nat.le_of_ble_eq_true rfl) dX3_judge_14 ⟨Nat.le_refl _, Nat.le_refl _⟩ (fun H locs G => ?_)
    refine r_icmp_le (tgt := 22) hx hb ⟨by omega, by omega⟩ ⟨by omega, by omega⟩ dX3_judge_17 (by decide) (fun h_2 => ?_) (fun h_2 => ?_)
    · skip
      refine lv_iload_n hx hb dX3_judge_22 rfl (lv_at hl 3 rfl) ?_
      refine lv_aload_n hx hb dX3_judge_23 rfl (lv_at hl 0 rfl) ?_
      refine lv_iload_n hx hb dX3_judge_24 rfl (lv_at hl 1 rfl) ?_
      refine lv_iload_n hx hb dX3_judge_25 rfl (lv_at hl 2 rfl) ?_
      refine r_callVI ⟨hx, hb, hml, hown, hts⟩ G (k_X3_roundOf l (k := k) (y := y) (σ := σ) (by omega) (by omega)) (kV_X3_roundOf hts qM_X3_67 ⟨by decide, by decide⟩) (rc_X3 G) rfl rfl hl.1 rfl (Nat.le_of_ble_eq_true rfl) dX3_judge_26 ⟨Nat.le_refl _, Nat.le_refl _⟩ (fun H locs G => ?_)
      refine r_icmp_ge (tgt := 36) hx hb ⟨by omega, by omega⟩ ⟨by omega, by omega⟩ dX3_judge_29 (by decide) (fun h_3 => ?_) (fun h_3 => ?_)
      · skip
        refine r_iconst hx hb dX3_judge_36 ?_
        exact r_iret hx hb hr hlk G (by unfold jud; (repeat' split) <;> omega) (by rfl) dX3_judge_37
      · skip
        refine r_iconst hx hb dX3_judge_32 ?_
        refine lv_goto (tgt := 37) hx hb dX3_judge_33 (by decide) ?_
        exact r_iret hx hb hr hlk G (by unfold jud; (repeat' split) <;> omega) (by rfl) dX3_judge_37
    · skip
      refine r_iconst hx hb dX3_judge_20 ?_
      exact r_iret hx hb hr hlk G (by unfold jud; (repeat' split) <;> omega) (by rfl) dX3_judge_21
set_option maxRecDepth 100000 in
set_option maxHeartbeats 4000000 in
theorem k_X3_canPass (l : Launch) {σ : Mem} {q : Int} (hq : inR q) (hI : IC σ) : CtI l yX3_canPass (Cond.code yX3_canPass cX3_canPass 2 (some .boolean)) 0 0 (fun z => [.ref (z + 2), .int (kI q)]) σ (bz (q ≤ 9999 - σ 2 0)) σ := by
  intro D T z
  refine Ct_of (by decide) (Nat.le_of_ble_eq_true rfl) ?_
  intro p e s m below meth c ls hx hb hml hr hts hown hlk G hl
  have hown : s.vm.findClass RX3 = some m.cls := hown
  have hl : lv_has ls 2 [(0, .ref (z + 2)), (1, .int (kI q))] := hl
  have hd := hI.1
  refine lv_iload_n hx hb dX3_canPass_0 rfl (lv_at hl 1 rfl) ?_
  refine r_sipush hx hb dX3_canPass_1 (by decide +kernel) ?_
  refine lv_aload_n hx hb dX3_canPass_4 rfl (lv_at hl 0 rfl) ?_
  refine gf_X3_27 hx hb hts hown G dX3_canPass_5 ?_
  refine r_isub hx hb dX3_canPass_8 ?_
  refine r_icmp_gt (tgt := 16) hx hb ⟨by omega, by omega⟩ ⟨by omega, by omega⟩ dX3_canPass_9 (by decide) (fun h_1 => ?_) (fun h_1 => ?_)
  · skip
    refine r_iconst hx hb dX3_canPass_16 ?_
    exact r_zret hx hb hr hlk G (Or.inl rfl) (by first | exact one_bz (by omega) | exact zero_bz (by omega)) (by rfl) dX3_canPass_17
  · skip
    refine r_iconst hx hb dX3_canPass_12 ?_
    refine lv_goto (tgt := 17) hx hb dX3_canPass_13 (by decide) ?_
    exact r_zret hx hb hr hlk G (Or.inr rfl) (by first | exact one_bz (by omega) | exact zero_bz (by omega)) (by rfl) dX3_canPass_17
set_option maxRecDepth 100000 in
set_option maxHeartbeats 4000000 in
theorem k_X3_letPass (l : Launch) {σ : Mem} {q : Int}  : CtV l yX3_letPass (Cond.code yX3_letPass cX3_letPass 2 none) 0 0 (fun z => [.ref (z + 2), .int (kI q)]) σ (up σ 2 0 (σ 2 0 + q)) := by
  intro D T z
  refine Ct_of (by decide) (Nat.le_of_ble_eq_true rfl) ?_
  intro p e s m below meth c ls hx hb hml hr hts hown hlk G hl
  have hown : s.vm.findClass RX3 = some m.cls := hown
  have hl : lv_has ls 2 [(0, .ref (z + 2)), (1, .int (kI q))] := hl
  refine lv_aload_n hx hb dX3_letPass_0 rfl (lv_at hl 0 rfl) ?_
  refine lv_dup hx hb dX3_letPass_1 rfl ?_
  refine gf_X3_27 hx hb hts hown G dX3_letPass_2 ?_
  refine lv_iload_n hx hb dX3_letPass_5 rfl (lv_at hl 1 rfl) ?_
  refine r_iadd hx hb dX3_letPass_6 ?_
  refine pf_X3_27 hx hb hts hown G dX3_letPass_7 (fun H locs G => ?_)
  exact r_vret hx hb hr hlk G (by rfl) dX3_letPass_10
set_option maxRecDepth 100000 in
set_option maxHeartbeats 4000000 in
theorem k_X3_howManyOfAll (l : Launch) {σ : Mem} {w : Int} (hw : inR w) (hI : IC σ) : CtI l yX3_howManyOfAll (Cond.code yX3_howManyOfAll cX3_howManyOfAll 4 (some .int)) 2 46 (fun z => [.ref (z + 2), .int (kI w)]) σ (hma σ w) σ := by
  intro D T z
  refine Ct_of (by decide) (Nat.le_of_ble_eq_true rfl) ?_
  intro p e s m below meth c ls hx hb hml hr hts hown hlk G hl
  have hown : s.vm.findClass RX3 = some m.cls := hown
  have hl : lv_has ls 4 [(0, .ref (z + 2)), (1, .int (kI w))] := hl
  refine r_iconst hx hb dX3_howManyOfAll_0 ?_
  refine lv_istore_n (lv' := [(2, .int (kI 0)), (0, .ref (z + 2)), (1, .int (kI w))]) hx hb dX3_howManyOfAll_1 rfl hl (by decide) rfl (fun ls hl => ?_)
  refine r_iconst hx hb dX3_howManyOfAll_2 ?_
  refine lv_istore_n (lv' := [(3, .int (kI 0)), (2, .int (kI 0)), (0, .ref (z + 2)), (1, .int (kI w))]) hx hb dX3_howManyOfAll_3 rfl hl (by decide) rfl (fun ls hl => ?_)
  have lp4 : ∀ (d : Nat) (v : Int) (i : Int), (0 ≤ i) → (i ≤ 4) → (v = it (fun k v => v + hm σ k w) 0 i) → (4 - i : Int) < (d : Int) → ∀ (H : Heap) (locs : List Loc), Wd D T z 133 σ s H locs → ∀ (ls : Array Slot), lv_has ls 4 [(0, .ref (z + 2)), (1, .int (kI w)), (2, .int (kI v)), (3, .int (kI i))] → W p l e (rmN 2 46) s m ([.ref (z + 2), .int (kI w)] : List Value).toArray below meth c H locs 0 0 (MQ below (QI D T z 133 (hma σ w) σ) ([.ref (z + 2), .int (kI w)] : List Value).toArray s 0 0 (Own T z)) (F0 m 4 ls []) := by
    intro d
    induction d with
    | zero => intro v i h0 h1 hv hd; exact absurd hd (by omega)
    | succ d ih4 =>
      intro v i h0 h1 hv hd H locs G ls hl
      refine lv_iload_n hx hb dX3_howManyOfAll_4 rfl (lv_at hl 3 rfl) ?_
      refine r_iconst hx hb dX3_howManyOfAll_5 ?_
      refine r_icmp_ge (tgt := 24) hx hb ⟨by omega, by omega⟩ ⟨by decide, by decide⟩ dX3_howManyOfAll_6 (by decide) (fun h_1 => ?_) (fun h_1 => ?_)
      · skip
        refine lv_iload_n hx hb dX3_howManyOfAll_24 rfl (lv_at hl 2 rfl) ?_
        exact r_iret hx hb hr hlk G (by obtain rfl : i = 4 := (by omega); exact hv) (by rfl) dX3_howManyOfAll_25
      · skip
        refine lv_iload_n hx hb dX3_howManyOfAll_9 rfl (lv_at hl 2 rfl) ?_
        refine lv_aload_n hx hb dX3_howManyOfAll_10 rfl (lv_at hl 0 rfl) ?_
        refine lv_iload_n hx hb dX3_howManyOfAll_11 rfl (lv_at hl 3 rfl) ?_
        refine lv_iload_n hx hb dX3_howManyOfAll_12 rfl (lv_at hl 1 rfl) ?_
        refine r_callVI ⟨hx, hb, hml, hown, hts⟩ G (k_X3_howMany l (k := i) (w := w) (σ := σ) (by omega) (hw) (hI)) (kV_X3_howMany hts qM_X3_57 ⟨by decide, by decide⟩) (rc_X3 G) rfl rfl hl.1 rfl (Nat.le_of_ble_eq_true rfl) dX3_howManyOfAll_13 ⟨Nat.le_refl _, Nat.le_refl _⟩ (fun H locs G => ?_)
        refine r_iadd hx hb dX3_howManyOfAll_16 ?_
        refine lv_istore_n (lv' := [(2, .int (kI (v + hm σ i w))), (0, .ref (z + 2)), (1, .int (kI w)), (3, .int (kI i))]) hx hb dX3_howManyOfAll_17 rfl hl (by decide) rfl (fun ls hl => ?_)
        refine r_iinc (lv' := [(3, .int (kI (i + 1))), (2, .int (kI (v + hm σ i w))), (0, .ref (z + 2)), (1, .int (kI w))]) hx hb dX3_howManyOfAll_18 hl (k := 3) rfl (by decide) rfl (fun ls hl => ?_)
        refine lv_goto (tgt := 4) hx hb dX3_howManyOfAll_21 (by decide) ?_
        exact ih4 (v + hm σ i w) (i + 1) (by omega) (by omega) (by subst hv; exact (it_s (f := fun k v => v + hm σ k w) (a := 0) h0).symm) (by omega) _ _ G _ (lv_sub hl [2, 3, 1, 0] rfl)
  exact lp4 5 0 0 (by omega) (by omega) (rfl) (by omega) _ _ G _ (lv_sub hl [2, 3, 1, 0] rfl)
set_option maxRecDepth 100000 in
set_option maxHeartbeats 4000000 in
theorem k_X3_howManyRipe (l : Launch) {σ : Mem} {k : Int} (hk : 0 ≤ k ∧ k < 4) (hI : IC σ) : CtI l yX3_howManyRipe (Cond.code yX3_howManyRipe cX3_howManyRipe 4 (some .int)) 1 23 (fun z => [.ref (z + 2), .int (kI k)]) σ (hrp σ k) σ := by
  intro D T z
  refine Ct_of (by decide) (Nat.le_of_ble_eq_true rfl) ?_
  intro p e s m below meth c ls hx hb hml hr hts hown hlk G hl
  have hown : s.vm.findClass RX3 = some m.cls := hown
  have hl : lv_has ls 4 [(0, .ref (z + 2)), (1, .int (kI k))] := hl
  refine r_iconst hx hb dX3_howManyRipe_0 ?_
  refine lv_istore_n (lv' := [(2, .int (kI 0)), (0, .ref (z + 2)), (1, .int (kI k))]) hx hb dX3_howManyRipe_1 rfl hl (by decide) rfl (fun ls hl => ?_)
  refine r_iconst hx hb dX3_howManyRipe_2 ?_
  refine lv_istore_n (lv' := [(3, .int (kI 0)), (2, .int (kI 0)), (0, .ref (z + 2)), (1, .int (kI k))]) hx hb dX3_howManyRipe_3 rfl hl (by decide) rfl (fun ls hl => ?_)
  have lp4 : ∀ (d : Nat) (v : Int) (i : Int), (0 ≤ i) → (i ≤ 16) → (v = cn (fun y => ripe σ k y) i) → (16 - i : Int) < (d : Int) → ∀ (H : Heap) (locs : List Loc), Wd D T z 133 σ s H locs → ∀ (ls : Array Slot), lv_has ls 4 [(0, .ref (z + 2)), (1, .int (kI k)), (2, .int (kI v)), (3, .int (kI i))] → W p l e (rmN 1 23) s m ([.ref (z + 2), .int (kI k)] : List Value).toArray below meth c H locs 0 0 (MQ below (QI D T z 133 (hrp σ k) σ) ([.ref (z + 2), .int (kI k)] : List Value).toArray s 0 0 (Own T z)) (F0 m 4 ls []) := by
    intro d
    induction d with
    | zero => intro v i h0 h1 hv hd; exact absurd hd (by omega)
    | succ d ih4 =>
      intro v i h0 h1 hv hd H locs G ls hl
      refine lv_iload_n hx hb dX3_howManyRipe_4 rfl (lv_at hl 3 rfl) ?_
      refine r_bipush hx hb dX3_howManyRipe_5 (by decide +kernel) ?_
      refine r_icmp_ge (tgt := 28) hx hb ⟨by omega, by omega⟩ ⟨by decide, by decide⟩ dX3_howManyRipe_7 (by decide) (fun h_1 => ?_) (fun h_1 => ?_)
      · skip
        refine lv_iload_n hx hb dX3_howManyRipe_28 rfl (lv_at hl 2 rfl) ?_
        exact r_iret hx hb hr hlk G (by obtain rfl : i = 16 := (by omega); exact hv) (by rfl) dX3_howManyRipe_29
      · skip
        refine lv_aload_n hx hb dX3_howManyRipe_10 rfl (lv_at hl 0 rfl) ?_
        refine lv_iload_n hx hb dX3_howManyRipe_11 rfl (lv_at hl 1 rfl) ?_
        refine lv_iload_n hx hb dX3_howManyRipe_12 rfl (lv_at hl 3 rfl) ?_
        refine r_callVI ⟨hx, hb, hml, hown, hts⟩ G (k_X3_isRipe l (k := k) (y := i) (σ := σ) (by omega) (by omega) (hI)) (kV_X3_isRipe hts qM_X3_49 ⟨by decide, by decide⟩) (rc_X3 G) rfl rfl hl.1 rfl (Nat.le_of_ble_eq_true rfl) dX3_howManyRipe_13 ⟨Nat.le_refl _, Nat.le_refl _⟩ (fun H locs G => ?_)
        refine r_zeq (tgt := 22) hx hb dX3_howManyRipe_16 (by decide) (fun h_2 => ?_) (fun h_2 => ?_)
        · skip
          have hq := h_2
          refine r_iinc (lv' := [(3, .int (kI (i + 1))), (0, .ref (z + 2)), (1, .int (kI k)), (2, .int (kI v))]) hx hb dX3_howManyRipe_22 hl (k := 3) rfl (by decide) rfl (fun ls hl => ?_)
          refine lv_goto (tgt := 4) hx hb dX3_howManyRipe_25 (by decide) ?_
          exact ih4 v (i + 1) (by omega) (by omega) (by first | exact cn_t h0 hv hq | exact cn_f h0 hv hq) (by omega) _ _ G _ (lv_sub hl [1, 2, 3, 0] rfl)
        · skip
          have hq := h_2
          refine r_iinc (lv' := [(2, .int (kI (v + 1))), (0, .ref (z + 2)), (1, .int (kI k)), (3, .int (kI i))]) hx hb dX3_howManyRipe_19 hl (k := 2) rfl (by decide) rfl (fun ls hl => ?_)
          refine r_iinc (lv' := [(3, .int (kI (i + 1))), (2, .int (kI (v + 1))), (0, .ref (z + 2)), (1, .int (kI k))]) hx hb dX3_howManyRipe_22 hl (k := 3) rfl (by decide) rfl (fun ls hl => ?_)
          refine lv_goto (tgt := 4) hx hb dX3_howManyRipe_25 (by decide) ?_
          exact ih4 (v + 1) (i + 1) (by omega) (by omega) (by first | exact cn_t h0 hv hq | exact cn_f h0 hv hq) (by omega) _ _ G _ (lv_sub hl [2, 3, 1, 0] rfl)
  exact lp4 17 0 0 (by omega) (by omega) (rfl) (by omega) _ _ G _ (lv_sub hl [2, 3, 1, 0] rfl)
set_option maxRecDepth 100000 in
set_option maxHeartbeats 4000000 in
theorem k_X3_howManyRipeOfAll (l : Launch) {σ : Mem} (hI : IC σ) : CtI l yX3_howManyRipeOfAll (Cond.code yX3_howManyRipeOfAll cX3_howManyRipeOfAll 3 (some .int)) 2 46 (fun z => [.ref (z + 2)]) σ (hra σ) σ := by
  intro D T z
  refine Ct_of (by decide) (Nat.le_of_ble_eq_true rfl) ?_
  intro p e s m below meth c ls hx hb hml hr hts hown hlk G hl
  have hown : s.vm.findClass RX3 = some m.cls := hown
  have hl : lv_has ls 3 [(0, .ref (z + 2))] := hl
  refine r_iconst hx hb dX3_howManyRipeOfAll_0 ?_
  refine lv_istore_n (lv' := [(1, .int (kI 0)), (0, .ref (z + 2))]) hx hb dX3_howManyRipeOfAll_1 rfl hl (by decide) rfl (fun ls hl => ?_)
  refine r_iconst hx hb dX3_howManyRipeOfAll_2 ?_
  refine lv_istore_n (lv' := [(2, .int (kI 0)), (1, .int (kI 0)), (0, .ref (z + 2))]) hx hb dX3_howManyRipeOfAll_3 rfl hl (by decide) rfl (fun ls hl => ?_)
  have lp4 : ∀ (d : Nat) (v : Int) (i : Int), (0 ≤ i) → (i ≤ 4) → (v = it (fun k v => v + hrp σ k) 0 i) → (4 - i : Int) < (d : Int) → ∀ (H : Heap) (locs : List Loc), Wd D T z 133 σ s H locs → ∀ (ls : Array Slot), lv_has ls 3 [(0, .ref (z + 2)), (1, .int (kI v)), (2, .int (kI i))] → W p l e (rmN 2 46) s m ([.ref (z + 2)] : List Value).toArray below meth c H locs 0 0 (MQ below (QI D T z 133 (hra σ) σ) ([.ref (z + 2)] : List Value).toArray s 0 0 (Own T z)) (F0 m 4 ls []) := by
    intro d
    induction d with
    | zero => intro v i h0 h1 hv hd; exact absurd hd (by omega)
    | succ d ih4 =>
      intro v i h0 h1 hv hd H locs G ls hl
      refine lv_iload_n hx hb dX3_howManyRipeOfAll_4 rfl (lv_at hl 2 rfl) ?_
      refine r_iconst hx hb dX3_howManyRipeOfAll_5 ?_
      refine r_icmp_ge (tgt := 23) hx hb ⟨by omega, by omega⟩ ⟨by decide, by decide⟩ dX3_howManyRipeOfAll_6 (by decide) (fun h_1 => ?_) (fun h_1 => ?_)
      · skip
        refine lv_iload_n hx hb dX3_howManyRipeOfAll_23 rfl (lv_at hl 1 rfl) ?_
        exact r_iret hx hb hr hlk G (by obtain rfl : i = 4 := (by omega); exact hv) (by rfl) dX3_howManyRipeOfAll_24
      · skip
        refine lv_iload_n hx hb dX3_howManyRipeOfAll_9 rfl (lv_at hl 1 rfl) ?_
        refine lv_aload_n hx hb dX3_howManyRipeOfAll_10 rfl (lv_at hl 0 rfl) ?_
        refine lv_iload_n hx hb dX3_howManyRipeOfAll_11 rfl (lv_at hl 2 rfl) ?_
        refine r_callVI ⟨hx, hb, hml, hown, hts⟩ G (k_X3_howManyRipe l (k := i) (σ := σ) (by omega) (hI)) (kV_X3_howManyRipe hts qM_X3_70 ⟨by decide, by decide⟩) (rc_X3 G) rfl rfl hl.1 rfl (Nat.le_of_ble_eq_true rfl) dX3_howManyRipeOfAll_12 ⟨Nat.le_refl _, Nat.le_refl _⟩ (fun H locs G => ?_)
        refine r_iadd hx hb dX3_howManyRipeOfAll_15 ?_
        refine lv_istore_n (lv' := [(1, .int (kI (v + hrp σ i))), (0, .ref (z + 2)), (2, .int (kI i))]) hx hb dX3_howManyRipeOfAll_16 rfl hl (by decide) rfl (fun ls hl => ?_)
        refine r_iinc (lv' := [(2, .int (kI (i + 1))), (1, .int (kI (v + hrp σ i))), (0, .ref (z + 2))]) hx hb dX3_howManyRipeOfAll_17 hl (k := 2) rfl (by decide) rfl (fun ls hl => ?_)
        refine lv_goto (tgt := 4) hx hb dX3_howManyRipeOfAll_20 (by decide) ?_
        exact ih4 (v + hrp σ i) (i + 1) (by omega) (by omega) (by subst hv; exact (it_s (f := fun k v => v + hrp σ k) (a := 0) h0).symm) (by omega) _ _ G _ (lv_sub hl [2, 1, 0] rfl)
  exact lp4 5 0 0 (by omega) (by omega) (rfl) (by omega) _ _ G _ (lv_sub hl [2, 1, 0] rfl)
set_option maxRecDepth 100000 in
set_option maxHeartbeats 4000000 in
theorem k_X3_greatestRound (l : Launch) {σ : Mem} (hI : IC σ) : CtI l yX3_greatestRound (Cond.code yX3_greatestRound cX3_greatestRound 3 (some .int)) 1 13 (fun z => [.ref (z + 2)]) σ (gro σ) σ := by
  intro D T z
  refine Ct_of (by decide) (Nat.le_of_ble_eq_true rfl) ?_
  intro p e s m below meth c ls hx hb hml hr hts hown hlk G hl
  have hown : s.vm.findClass RX3 = some m.cls := hown
  have hl : lv_has ls 3 [(0, .ref (z + 2))] := hl
  refine r_iconst hx hb dX3_greatestRound_0 ?_
  refine lv_istore_n (lv' := [(1, .int (kI 0)), (0, .ref (z + 2))]) hx hb dX3_greatestRound_1 rfl hl (by decide) rfl (fun ls hl => ?_)
  refine r_iconst hx hb dX3_greatestRound_2 ?_
  refine lv_istore_n (lv' := [(2, .int (kI 0)), (1, .int (kI 0)), (0, .ref (z + 2))]) hx hb dX3_greatestRound_3 rfl hl (by decide) rfl (fun ls hl => ?_)
  have lp4 : ∀ (d : Nat) (v : Int) (i : Int), (0 ≤ i) → (i ≤ 64) → (inR v) → (v = it (fun j v => if v < σ 5 j then σ 5 j else v) 0 i) → (64 - i : Int) < (d : Int) → ∀ (H : Heap) (locs : List Loc), Wd D T z 133 σ s H locs → ∀ (ls : Array Slot), lv_has ls 3 [(0, .ref (z + 2)), (1, .int (kI v)), (2, .int (kI i))] → W p l e (rmN 1 13) s m ([.ref (z + 2)] : List Value).toArray below meth c H locs 0 0 (MQ below (QI D T z 133 (gro σ) σ) ([.ref (z + 2)] : List Value).toArray s 0 0 (Own T z)) (F0 m 4 ls []) := by
    intro d
    induction d with
    | zero => intro v i h0 h1 hr0 hv hd; exact absurd hd (by omega)
    | succ d ih4 =>
      intro v i h0 h1 hr0 hv hd H locs G ls hl
      refine lv_iload_n hx hb dX3_greatestRound_4 rfl (lv_at hl 2 rfl) ?_
      refine r_bipush hx hb dX3_greatestRound_5 (by decide +kernel) ?_
      refine r_icmp_ge (tgt := 27) hx hb ⟨by omega, by omega⟩ ⟨by decide, by decide⟩ dX3_greatestRound_7 (by decide) (fun h_1 => ?_) (fun h_1 => ?_)
      · skip
        refine lv_iload_n hx hb dX3_greatestRound_27 rfl (lv_at hl 1 rfl) ?_
        exact r_iret hx hb hr hlk G (by obtain rfl : i = 64 := (by omega); exact hv) (by rfl) dX3_greatestRound_28
      · skip
        have hi := hI.2.2 i (by omega) (by omega)
        refine lv_iload_n hx hb dX3_greatestRound_10 rfl (lv_at hl 1 rfl) ?_
        refine lv_aload_n hx hb dX3_greatestRound_11 rfl (lv_at hl 0 rfl) ?_
        refine gf_X3_18 hx hb hts hown G dX3_greatestRound_12 ?_
        refine lv_iload_n hx hb dX3_greatestRound_15 rfl (lv_at hl 2 rfl) ?_
        refine r_iald hx hb G 5 (by decide) (N := 64) (fun _ => rfl) (by omega) (by omega) (by decide) dX3_greatestRound_16 ?_
        refine r_max ⟨hx, hb, hml, hown, hts⟩ hl.1 qM_X3_41 ⟨Nat.le_of_ble_eq_true rfl, Nat.le_of_ble_eq_true rfl⟩ ⟨Nat.le_refl _, Nat.le_refl _⟩ ⟨by omega, by omega⟩ ⟨by omega, by omega⟩ dX3_greatestRound_17 ?_
        refine lv_istore_n (lv' := [(1, .int (kI (if v < (σ 5 i) then (σ 5 i) else v))), (0, .ref (z + 2)), (2, .int (kI i))]) hx hb dX3_greatestRound_20 rfl hl (by decide) rfl (fun ls hl => ?_)
        refine r_iinc (lv' := [(2, .int (kI (i + 1))), (1, .int (kI (if v < (σ 5 i) then (σ 5 i) else v))), (0, .ref (z + 2))]) hx hb dX3_greatestRound_21 hl (k := 2) rfl (by decide) rfl (fun ls hl => ?_)
        refine lv_goto (tgt := 4) hx hb dX3_greatestRound_24 (by decide) ?_
        exact ih4 (if v < (σ 5 i) then (σ 5 i) else v) (i + 1) (by omega) (by omega) (by split <;> constructor <;> omega) (by subst hv; exact (it_s (f := fun j v => if v < σ 5 j then σ 5 j else v) (a := 0) h0).symm) (by omega) _ _ G _ (lv_sub hl [2, 1, 0] rfl)
  exact lp4 65 0 0 (by omega) (by omega) (⟨by decide, by decide⟩) (rfl) (by omega) _ _ G _ (lv_sub hl [2, 1, 0] rfl)
set_option maxRecDepth 100000 in
set_option maxHeartbeats 4000000 in
theorem k_X3_propertyOfKey (l : Launch) {σ : Mem} {k y w : Int} (hk : 0 ≤ k ∧ k < 4) (hy : 0 ≤ y ∧ y < 16) (hw : inR w) (hI : IC σ) : CtI l yX3_propertyOfKey (Cond.code yX3_propertyOfKey cX3_propertyOfKey 4 (some .int)) 2 44 (fun z => [.ref (z + 2), .int (kI k), .int (kI y), .int (kI w)]) σ (pok σ k y w) σ := by
  intro D T z
  refine Ct_of (by decide) (Nat.le_of_ble_eq_true rfl) ?_
  intro p e s m below meth c ls hx hb hml hr hts hown hlk G hl
  have hown : s.vm.findClass RX3 = some m.cls := hown
  have hl : lv_has ls 4 [(0, .ref (z + 2)), (1, .int (kI k)), (2, .int (kI y)), (3, .int (kI w))] := hl
  have hi := hI.2.2 (k * 16 + y) (by omega) (by omega)
  refine lv_iload_n hx hb dX3_propertyOfKey_0 rfl (lv_at hl 3 rfl) ?_
  refine r_if_ne (tgt := 11) hx hb ⟨by omega, by omega⟩ dX3_propertyOfKey_1 (by decide) (fun h_1 => ?_) (fun h_1 => ?_)
  · skip
    refine lv_iload_n hx hb dX3_propertyOfKey_11 rfl (lv_at hl 3 rfl) ?_
    refine r_iconst hx hb dX3_propertyOfKey_12 ?_
    refine r_icmp_ne (tgt := 23) hx hb ⟨by omega, by omega⟩ ⟨by decide, by decide⟩ dX3_propertyOfKey_13 (by decide) (fun h_2 => ?_) (fun h_2 => ?_)
    · skip
      refine lv_aload_n hx hb dX3_propertyOfKey_23 rfl (lv_at hl 0 rfl) ?_
      refine lv_iload_n hx hb dX3_propertyOfKey_24 rfl (lv_at hl 1 rfl) ?_
      refine lv_iload_n hx hb dX3_propertyOfKey_25 rfl (lv_at hl 2 rfl) ?_
      refine r_callVI ⟨hx, hb, hml, hown, hts⟩ G (k_X3_statusOf l (k := k) (y := y) (σ := σ) (by omega) (by omega)) (kV_X3_statusOf hts qM_X3_46 ⟨by decide, by decide⟩) (rc_X3 G) rfl rfl hl.1 rfl (Nat.le_of_ble_eq_true rfl) dX3_propertyOfKey_26 ⟨Nat.le_refl _, Nat.le_refl _⟩ (fun H locs G => ?_)
      refine r_iconst hx hb dX3_propertyOfKey_29 ?_
      refine r_icmp_eq (tgt := 35) hx hb ⟨by omega, by omega⟩ ⟨by decide, by decide⟩ dX3_propertyOfKey_30 (by decide) (fun h_3 => ?_) (fun h_3 => ?_)
      · skip
        refine lv_iload_n hx hb dX3_propertyOfKey_35 rfl (lv_at hl 3 rfl) ?_
        refine r_iconst hx hb dX3_propertyOfKey_36 ?_
        refine r_icmp_ne (tgt := 52) hx hb ⟨by omega, by omega⟩ ⟨by decide, by decide⟩ dX3_propertyOfKey_37 (by decide) (fun h_4 => ?_) (fun h_4 => ?_)
        · skip
          refine lv_iload_n hx hb dX3_propertyOfKey_52 rfl (lv_at hl 3 rfl) ?_
          refine r_iconst hx hb dX3_propertyOfKey_53 ?_
          refine r_icmp_ne (tgt := 66) hx hb ⟨by omega, by omega⟩ ⟨by decide, by decide⟩ dX3_propertyOfKey_54 (by decide) (fun h_5 => ?_) (fun h_5 => ?_)
          · skip
            refine lv_aload_n hx hb dX3_propertyOfKey_66 rfl (lv_at hl 0 rfl) ?_
            refine lv_iload_n hx hb dX3_propertyOfKey_67 rfl (lv_at hl 1 rfl) ?_
            refine lv_iload_n hx hb dX3_propertyOfKey_68 rfl (lv_at hl 2 rfl) ?_
            refine r_callVI ⟨hx, hb, hml, hown, hts⟩ G (k_X3_daysToRipe l (k := k) (y := y) (σ := σ) (by omega) (by omega) (hI)) (kV_X3_daysToRipe hts qM_X3_74 ⟨by decide, by decide⟩) (rc_X3 G) rfl rfl hl.1 rfl (Nat.le_of_ble_eq_true rfl) dX3_propertyOfKey_69 ⟨Nat.le_refl _, Nat.le_refl _⟩ (fun H locs G => ?_)
            exact r_iret hx hb hr hlk G (by unfold pok; (repeat' split) <;> omega) (by rfl) dX3_propertyOfKey_72
          · skip
            refine lv_aload_n hx hb dX3_propertyOfKey_57 rfl (lv_at hl 0 rfl) ?_
            refine lv_iload_n hx hb dX3_propertyOfKey_58 rfl (lv_at hl 1 rfl) ?_
            refine lv_iload_n hx hb dX3_propertyOfKey_59 rfl (lv_at hl 2 rfl) ?_
            refine r_callVI ⟨hx, hb, hml, hown, hts⟩ G (k_X3_daysLain l (k := k) (y := y) (σ := σ) (by omega) (by omega)) (kV_X3_daysLain hts qM_X3_37 ⟨by decide, by decide⟩) (rc_X3 G) rfl rfl hl.1 rfl (Nat.le_of_ble_eq_true rfl) dX3_propertyOfKey_60 ⟨Nat.le_refl _, Nat.le_refl _⟩ (fun H locs G => ?_)
            refine lv_goto (tgt := 72) hx hb dX3_propertyOfKey_63 (by decide) ?_
            exact r_iret hx hb hr hlk G (by unfold pok; (repeat' split) <;> omega) (by rfl) dX3_propertyOfKey_72
        · skip
          refine lv_aload_n hx hb dX3_propertyOfKey_40 rfl (lv_at hl 0 rfl) ?_
          refine gf_X3_21 hx hb hts hown G dX3_propertyOfKey_41 ?_
          refine lv_iload_n hx hb dX3_propertyOfKey_44 rfl (lv_at hl 1 rfl) ?_
          refine r_bipush hx hb dX3_propertyOfKey_45 (by decide +kernel) ?_
          refine r_imul hx hb dX3_propertyOfKey_47 ?_
          refine lv_iload_n hx hb dX3_propertyOfKey_48 rfl (lv_at hl 2 rfl) ?_
          refine r_iadd hx hb dX3_propertyOfKey_49 ?_
          refine r_iald hx hb G 6 (by decide) (N := 64) (fun _ => rfl) (by omega) (by omega) (by decide) dX3_propertyOfKey_50 ?_
          exact r_iret hx hb hr hlk G (by unfold pok; (repeat' split) <;> omega) (by rfl) dX3_propertyOfKey_51
      · skip
        refine r_iconst hx hb dX3_propertyOfKey_33 ?_
        exact r_iret hx hb hr hlk G (by unfold pok; (repeat' split) <;> omega) (by rfl) dX3_propertyOfKey_34
    · skip
      refine lv_aload_n hx hb dX3_propertyOfKey_16 rfl (lv_at hl 0 rfl) ?_
      refine lv_iload_n hx hb dX3_propertyOfKey_17 rfl (lv_at hl 1 rfl) ?_
      refine lv_iload_n hx hb dX3_propertyOfKey_18 rfl (lv_at hl 2 rfl) ?_
      refine r_callVI ⟨hx, hb, hml, hown, hts⟩ G (k_X3_roundOf l (k := k) (y := y) (σ := σ) (by omega) (by omega)) (kV_X3_roundOf hts qM_X3_67 ⟨by decide, by decide⟩) (rc_X3 G) rfl rfl hl.1 rfl (Nat.le_of_ble_eq_true rfl) dX3_propertyOfKey_19 ⟨Nat.le_refl _, Nat.le_refl _⟩ (fun H locs G => ?_)
      exact r_iret hx hb hr hlk G (by unfold pok; (repeat' split) <;> omega) (by rfl) dX3_propertyOfKey_22
  · skip
    refine lv_aload_n hx hb dX3_propertyOfKey_4 rfl (lv_at hl 0 rfl) ?_
    refine lv_iload_n hx hb dX3_propertyOfKey_5 rfl (lv_at hl 1 rfl) ?_
    refine lv_iload_n hx hb dX3_propertyOfKey_6 rfl (lv_at hl 2 rfl) ?_
    refine r_callVI ⟨hx, hb, hml, hown, hts⟩ G (k_X3_statusOf l (k := k) (y := y) (σ := σ) (by omega) (by omega)) (kV_X3_statusOf hts qM_X3_46 ⟨by decide, by decide⟩) (rc_X3 G) rfl rfl hl.1 rfl (Nat.le_of_ble_eq_true rfl) dX3_propertyOfKey_7 ⟨Nat.le_refl _, Nat.le_refl _⟩ (fun H locs G => ?_)
    exact r_iret hx hb hr hlk G (by unfold pok; (repeat' split) <;> omega) (by rfl) dX3_propertyOfKey_10
set_option maxRecDepth 100000 in
set_option maxHeartbeats 4000000 in
theorem k_X3_daysToKey (l : Launch) {σ : Mem} {k : Int} (hk : 0 ≤ k ∧ k < 4) (hI : IC σ) : CtI l yX3_daysToKey (Cond.code yX3_daysToKey cX3_daysToKey 5 (some .int)) 2 46 (fun z => [.ref (z + 2), .int (kI k)]) σ (dtk σ k) σ := by
  intro D T z
  refine Ct_of (by decide) (Nat.le_of_ble_eq_true rfl) ?_
  intro p e s m below meth c ls hx hb hml hr hts hown hlk G hl
  have hown : s.vm.findClass RX3 = some m.cls := hown
  have hl : lv_has ls 5 [(0, .ref (z + 2)), (1, .int (kI k))] := hl
  have hh := hm_rg (σ := σ) (k := k) (w := 0)
  refine lv_aload_n hx hb dX3_daysToKey_0 rfl (lv_at hl 0 rfl) ?_
  refine lv_iload_n hx hb dX3_daysToKey_1 rfl (lv_at hl 1 rfl) ?_
  refine r_iconst hx hb dX3_daysToKey_2 ?_
  refine r_callVI ⟨hx, hb, hml, hown, hts⟩ G (k_X3_howMany l (k := k) (w := 0) (σ := σ) (by omega) (⟨by decide, by decide⟩) (hI)) (kV_X3_howMany hts qM_X3_57 ⟨by decide, by decide⟩) (rc_X3 G) rfl rfl hl.1 rfl (Nat.le_of_ble_eq_true rfl) dX3_daysToKey_3 ⟨Nat.le_refl _, Nat.le_refl _⟩ (fun H locs G => ?_)
  refine r_if_le (tgt := 11) hx hb ⟨by omega, by omega⟩ dX3_daysToKey_6 (by decide) (fun h_1 => ?_) (fun h_1 => ?_)
  · skip
    refine r_iconst hx hb dX3_daysToKey_11 ?_
    refine lv_istore_n (lv' := [(2, .int (kI (-1))), (0, .ref (z + 2)), (1, .int (kI k))]) hx hb dX3_daysToKey_12 rfl hl (by decide) rfl (fun ls hl => ?_)
    refine r_iconst hx hb dX3_daysToKey_13 ?_
    refine lv_istore_n (lv' := [(3, .int (kI 0)), (2, .int (kI (-1))), (0, .ref (z + 2)), (1, .int (kI k))]) hx hb dX3_daysToKey_14 rfl hl (by decide) rfl (fun ls hl => ?_)
    have lp15 : ∀ (d : Nat) (v : Int) (i : Int), (0 ≤ i) → (i ≤ 16) → (-1 ≤ v ∧ v ≤ 99) → (v = it (dtkF σ k) (-1) i) → (16 - i : Int) < (d : Int) → ∀ (H : Heap) (locs : List Loc), Wd D T z 133 σ s H locs → ∀ (ls : Array Slot), lv_has ls 5 [(0, .ref (z + 2)), (1, .int (kI k)), (2, .int (kI v)), (3, .int (kI i))] → W p l e (rmN 2 46) s m ([.ref (z + 2), .int (kI k)] : List Value).toArray below meth c H locs 0 0 (MQ below (QI D T z 133 (dtk σ k) σ) ([.ref (z + 2), .int (kI k)] : List Value).toArray s 0 0 (Own T z)) (F0 m 15 ls []) := by
      intro d
      induction d with
      | zero => intro v i h0 h1 hr0 hv hd; exact absurd hd (by omega)
      | succ d ih15 =>
        intro v i h0 h1 hr0 hv hd H locs G ls hl
        refine lv_iload_n hx hb dX3_daysToKey_15 rfl (lv_at hl 3 rfl) ?_
        refine r_bipush hx hb dX3_daysToKey_16 (by decide +kernel) ?_
        refine r_icmp_ge (tgt := 62) hx hb ⟨by omega, by omega⟩ ⟨by decide, by decide⟩ dX3_daysToKey_18 (by decide) (fun h_2 => ?_) (fun h_2 => ?_)
        · skip
          refine lv_iload_n hx hb dX3_daysToKey_62 rfl (lv_at hl 2 rfl) ?_
          exact r_iret hx hb hr hlk G (by unfold dtk; rw [if_neg (by omega)]; obtain rfl : i = 16 := (by omega); exact hv) (by rfl) dX3_daysToKey_63
        · skip
          have hi := hI.2.2 (k * 16 + i) (by omega) (by omega)
          have hdt := dtr_rg hI hk ⟨h0, (by omega : i < 16)⟩
          refine lv_aload_n hx hb dX3_daysToKey_21 rfl (lv_at hl 0 rfl) ?_
          refine lv_iload_n hx hb dX3_daysToKey_22 rfl (lv_at hl 1 rfl) ?_
          refine lv_iload_n hx hb dX3_daysToKey_23 rfl (lv_at hl 3 rfl) ?_
          refine r_callVI ⟨hx, hb, hml, hown, hts⟩ G (k_X3_statusOf l (k := k) (y := i) (σ := σ) (by omega) (by omega)) (kV_X3_statusOf hts qM_X3_46 ⟨by decide, by decide⟩) (rc_X3 G) rfl rfl hl.1 rfl (Nat.le_of_ble_eq_true rfl) dX3_daysToKey_24 ⟨Nat.le_refl _, Nat.le_refl _⟩ (fun H locs G => ?_)
          refine r_iconst hx hb dX3_daysToKey_27 ?_
          refine r_icmp_eq (tgt := 34) hx hb ⟨by omega, by omega⟩ ⟨by decide, by decide⟩ dX3_daysToKey_28 (by decide) (fun h_3 => ?_) (fun h_3 => ?_)
          · skip
            refine lv_aload_n hx hb dX3_daysToKey_34 rfl (lv_at hl 0 rfl) ?_
            refine lv_iload_n hx hb dX3_daysToKey_35 rfl (lv_at hl 1 rfl) ?_
            refine lv_iload_n hx hb dX3_daysToKey_36 rfl (lv_at hl 3 rfl) ?_
            refine r_callVI ⟨hx, hb, hml, hown, hts⟩ G (k_X3_daysToRipe l (k := k) (y := i) (σ := σ) (by omega) (by omega) (hI)) (kV_X3_daysToRipe hts qM_X3_74 ⟨by decide, by decide⟩) (rc_X3 G) rfl rfl hl.1 rfl (Nat.le_of_ble_eq_true rfl) dX3_daysToKey_37 ⟨Nat.le_refl _, Nat.le_refl _⟩ (fun H locs G => ?_)
            refine lv_istore (lv' := [(4, .int (kI (dtr σ k i))), (0, .ref (z + 2)), (1, .int (kI k)), (2, .int (kI v)), (3, .int (kI i))]) hx hb dX3_daysToKey_40 hl (by decide) rfl (fun ls hl => ?_)
            refine lv_iload_n hx hb dX3_daysToKey_42 rfl (lv_at hl 3 rfl) ?_
            refine r_iconst hx hb dX3_daysToKey_43 ?_
            refine r_icmp_eq (tgt := 53) hx hb ⟨by omega, by omega⟩ ⟨by decide, by decide⟩ dX3_daysToKey_44 (by decide) (fun h_4 => ?_) (fun h_4 => ?_)
            · skip
              refine lv_iload hx hb dX3_daysToKey_53 (lv_at hl 0 rfl) ?_
              refine lv_istore_n (lv' := [(2, .int (kI (dtr σ k i))), (4, .int (kI (dtr σ k i))), (0, .ref (z + 2)), (1, .int (kI k)), (3, .int (kI i))]) hx hb dX3_daysToKey_55 rfl hl (by decide) rfl (fun ls hl => ?_)
              refine r_iinc (lv' := [(3, .int (kI (i + 1))), (2, .int (kI (dtr σ k i))), (4, .int (kI (dtr σ k i))), (0, .ref (z + 2)), (1, .int (kI k))]) hx hb dX3_daysToKey_56 hl (k := 4) rfl (by decide) rfl (fun ls hl => ?_)
              refine lv_goto (tgt := 15) hx hb dX3_daysToKey_59 (by decide) ?_
              exact ih15 (dtr σ k i) (i + 1) (by omega) (by omega) (by omega) (by rw [it_s h0, ← hv]; unfold dtkF; (repeat' split) <;> omega) (by omega) _ _ G _ (lv_sub hl [3, 4, 1, 0] rfl)
            · skip
              refine lv_iload hx hb dX3_daysToKey_47 (lv_at hl 0 rfl) ?_
              refine lv_iload_n hx hb dX3_daysToKey_49 rfl (lv_at hl 3 rfl) ?_
              refine r_icmp_ge (tgt := 56) hx hb ⟨by omega, by omega⟩ ⟨by omega, by omega⟩ dX3_daysToKey_50 (by decide) (fun h_5 => ?_) (fun h_5 => ?_)
              · skip
                refine r_iinc (lv' := [(3, .int (kI (i + 1))), (4, .int (kI (dtr σ k i))), (0, .ref (z + 2)), (1, .int (kI k)), (2, .int (kI v))]) hx hb dX3_daysToKey_56 hl (k := 4) rfl (by decide) rfl (fun ls hl => ?_)
                refine lv_goto (tgt := 15) hx hb dX3_daysToKey_59 (by decide) ?_
                exact ih15 v (i + 1) (by omega) (by omega) (by omega) (by rw [it_s h0, ← hv]; unfold dtkF; (repeat' split) <;> omega) (by omega) _ _ G _ (lv_sub hl [2, 3, 4, 0] rfl)
              · skip
                refine lv_iload hx hb dX3_daysToKey_53 (lv_at hl 0 rfl) ?_
                refine lv_istore_n (lv' := [(2, .int (kI (dtr σ k i))), (4, .int (kI (dtr σ k i))), (0, .ref (z + 2)), (1, .int (kI k)), (3, .int (kI i))]) hx hb dX3_daysToKey_55 rfl hl (by decide) rfl (fun ls hl => ?_)
                refine r_iinc (lv' := [(3, .int (kI (i + 1))), (2, .int (kI (dtr σ k i))), (4, .int (kI (dtr σ k i))), (0, .ref (z + 2)), (1, .int (kI k))]) hx hb dX3_daysToKey_56 hl (k := 4) rfl (by decide) rfl (fun ls hl => ?_)
                refine lv_goto (tgt := 15) hx hb dX3_daysToKey_59 (by decide) ?_
                exact ih15 (dtr σ k i) (i + 1) (by omega) (by omega) (by omega) (by rw [it_s h0, ← hv]; unfold dtkF; (repeat' split) <;> omega) (by omega) _ _ G _ (lv_sub hl [3, 4, 1, 0] rfl)
          · skip
            refine lv_goto (tgt := 56) hx hb dX3_daysToKey_31 (by decide) ?_
            refine r_iinc (lv' := [(3, .int (kI (i + 1))), (0, .ref (z + 2)), (1, .int (kI k)), (2, .int (kI v))]) hx hb dX3_daysToKey_56 hl (k := 3) rfl (by decide) rfl (fun ls hl => ?_)
            refine lv_goto (tgt := 15) hx hb dX3_daysToKey_59 (by decide) ?_
            exact ih15 v (i + 1) (by omega) (by omega) (by omega) (by rw [it_s h0, ← hv]; unfold dtkF; (repeat' split) <;> omega) (by omega) _ _ G _ (lv_sub hl [1, 2, 3, 0] rfl)
    exact lp15 17 (-1) 0 (by omega) (by omega) (by omega) (rfl) (by omega) _ _ G _ (lv_sub hl [2, 3, 1, 0] rfl)
  · skip
    refine r_iconst hx hb dX3_daysToKey_9 ?_
    exact r_iret hx hb hr hlk G (by unfold dtk; rw [if_pos (by omega)]) (by rfl) dX3_daysToKey_10
set_option maxRecDepth 100000 in
set_option maxHeartbeats 4000000 in
theorem k_X3_longestSeason (l : Launch) {σ : Mem} {k : Int} (hk : 0 ≤ k ∧ k < 4) (hI : IC σ) : CtI l yX3_longestSeason (Cond.code yX3_longestSeason cX3_longestSeason 4 (some .int)) 2 46 (fun z => [.ref (z + 2), .int (kI k)]) σ (lgs σ k) σ := by
  intro D T z
  refine Ct_of (by decide) (Nat.le_of_ble_eq_true rfl) ?_
  intro p e s m below meth c ls hx hb hml hr hts hown hlk G hl
  have hown : s.vm.findClass RX3 = some m.cls := hown
  have hl : lv_has ls 4 [(0, .ref (z + 2)), (1, .int (kI k))] := hl
  have hh := hm_rg (σ := σ) (k := k) (w := 0)
  have hd := hI.1
  refine lv_aload_n hx hb dX3_longestSeason_0 rfl (lv_at hl 0 rfl) ?_
  refine lv_iload_n hx hb dX3_longestSeason_1 rfl (lv_at hl 1 rfl) ?_
  refine r_iconst hx hb dX3_longestSeason_2 ?_
  refine r_callVI ⟨hx, hb, hml, hown, hts⟩ G (k_X3_howMany l (k := k) (w := 0) (σ := σ) (by omega) (⟨by decide, by decide⟩) (hI)) (kV_X3_howMany hts qM_X3_57 ⟨by decide, by decide⟩) (rc_X3 G) rfl rfl hl.1 rfl (Nat.le_of_ble_eq_true rfl) dX3_longestSeason_3 ⟨Nat.le_refl _, Nat.le_refl _⟩ (fun H locs G => ?_)
  refine r_if_le (tgt := 12) hx hb ⟨by omega, by omega⟩ dX3_longestSeason_6 (by decide) (fun h_1 => ?_) (fun h_1 => ?_)
  · skip
    refine r_iconst hx hb dX3_longestSeason_12 ?_
    refine lv_istore_n (lv' := [(2, .int (kI (-1))), (0, .ref (z + 2)), (1, .int (kI k))]) hx hb dX3_longestSeason_13 rfl hl (by decide) rfl (fun ls hl => ?_)
    refine r_iconst hx hb dX3_longestSeason_14 ?_
    refine lv_istore_n (lv' := [(3, .int (kI 0)), (2, .int (kI (-1))), (0, .ref (z + 2)), (1, .int (kI k))]) hx hb dX3_longestSeason_15 rfl hl (by decide) rfl (fun ls hl => ?_)
    have lp16 : ∀ (d : Nat) (v : Int) (i : Int), (0 ≤ i) → (i ≤ 16) → (-1 ≤ v ∧ v ≤ 9999) → (v = it (lgsF σ k) (-1) i) → (16 - i : Int) < (d : Int) → ∀ (H : Heap) (locs : List Loc), Wd D T z 133 σ s H locs → ∀ (ls : Array Slot), lv_has ls 4 [(0, .ref (z + 2)), (1, .int (kI k)), (2, .int (kI v)), (3, .int (kI i))] → W p l e (rmN 2 46) s m ([.ref (z + 2), .int (kI k)] : List Value).toArray below meth c H locs 0 0 (MQ below (QI D T z 133 (lgs σ k) σ) ([.ref (z + 2), .int (kI k)] : List Value).toArray s 0 0 (Own T z)) (F0 m 16 ls []) := by
      intro d
      induction d with
      | zero => intro v i h0 h1 hr0 hv hd; exact absurd hd (by omega)
      | succ d ih16 =>
        intro v i h0 h1 hr0 hv hd H locs G ls hl
        refine lv_iload_n hx hb dX3_longestSeason_16 rfl (lv_at hl 3 rfl) ?_
        refine r_bipush hx hb dX3_longestSeason_17 (by decide +kernel) ?_
        refine r_icmp_ge (tgt := 49) hx hb ⟨by omega, by omega⟩ ⟨by decide, by decide⟩ dX3_longestSeason_19 (by decide) (fun h_2 => ?_) (fun h_2 => ?_)
        · skip
          refine lv_iload_n hx hb dX3_longestSeason_49 rfl (lv_at hl 2 rfl) ?_
          refine r_bipush hx hb dX3_longestSeason_50 (by decide +kernel) ?_
          refine r_min ⟨hx, hb, hml, hown, hts⟩ hl.1 qM_X3_77 ⟨Nat.le_of_ble_eq_true rfl, Nat.le_of_ble_eq_true rfl⟩ ⟨Nat.le_refl _, Nat.le_refl _⟩ ⟨by omega, by omega⟩ ⟨by decide, by decide⟩ dX3_longestSeason_52 ?_
          exact r_iret hx hb hr hlk G (by obtain rfl : i = 16 := (by omega); unfold lgs; rw [← hv]; (repeat' split) <;> omega) (by rfl) dX3_longestSeason_55
        · skip
          have hi := hI.2.2 (k * 16 + i) (by omega) (by omega)
          refine lv_aload_n hx hb dX3_longestSeason_22 rfl (lv_at hl 0 rfl) ?_
          refine lv_iload_n hx hb dX3_longestSeason_23 rfl (lv_at hl 1 rfl) ?_
          refine lv_iload_n hx hb dX3_longestSeason_24 rfl (lv_at hl 3 rfl) ?_
          refine r_callVI ⟨hx, hb, hml, hown, hts⟩ G (k_X3_statusOf l (k := k) (y := i) (σ := σ) (by omega) (by omega)) (kV_X3_statusOf hts qM_X3_46 ⟨by decide, by decide⟩) (rc_X3 G) rfl rfl hl.1 rfl (Nat.le_of_ble_eq_true rfl) dX3_longestSeason_25 ⟨Nat.le_refl _, Nat.le_refl _⟩ (fun H locs G => ?_)
          refine r_iconst hx hb dX3_longestSeason_28 ?_
          refine r_icmp_ne (tgt := 43) hx hb ⟨by omega, by omega⟩ ⟨by decide, by decide⟩ dX3_longestSeason_29 (by decide) (fun h_3 => ?_) (fun h_3 => ?_)
          · skip
            refine r_iinc (lv' := [(3, .int (kI (i + 1))), (0, .ref (z + 2)), (1, .int (kI k)), (2, .int (kI v))]) hx hb dX3_longestSeason_43 hl (k := 3) rfl (by decide) rfl (fun ls hl => ?_)
            refine lv_goto (tgt := 16) hx hb dX3_longestSeason_46 (by decide) ?_
            exact ih16 v (i + 1) (by omega) (by omega) (by (first | omega | (split <;> omega))) (by rw [it_s h0, ← hv]; unfold lgsF; (repeat' split) <;> omega) (by omega) _ _ G _ (lv_sub hl [1, 2, 3, 0] rfl)
          · skip
            refine lv_iload_n hx hb dX3_longestSeason_32 rfl (lv_at hl 2 rfl) ?_
            refine lv_aload_n hx hb dX3_longestSeason_33 rfl (lv_at hl 0 rfl) ?_
            refine lv_iload_n hx hb dX3_longestSeason_34 rfl (lv_at hl 1 rfl) ?_
            refine lv_iload_n hx hb dX3_longestSeason_35 rfl (lv_at hl 3 rfl) ?_
            refine r_callVI ⟨hx, hb, hml, hown, hts⟩ G (k_X3_daysLain l (k := k) (y := i) (σ := σ) (by omega) (by omega)) (kV_X3_daysLain hts qM_X3_37 ⟨by decide, by decide⟩) (rc_X3 G) rfl rfl hl.1 rfl (Nat.le_of_ble_eq_true rfl) dX3_longestSeason_36 ⟨Nat.le_refl _, Nat.le_refl _⟩ (fun H locs G => ?_)
            refine r_max ⟨hx, hb, hml, hown, hts⟩ hl.1 qM_X3_41 ⟨Nat.le_of_ble_eq_true rfl, Nat.le_of_ble_eq_true rfl⟩ ⟨Nat.le_refl _, Nat.le_refl _⟩ ⟨by omega, by omega⟩ ⟨by omega, by omega⟩ dX3_longestSeason_39 ?_
            refine lv_istore_n (lv' := [(2, .int (kI (if v < (σ 2 0 - σ 7 (k * 16 + i)) then (σ 2 0 - σ 7 (k * 16 + i)) else v))), (0, .ref (z + 2)), (1, .int (kI k)), (3, .int (kI i))]) hx hb dX3_longestSeason_42 rfl hl (by decide) rfl (fun ls hl => ?_)
            refine r_iinc (lv' := [(3, .int (kI (i + 1))), (2, .int (kI (if v < (σ 2 0 - σ 7 (k * 16 + i)) then (σ 2 0 - σ 7 (k * 16 + i)) else v))), (0, .ref (z + 2)), (1, .int (kI k))]) hx hb dX3_longestSeason_43 hl (k := 3) rfl (by decide) rfl (fun ls hl => ?_)
            refine lv_goto (tgt := 16) hx hb dX3_longestSeason_46 (by decide) ?_
            exact ih16 (if v < (σ 2 0 - σ 7 (k * 16 + i)) then (σ 2 0 - σ 7 (k * 16 + i)) else v) (i + 1) (by omega) (by omega) (by (first | omega | (split <;> omega))) (by rw [it_s h0, ← hv]; unfold lgsF; (repeat' split) <;> omega) (by omega) _ _ G _ (lv_sub hl [2, 3, 1, 0] rfl)
    exact lp16 17 (-1) 0 (by omega) (by omega) (by omega) (rfl) (by omega) _ _ G _ (lv_sub hl [2, 3, 1, 0] rfl)
  · skip
    refine r_bipush hx hb dX3_longestSeason_9 (by decide +kernel) ?_
    exact r_iret hx hb hr hlk G (by unfold lgs; rw [if_pos (by omega)]) (by rfl) dX3_longestSeason_11
set_option maxRecDepth 100000 in
set_option maxHeartbeats 4000000 in
theorem k_X3_scarcestKind (l : Launch) {σ : Mem} (hI : IC σ) : CtI l yX3_scarcestKind (Cond.code yX3_scarcestKind cX3_scarcestKind 5 (some .int)) 2 46 (fun z => [.ref (z + 2)]) σ (scz σ) σ := by
  intro D T z
  refine Ct_of (by decide) (Nat.le_of_ble_eq_true rfl) ?_
  intro p e s m below meth c ls hx hb hml hr hts hown hlk G hl
  have hown : s.vm.findClass RX3 = some m.cls := hown
  have hl : lv_has ls 5 [(0, .ref (z + 2))] := hl
  refine r_iconst hx hb dX3_scarcestKind_0 ?_
  refine lv_istore_n (lv' := [(1, .int (kI 0)), (0, .ref (z + 2))]) hx hb dX3_scarcestKind_1 rfl hl (by decide) rfl (fun ls hl => ?_)
  refine r_bipush hx hb dX3_scarcestKind_2 (by decide +kernel) ?_
  refine lv_istore_n (lv' := [(2, .int (kI 17)), (1, .int (kI 0)), (0, .ref (z + 2))]) hx hb dX3_scarcestKind_4 rfl hl (by decide) rfl (fun ls hl => ?_)
  refine r_iconst hx hb dX3_scarcestKind_5 ?_
  refine lv_istore_n (lv' := [(3, .int (kI 0)), (2, .int (kI 17)), (1, .int (kI 0)), (0, .ref (z + 2))]) hx hb dX3_scarcestKind_6 rfl hl (by decide) rfl (fun ls hl => ?_)
  have lp7 : ∀ (d : Nat) (sc : Int) (fw : Int) (i : Int), (0 ≤ i) → (i ≤ 4) → (0 ≤ fw ∧ fw ≤ 32) → ((sc, fw) = it (sczF σ) (0, 17) i) → (4 - i : Int) < (d : Int) → ∀ (H : Heap) (locs : List Loc), Wd D T z 133 σ s H locs → ∀ (ls : Array Slot), lv_has ls 5 [(0, .ref (z + 2)), (1, .int (kI sc)), (2, .int (kI fw)), (3, .int (kI i))] → W p l e (rmN 2 46) s m ([.ref (z + 2)] : List Value).toArray below meth c H locs 0 0 (MQ below (QI D T z 133 (scz σ) σ) ([.ref (z + 2)] : List Value).toArray s 0 0 (Own T z)) (F0 m 7 ls []) := by
    intro d
    induction d with
    | zero => intro sc fw i h0 h1 hr0 hv hd; exact absurd hd (by omega)
    | succ d ih7 =>
      intro sc fw i h0 h1 hr0 hv hd H locs G ls hl
      refine lv_iload_n hx hb dX3_scarcestKind_7 rfl (lv_at hl 3 rfl) ?_
      refine r_iconst hx hb dX3_scarcestKind_8 ?_
      refine r_icmp_ge (tgt := 43) hx hb ⟨by omega, by omega⟩ ⟨by decide, by decide⟩ dX3_scarcestKind_9 (by decide) (fun h_1 => ?_) (fun h_1 => ?_)
      · skip
        refine lv_iload_n hx hb dX3_scarcestKind_43 rfl (lv_at hl 1 rfl) ?_
        exact r_iret hx hb hr hlk G (by obtain rfl : i = 4 := (by omega); exact congrArg Prod.fst hv) (by rfl) dX3_scarcestKind_44
      · skip
        refine lv_aload_n hx hb dX3_scarcestKind_12 rfl (lv_at hl 0 rfl) ?_
        refine lv_iload_n hx hb dX3_scarcestKind_13 rfl (lv_at hl 3 rfl) ?_
        refine r_iconst hx hb dX3_scarcestKind_14 ?_
        refine r_callVI ⟨hx, hb, hml, hown, hts⟩ G (k_X3_howMany l (k := i) (w := 0) (σ := σ) (by omega) (⟨by decide, by decide⟩) (hI)) (kV_X3_howMany hts qM_X3_57 ⟨by decide, by decide⟩) (rc_X3 G) rfl rfl hl.1 rfl (Nat.le_of_ble_eq_true rfl) dX3_scarcestKind_15 ⟨Nat.le_refl _, Nat.le_refl _⟩ (fun H locs G => ?_)
        refine lv_aload_n hx hb dX3_scarcestKind_18 rfl (lv_at hl 0 rfl) ?_
        refine lv_iload_n hx hb dX3_scarcestKind_19 rfl (lv_at hl 3 rfl) ?_
        refine r_callVI ⟨hx, hb, hml, hown, hts⟩ G (k_X3_howManyRipe l (k := i) (σ := σ) (by omega) (hI)) (kV_X3_howManyRipe hts qM_X3_70 ⟨by decide, by decide⟩) (rc_X3 G) rfl rfl hl.1 rfl (Nat.le_of_ble_eq_true rfl) dX3_scarcestKind_20 ⟨Nat.le_refl _, Nat.le_refl _⟩ (fun H locs G => ?_)
        refine r_iadd hx hb dX3_scarcestKind_23 ?_
        have hh := hm_rg (σ := σ) (k := i) (w := 0)
        have hh2 := hrp_rg (σ := σ) (k := i)
        refine lv_istore (lv' := [(4, .int (kI (hm σ i 0 + hrp σ i))), (0, .ref (z + 2)), (1, .int (kI sc)), (2, .int (kI fw)), (3, .int (kI i))]) hx hb dX3_scarcestKind_24 hl (by decide) rfl (fun ls hl => ?_)
        refine lv_iload hx hb dX3_scarcestKind_26 (lv_at hl 0 rfl) ?_
        refine lv_iload_n hx hb dX3_scarcestKind_28 rfl (lv_at hl 3 rfl) ?_
        refine r_icmp_ge (tgt := 37) hx hb ⟨by omega, by omega⟩ ⟨by omega, by omega⟩ dX3_scarcestKind_29 (by decide) (fun h_2 => ?_) (fun h_2 => ?_)
        · skip
          have hs : (sc, fw) = it (sczF σ) (0, 17) (i + 1) := by rw [it_s h0, ← hv]; unfold sczF; exact (if_neg (by show ¬ (hm σ i 0 + hrp σ i < fw); omega)).symm
          refine r_iinc (lv' := [(3, .int (kI (i + 1))), (4, .int (kI (hm σ i 0 + hrp σ i))), (0, .ref (z + 2)), (1, .int (kI sc)), (2, .int (kI fw))]) hx hb dX3_scarcestKind_37 hl (k := 4) rfl (by decide) rfl (fun ls hl => ?_)
          refine lv_goto (tgt := 7) hx hb dX3_scarcestKind_40 (by decide) ?_
          exact ih7 sc fw (i + 1) (by omega) (by omega) (by omega) (hs) (by omega) _ _ G _ (lv_sub hl [2, 3, 4, 0] rfl)
        · skip
          have hs : (i, hm σ i 0 + hrp σ i) = it (sczF σ) (0, 17) (i + 1) := by rw [it_s h0, ← hv]; unfold sczF; exact (if_pos (by show hm σ i 0 + hrp σ i < fw; omega)).symm
          refine lv_iload_n hx hb dX3_scarcestKind_32 rfl (lv_at hl 4 rfl) ?_
          refine lv_istore_n (lv' := [(1, .int (kI i)), (4, .int (kI (hm σ i 0 + hrp σ i))), (0, .ref (z + 2)), (2, .int (kI fw)), (3, .int (kI i))]) hx hb dX3_scarcestKind_33 rfl hl (by decide) rfl (fun ls hl => ?_)
          refine lv_iload hx hb dX3_scarcestKind_34 (lv_at hl 1 rfl) ?_
          refine lv_istore_n (lv' := [(2, .int (kI (hm σ i 0 + hrp σ i))), (1, .int (kI i)), (4, .int (kI (hm σ i 0 + hrp σ i))), (0, .ref (z + 2)), (3, .int (kI i))]) hx hb dX3_scarcestKind_36 rfl hl (by decide) rfl (fun ls hl => ?_)
          refine r_iinc (lv' := [(3, .int (kI (i + 1))), (2, .int (kI (hm σ i 0 + hrp σ i))), (1, .int (kI i)), (4, .int (kI (hm σ i 0 + hrp σ i))), (0, .ref (z + 2))]) hx hb dX3_scarcestKind_37 hl (k := 4) rfl (by decide) rfl (fun ls hl => ?_)
          refine lv_goto (tgt := 7) hx hb dX3_scarcestKind_40 (by decide) ?_
          exact ih7 i (hm σ i 0 + hrp σ i) (i + 1) (by omega) (by omega) (by omega) (hs) (by omega) _ _ G _ (lv_sub hl [4, 2, 1, 0] rfl)
  exact lp7 5 0 17 0 (by omega) (by omega) (by omega) (rfl) (by omega) _ _ G _ (lv_sub hl [3, 2, 1, 0] rfl)
set_option maxRecDepth 100000 in
set_option maxHeartbeats 4000000 in
theorem k_X0_noteWithout (l : Launch) {σ : Mem} {k q : Int} (hk : 0 ≤ k ∧ k < 4) (hq : inR q) : CtV l yX0_noteWithout (Cond.code yX0_noteWithout cX0_noteWithout 3 none) 0 0 (fun z => [.ref (z + 8), .int (kI k), .int (kI q)]) σ (nwo σ k q) := by
  intro D T z
  refine Ct_of (by decide) (Nat.le_of_ble_eq_true rfl) ?_
  intro p e s m below meth c ls hx hb hml hr hts hown hlk G hl
  have hown : s.vm.findClass RX0 = some m.cls := hown
  have hl : lv_has ls 3 [(0, .ref (z + 8)), (1, .int (kI k)), (2, .int (kI q))] := hl
  refine lv_aload_n hx hb dX0_noteWithout_0 rfl (lv_at hl 0 rfl) ?_
  refine gf_X0_21 hx hb hts hown G dX0_noteWithout_1 ?_
  refine lv_iload_n hx hb dX0_noteWithout_4 rfl (lv_at hl 1 rfl) ?_
  refine lv_dup2_11 hx hb dX0_noteWithout_5 rfl rfl ?_
  refine r_iald hx hb G 12 (by decide) (N := 4) (fun _ => rfl) (by omega) (by omega) (by decide) dX0_noteWithout_6 ?_
  refine r_iconst hx hb dX0_noteWithout_7 ?_
  refine r_iadd hx hb dX0_noteWithout_8 ?_
  refine r_topk (b := wr (σ 12 k + 1)) (kI_wr _).symm ?_
  refine r_iast hx hb G 12 (by decide) (N := 4) (fun _ => rfl) (by omega) (by omega) (by decide) dX0_noteWithout_9 (fun H locs G => ?_)
  refine lv_iload_n hx hb dX0_noteWithout_10 rfl (lv_at hl 2 rfl) ?_
  refine r_iconst hx hb dX0_noteWithout_11 ?_
  refine r_icmp_eq (tgt := 20) hx hb ⟨by omega, by omega⟩ ⟨by decide, by decide⟩ dX0_noteWithout_12 (by decide) (fun h_1 => ?_) (fun h_1 => ?_)
  · skip
    refine lv_aload_n hx hb dX0_noteWithout_20 rfl (lv_at hl 0 rfl) ?_
    refine gf_X0_24 hx hb hts hown G dX0_noteWithout_21 ?_
    refine lv_iload_n hx hb dX0_noteWithout_24 rfl (lv_at hl 1 rfl) ?_
    refine lv_dup2_11 hx hb dX0_noteWithout_25 rfl rfl ?_
    refine r_iald hx hb G 13 (by decide) (N := 4) (fun _ => rfl) (by omega) (by omega) (by decide) dX0_noteWithout_26 ?_
    refine r_top (b := σ 13 k) (by simp [up_ap]) ?_
    refine r_iconst hx hb dX0_noteWithout_27 ?_
    refine r_iadd hx hb dX0_noteWithout_28 ?_
    refine r_topk (b := wr (σ 13 k + 1)) (kI_wr _).symm ?_
    refine r_iast hx hb G 13 (by decide) (N := 4) (fun _ => rfl) (by omega) (by omega) (by decide) dX0_noteWithout_29 (fun H locs G => ?_)
    exact r_vret hx hb hr hlk G (by unfold nwo; first | rw [if_pos (by omega)] | rw [if_neg (by omega)]) dX0_noteWithout_30
  · skip
    refine lv_iload_n hx hb dX0_noteWithout_15 rfl (lv_at hl 2 rfl) ?_
    refine r_iconst hx hb dX0_noteWithout_16 ?_
    refine r_icmp_ne (tgt := 30) hx hb ⟨by omega, by omega⟩ ⟨by decide, by decide⟩ dX0_noteWithout_17 (by decide) (fun h_2 => ?_) (fun h_2 => ?_)
    · skip
      exact r_vret hx hb hr hlk G (by unfold nwo; first | rw [if_pos (by omega)] | rw [if_neg (by omega)]) dX0_noteWithout_30
    · skip
      refine lv_aload_n hx hb dX0_noteWithout_20 rfl (lv_at hl 0 rfl) ?_
      refine gf_X0_24 hx hb hts hown G dX0_noteWithout_21 ?_
      refine lv_iload_n hx hb dX0_noteWithout_24 rfl (lv_at hl 1 rfl) ?_
      refine lv_dup2_11 hx hb dX0_noteWithout_25 rfl rfl ?_
      refine r_iald hx hb G 13 (by decide) (N := 4) (fun _ => rfl) (by omega) (by omega) (by decide) dX0_noteWithout_26 ?_
      refine r_top (b := σ 13 k) (by simp [up_ap]) ?_
      refine r_iconst hx hb dX0_noteWithout_27 ?_
      refine r_iadd hx hb dX0_noteWithout_28 ?_
      refine r_topk (b := wr (σ 13 k + 1)) (kI_wr _).symm ?_
      refine r_iast hx hb G 13 (by decide) (N := 4) (fun _ => rfl) (by omega) (by omega) (by decide) dX0_noteWithout_29 (fun H locs G => ?_)
      exact r_vret hx hb hr hlk G (by unfold nwo; first | rw [if_pos (by omega)] | rw [if_neg (by omega)]) dX0_noteWithout_30
set_option maxRecDepth 100000 in
set_option maxHeartbeats 4000000 in
theorem k_X0_noteFollowed (l : Launch) {σ : Mem} {q : Int} (hq : inR q) : CtV l yX0_noteFollowed (Cond.code yX0_noteFollowed cX0_noteFollowed 2 none) 0 0 (fun z => [.ref (z + 8), .int (kI q)]) σ (nfo σ q) := by
  intro D T z
  refine Ct_of (by decide) (Nat.le_of_ble_eq_true rfl) ?_
  intro p e s m below meth c ls hx hb hml hr hts hown hlk G hl
  have hown : s.vm.findClass RX0 = some m.cls := hown
  have hl : lv_has ls 2 [(0, .ref (z + 8)), (1, .int (kI q))] := hl
  refine lv_aload_n hx hb dX0_noteFollowed_0 rfl (lv_at hl 0 rfl) ?_
  refine lv_dup hx hb dX0_noteFollowed_1 rfl ?_
  refine gf_X0_33 hx hb hts hown G dX0_noteFollowed_2 ?_
  refine r_iconst hx hb dX0_noteFollowed_5 ?_
  refine r_iadd hx hb dX0_noteFollowed_6 ?_
  refine r_topk (b := wr (σ 8 5 + 1)) (kI_wr _).symm ?_
  refine pf_X0_33 hx hb hts hown G dX0_noteFollowed_7 (fun H locs G => ?_)
  refine lv_iload_n hx hb dX0_noteFollowed_10 rfl (lv_at hl 1 rfl) ?_
  refine r_iconst hx hb dX0_noteFollowed_11 ?_
  refine r_icmp_ne (tgt := 25) hx hb ⟨by omega, by omega⟩ ⟨by decide, by decide⟩ dX0_noteFollowed_12 (by decide) (fun h_1 => ?_) (fun h_1 => ?_)
  · skip
    refine lv_iload_n hx hb dX0_noteFollowed_25 rfl (lv_at hl 1 rfl) ?_
    refine r_iconst hx hb dX0_noteFollowed_26 ?_
    refine r_icmp_ne (tgt := 40) hx hb ⟨by omega, by omega⟩ ⟨by decide, by decide⟩ dX0_noteFollowed_27 (by decide) (fun h_2 => ?_) (fun h_2 => ?_)
    · skip
      exact r_vret hx hb hr hlk G (by funext c' j; simp only [nfo, up_ap]; (repeat' split) <;> first | rfl | omega) dX0_noteFollowed_40
    · skip
      refine lv_aload_n hx hb dX0_noteFollowed_30 rfl (lv_at hl 0 rfl) ?_
      refine lv_dup hx hb dX0_noteFollowed_31 rfl ?_
      refine gf_X0_40 hx hb hts hown G dX0_noteFollowed_32 ?_
      refine r_top (b := σ 8 7) (by simp [up_ap]) ?_
      refine r_iconst hx hb dX0_noteFollowed_35 ?_
      refine r_iadd hx hb dX0_noteFollowed_36 ?_
      refine r_topk (b := wr (σ 8 7 + 1)) (kI_wr _).symm ?_
      refine pf_X0_40 hx hb hts hown G dX0_noteFollowed_37 (fun H locs G => ?_)
      exact r_vret hx hb hr hlk G (by funext c' j; simp only [nfo, up_ap]; (repeat' split) <;> first | rfl | omega) dX0_noteFollowed_40
  · skip
    refine lv_aload_n hx hb dX0_noteFollowed_15 rfl (lv_at hl 0 rfl) ?_
    refine lv_dup hx hb dX0_noteFollowed_16 rfl ?_
    refine gf_X0_37 hx hb hts hown G dX0_noteFollowed_17 ?_
    refine r_top (b := σ 8 6) (by simp [up_ap]) ?_
    refine r_iconst hx hb dX0_noteFollowed_20 ?_
    refine r_iadd hx hb dX0_noteFollowed_21 ?_
    refine r_topk (b := wr (σ 8 6 + 1)) (kI_wr _).symm ?_
    refine pf_X0_37 hx hb hts hown G dX0_noteFollowed_22 (fun H locs G => ?_)
    refine lv_iload_n hx hb dX0_noteFollowed_25 rfl (lv_at hl 1 rfl) ?_
    refine r_iconst hx hb dX0_noteFollowed_26 ?_
    refine r_icmp_ne (tgt := 40) hx hb ⟨by omega, by omega⟩ ⟨by decide, by decide⟩ dX0_noteFollowed_27 (by decide) (fun h_3 => ?_) (fun h_3 => ?_)
    · skip
      exact r_vret hx hb hr hlk G (by funext c' j; simp only [nfo, up_ap]; (repeat' split) <;> first | rfl | omega) dX0_noteFollowed_40
    · skip
      refine lv_aload_n hx hb dX0_noteFollowed_30 rfl (lv_at hl 0 rfl) ?_
      refine lv_dup hx hb dX0_noteFollowed_31 rfl ?_
      refine gf_X0_40 hx hb hts hown G dX0_noteFollowed_32 ?_
      refine r_top (b := σ 8 7) (by simp [up_ap]) ?_
      refine r_iconst hx hb dX0_noteFollowed_35 ?_
      refine r_iadd hx hb dX0_noteFollowed_36 ?_
      refine r_topk (b := wr (σ 8 7 + 1)) (kI_wr _).symm ?_
      refine pf_X0_40 hx hb hts hown G dX0_noteFollowed_37 (fun H locs G => ?_)
      exact r_vret hx hb hr hlk G (by funext c' j; simp only [nfo, up_ap]; (repeat' split) <;> first | rfl | omega) dX0_noteFollowed_40
set_option maxRecDepth 100000 in
set_option maxHeartbeats 4000000 in
theorem k_X0_aliveByAccount (l : Launch) {σ : Mem}  : CtI l yX0_aliveByAccount (Cond.code yX0_aliveByAccount cX0_aliveByAccount 3 (some .int)) 0 0 (fun z => [.ref (z + 8)]) σ (aba σ) σ := by
  intro D T z
  refine Ct_of (by decide) (Nat.le_of_ble_eq_true rfl) ?_
  intro p e s m below meth c ls hx hb hml hr hts hown hlk G hl
  have hown : s.vm.findClass RX0 = some m.cls := hown
  have hl : lv_has ls 3 [(0, .ref (z + 8))] := hl
  refine r_iconst hx hb dX0_aliveByAccount_0 ?_
  refine lv_istore_n (lv' := [(1, .int (kI 0)), (0, .ref (z + 8))]) hx hb dX0_aliveByAccount_1 rfl hl (by decide) rfl (fun ls hl => ?_)
  refine r_iconst hx hb dX0_aliveByAccount_2 ?_
  refine lv_istore_n (lv' := [(2, .int (kI 0)), (1, .int (kI 0)), (0, .ref (z + 8))]) hx hb dX0_aliveByAccount_3 rfl hl (by decide) rfl (fun ls hl => ?_)
  have lp4 : ∀ (d : Nat) (v : Int) (i : Int), (0 ≤ i) → (i ≤ 4) → (v = it (fun k v => v + (σ 9 k + σ 11 k - σ 10 k)) 0 i) → (4 - i : Int) < (d : Int) → ∀ (H : Heap) (locs : List Loc), Wd D T z 133 σ s H locs → ∀ (ls : Array Slot), lv_has ls 3 [(0, .ref (z + 8)), (1, .int (kI v)), (2, .int (kI i))] → W p l e (rmN 0 0) s m ([.ref (z + 8)] : List Value).toArray below meth c H locs 0 0 (MQ below (QI D T z 133 (aba σ) σ) ([.ref (z + 8)] : List Value).toArray s 0 0 (Own T z)) (F0 m 4 ls []) := by
    intro d
    induction d with
    | zero => intro v i h0 h1 hv hd; exact absurd hd (by omega)
    | succ d ih4 =>
      intro v i h0 h1 hv hd H locs G ls hl
      refine lv_iload_n hx hb dX0_aliveByAccount_4 rfl (lv_at hl 2 rfl) ?_
      refine r_iconst hx hb dX0_aliveByAccount_5 ?_
      refine r_icmp_ge (tgt := 38) hx hb ⟨by omega, by omega⟩ ⟨by decide, by decide⟩ dX0_aliveByAccount_6 (by decide) (fun h_1 => ?_) (fun h_1 => ?_)
      · skip
        refine lv_iload_n hx hb dX0_aliveByAccount_38 rfl (lv_at hl 1 rfl) ?_
        exact r_iret hx hb hr hlk G (by obtain rfl : i = 4 := (by omega); exact hv) (by rfl) dX0_aliveByAccount_39
      · skip
        refine lv_iload_n hx hb dX0_aliveByAccount_9 rfl (lv_at hl 1 rfl) ?_
        refine lv_aload_n hx hb dX0_aliveByAccount_10 rfl (lv_at hl 0 rfl) ?_
        refine gf_X0_9 hx hb hts hown G dX0_aliveByAccount_11 ?_
        refine lv_iload_n hx hb dX0_aliveByAccount_14 rfl (lv_at hl 2 rfl) ?_
        refine r_iald hx hb G 9 (by decide) (N := 4) (fun _ => rfl) (by omega) (by omega) (by decide) dX0_aliveByAccount_15 ?_
        refine lv_aload_n hx hb dX0_aliveByAccount_16 rfl (lv_at hl 0 rfl) ?_
        refine gf_X0_18 hx hb hts hown G dX0_aliveByAccount_17 ?_
        refine lv_iload_n hx hb dX0_aliveByAccount_20 rfl (lv_at hl 2 rfl) ?_
        refine r_iald hx hb G 11 (by decide) (N := 4) (fun _ => rfl) (by omega) (by omega) (by decide) dX0_aliveByAccount_21 ?_
        refine r_iadd hx hb dX0_aliveByAccount_22 ?_
        refine lv_aload_n hx hb dX0_aliveByAccount_23 rfl (lv_at hl 0 rfl) ?_
        refine gf_X0_15 hx hb hts hown G dX0_aliveByAccount_24 ?_
        refine lv_iload_n hx hb dX0_aliveByAccount_27 rfl (lv_at hl 2 rfl) ?_
        refine r_iald hx hb G 10 (by decide) (N := 4) (fun _ => rfl) (by omega) (by omega) (by decide) dX0_aliveByAccount_28 ?_
        refine r_isub hx hb dX0_aliveByAccount_29 ?_
        refine r_iadd hx hb dX0_aliveByAccount_30 ?_
        refine lv_istore_n (lv' := [(1, .int (kI (v + (σ 9 i + σ 11 i - σ 10 i)))), (0, .ref (z + 8)), (2, .int (kI i))]) hx hb dX0_aliveByAccount_31 rfl hl (by decide) rfl (fun ls hl => ?_)
        refine r_iinc (lv' := [(2, .int (kI (i + 1))), (1, .int (kI (v + (σ 9 i + σ 11 i - σ 10 i)))), (0, .ref (z + 8))]) hx hb dX0_aliveByAccount_32 hl (k := 2) rfl (by decide) rfl (fun ls hl => ?_)
        refine lv_goto (tgt := 4) hx hb dX0_aliveByAccount_35 (by decide) ?_
        exact ih4 (v + (σ 9 i + σ 11 i - σ 10 i)) (i + 1) (by omega) (by omega) (by subst hv; exact (it_s (f := fun k v => v + (σ 9 k + σ 11 k - σ 10 k)) (a := 0) h0).symm) (by omega) _ _ G _ (lv_sub hl [2, 1, 0] rfl)
  exact lp4 5 0 0 (by omega) (by omega) (rfl) (by omega) _ _ G _ (lv_sub hl [2, 1, 0] rfl)
