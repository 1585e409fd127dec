theorem r_topx {p : Program} {l : Launch} {e : Env} {R : Room} {s : State} {m : MethodId} {args : Array Value} {below : List Frame} {meth : Method} {c : Code} {H : Heap} {locs : List Loc} {cells slots : Nat} {Q : State → Prop} {pc : Nat} {ls : Array Slot} {rest : List Value} {z : Nat} {a b : Int} (h : a = b) (k : W p l e R s m args below meth c H locs cells slots Q (F0 m pc ls (.ref (z + (17 + 14 * b.toNat)) :: rest))) : W p l e R s m args below meth c H locs cells slots Q (F0 m pc ls (.ref (z + (17 + 14 * a.toNat)) :: rest)) := h ▸ k
/-- the copy of the keys -/
def kcp (σ : Mem) (f t : Nat) : Mem := cpy (cpy (cpy (cpy (cpy (up σ (t + 1) 0 (σ (f + 1) 0)) (f + 2) (t + 2) 4) (f + 3) (t + 3) 64) (f + 4) (t + 4) 64) (f + 5) (t + 5) 64) (f + 6) (t + 6) 64
set_option maxRecDepth 100000 in
set_option maxHeartbeats 4000000 in
theorem k_X3_copyFrom (l : Launch) {σ : Mem} {f t : Nat} (hF : isB f) (hT : isB t) : CtV l yX3_copyFrom (Cond.code yX3_copyFrom cX3_copyFrom 2 none) 1 18 (fun z => [.ref (z + (t + 1)), .ref (z + (f + 1))]) σ (kcp σ f t) := by
  intro D T z
  refine Ct_of (by decide) (Nat.le_of_ble_eq_true rfl) ?_
  intro p e s m below meth c ls hx hb hml hr hts hown hlk G hl
  have hown : s.vm.findClass RX3 = some m.cls := hown
  have hl : lv_has ls 2 [(0, .ref (z + (t + 1))), (1, .ref (z + (f + 1)))] := hl
  refine lv_aload_n hx hb dX3_copyFrom_0 rfl (lv_at hl 0 rfl) ?_
  refine lv_aload_n hx hb dX3_copyFrom_1 rfl (lv_at hl 1 rfl) ?_
  refine gb_X3_27 hx hb hts hown G (b := f) hF (Nat.lt_of_le_of_lt (Nat.add_le_add_right (isB_lt hF) _) (by decide)) dX3_copyFrom_2 ?_
  refine pb_X3_27 hx hb hts hown G (b := t) hT (Nat.lt_of_le_of_lt (Nat.add_le_add_right (isB_lt hT) _) (by decide)) dX3_copyFrom_5 (fun H locs G => ?_)
  refine lv_aload_n hx hb dX3_copyFrom_8 rfl (lv_at hl 1 rfl) ?_
  refine gb_X3_9 hx hb hts hown G (b := f) hF (Nat.lt_of_le_of_lt (Nat.add_le_add_right (isB_lt hF) _) (by decide)) dX3_copyFrom_9 ?_
  refine r_iconst hx hb dX3_copyFrom_12 ?_
  refine lv_aload_n hx hb dX3_copyFrom_13 rfl (lv_at hl 0 rfl) ?_
  refine gb_X3_9 hx hb hts hown G (b := t) hT (Nat.lt_of_le_of_lt (Nat.add_le_add_right (isB_lt hT) _) (by decide)) dX3_copyFrom_14 ?_
  refine r_iconst hx hb dX3_copyFrom_17 ?_
  refine r_iconst hx hb dX3_copyFrom_18 ?_
  refine r_copy ⟨hx, hb, hml, hown, hts⟩ hl.1 qM_X3_31 G (f + 2) (t + 2) (Nat.lt_of_le_of_lt (Nat.add_le_add_right (isB_lt hF) _) (by decide)) (Nat.lt_of_le_of_lt (Nat.add_le_add_right (isB_lt hT) _) (by decide)) (fun f => shp_B hF (by decide)) (fun f => shp_B hT (by decide)) (by omega) (by omega) (by omega) (by omega) ⟨Nat.le_of_ble_eq_true rfl, Nat.le_of_ble_eq_true rfl⟩ dX3_copyFrom_19 (fun H locs G => ?_)
  refine lv_aload_n hx hb dX3_copyFrom_22 rfl (lv_at hl 1 rfl) ?_
  refine gb_X3_15 hx hb hts hown G (b := f) hF (Nat.lt_of_le_of_lt (Nat.add_le_add_right (isB_lt hF) _) (by decide)) dX3_copyFrom_23 ?_
  refine r_iconst hx hb dX3_copyFrom_26 ?_
  refine lv_aload_n hx hb dX3_copyFrom_27 rfl (lv_at hl 0 rfl) ?_
  refine gb_X3_15 hx hb hts hown G (b := t) hT (Nat.lt_of_le_of_lt (Nat.add_le_add_right (isB_lt hT) _) (by decide)) dX3_copyFrom_28 ?_
  refine r_iconst hx hb dX3_copyFrom_31 ?_
  refine r_bipush hx hb dX3_copyFrom_32 (by decide +kernel) ?_
  refine r_copy ⟨hx, hb, hml, hown, hts⟩ hl.1 qM_X3_31 G (f + 3) (t + 3) (Nat.lt_of_le_of_lt (Nat.add_le_add_right (isB_lt hF) _) (by decide)) (Nat.lt_of_le_of_lt (Nat.add_le_add_right (isB_lt hT) _) (by decide)) (fun f => shp_B hF (by decide)) (fun f => shp_B hT (by decide)) (by omega) (by omega) (by omega) (by omega) ⟨Nat.le_of_ble_eq_true rfl, Nat.le_of_ble_eq_true rfl⟩ dX3_copyFrom_34 (fun H locs G => ?_)
  refine lv_aload_n hx hb dX3_copyFrom_37 rfl (lv_at hl 1 rfl) ?_
  refine gb_X3_18 hx hb hts hown G (b := f) hF (Nat.lt_of_le_of_lt (Nat.add_le_add_right (isB_lt hF) _) (by decide)) dX3_copyFrom_38 ?_
  refine r_iconst hx hb dX3_copyFrom_41 ?_
  refine lv_aload_n hx hb dX3_copyFrom_42 rfl (lv_at hl 0 rfl) ?_
  refine gb_X3_18 hx hb hts hown G (b := t) hT (Nat.lt_of_le_of_lt (Nat.add_le_add_right (isB_lt hT) _) (by decide)) dX3_copyFrom_43 ?_
  refine r_iconst hx hb dX3_copyFrom_46 ?_
  refine r_bipush hx hb dX3_copyFrom_47 (by decide +kernel) ?_
  refine r_copy ⟨hx, hb, hml, hown, hts⟩ hl.1 qM_X3_31 G (f + 4) (t + 4) (Nat.lt_of_le_of_lt (Nat.add_le_add_right (isB_lt hF) _) (by decide)) (Nat.lt_of_le_of_lt (Nat.add_le_add_right (isB_lt hT) _) (by decide)) (fun f => shp_B hF (by decide)) (fun f => shp_B hT (by decide)) (by omega) (by omega) (by omega) (by omega) ⟨Nat.le_of_ble_eq_true rfl, Nat.le_of_ble_eq_true rfl⟩ dX3_copyFrom_49 (fun H locs G => ?_)
  refine lv_aload_n hx hb dX3_copyFrom_52 rfl (lv_at hl 1 rfl) ?_
  refine gb_X3_21 hx hb hts hown G (b := f) hF (Nat.lt_of_le_of_lt (Nat.add_le_add_right (isB_lt hF) _) (by decide)) dX3_copyFrom_53 ?_
  refine r_iconst hx hb dX3_copyFrom_56 ?_
  refine lv_aload_n hx hb dX3_copyFrom_57 rfl (lv_at hl 0 rfl) ?_
  refine gb_X3_21 hx hb hts hown G (b := t) hT (Nat.lt_of_le_of_lt (Nat.add_le_add_right (isB_lt hT) _) (by decide)) dX3_copyFrom_58 ?_
  refine r_iconst hx hb dX3_copyFrom_61 ?_
  refine r_bipush hx hb dX3_copyFrom_62 (by decide +kernel) ?_
  refine r_copy ⟨hx, hb, hml, hown, hts⟩ hl.1 qM_X3_31 G (f + 5) (t + 5) (Nat.lt_of_le_of_lt (Nat.add_le_add_right (isB_lt hF) _) (by decide)) (Nat.lt_of_le_of_lt (Nat.add_le_add_right (isB_lt hT) _) (by decide)) (fun f => shp_B hF (by decide)) (fun f => shp_B hT (by decide)) (by omega) (by omega) (by omega) (by omega) ⟨Nat.le_of_ble_eq_true rfl, Nat.le_of_ble_eq_true rfl⟩ dX3_copyFrom_64 (fun H locs G => ?_)
  refine lv_aload_n hx hb dX3_copyFrom_67 rfl (lv_at hl 1 rfl) ?_
  refine gb_X3_24 hx hb hts hown G (b := f) hF (Nat.lt_of_le_of_lt (Nat.add_le_add_right (isB_lt hF) _) (by decide)) dX3_copyFrom_68 ?_
  refine r_iconst hx hb dX3_copyFrom_71 ?_
  refine lv_aload_n hx hb dX3_copyFrom_72 rfl (lv_at hl 0 rfl) ?_
  refine gb_X3_24 hx hb hts hown G (b := t) hT (Nat.lt_of_le_of_lt (Nat.add_le_add_right (isB_lt hT) _) (by decide)) dX3_copyFrom_73 ?_
  refine r_iconst hx hb dX3_copyFrom_76 ?_
  refine r_bipush hx hb dX3_copyFrom_77 (by decide +kernel) ?_
  refine r_copy ⟨hx, hb, hml, hown, hts⟩ hl.1 qM_X3_31 G (f + 6) (t + 6) (Nat.lt_of_le_of_lt (Nat.add_le_add_right (isB_lt hF) _) (by decide)) (Nat.lt_of_le_of_lt (Nat.add_le_add_right (isB_lt hT) _) (by decide)) (fun f => shp_B hF (by decide)) (fun f => shp_B hT (by decide)) (by omega) (by omega) (by omega) (by omega) ⟨Nat.le_of_ble_eq_true rfl, Nat.le_of_ble_eq_true rfl⟩ dX3_copyFrom_79 (fun H locs G => ?_)
  exact r_vret hx hb hr hlk G (by rfl) dX3_copyFrom_82
def acp (σ : Mem) (f t : Nat) : Mem := (fun τ => (fun τ => (fun τ => up τ (t + 7) 7 (τ (f + 7) 7)) (up τ (t + 7) 6 (τ (f + 7) 6))) (up τ (t + 7) 5 (τ (f + 7) 5))) (cpy (cpy (cpy (cpy (cpy σ (f + 8) (t + 8) 4) (f + 9) (t + 9) 4) (f + 10) (t + 10) 4) (f + 11) (t + 11) 4) (f + 12) (t + 12) 4)
set_option maxRecDepth 100000 in
set_option maxHeartbeats 4000000 in
theorem k_X0_copyFrom (l : Launch) {σ : Mem} {f t : Nat} (hF : isB f) (hT : isB t) : CtV l yX0_copyFrom (Cond.code yX0_copyFrom cX0_copyFrom 2 none) 1 18 (fun z => [.ref (z + (t + 7)), .ref (z + (f + 7))]) σ (acp σ f t) := by
  intro D T z
  refine Ct_of (by decide) (Nat.le_of_ble_eq_true rfl) ?_
  intro p e s m below meth c ls hx hb hml hr hts hown hlk G hl
  have hown : s.vm.findClass RX0 = some m.cls := hown
  have hl : lv_has ls 2 [(0, .ref (z + (t + 7))), (1, .ref (z + (f + 7)))] := hl
  refine lv_aload_n hx hb dX0_copyFrom_0 rfl (lv_at hl 1 rfl) ?_
  refine gb_X0_9 hx hb hts hown G (b := f) hF (Nat.lt_of_le_of_lt (Nat.add_le_add_right (isB_lt hF) _) (by decide)) dX0_copyFrom_1 ?_
  refine r_iconst hx hb dX0_copyFrom_4 ?_
  refine lv_aload_n hx hb dX0_copyFrom_5 rfl (lv_at hl 0 rfl) ?_
  refine gb_X0_9 hx hb hts hown G (b := t) hT (Nat.lt_of_le_of_lt (Nat.add_le_add_right (isB_lt hT) _) (by decide)) dX0_copyFrom_6 ?_
  refine r_iconst hx hb dX0_copyFrom_9 ?_
  refine r_iconst hx hb dX0_copyFrom_10 ?_
  refine r_copy ⟨hx, hb, hml, hown, hts⟩ hl.1 qM_X0_27 G (f + 8) (t + 8) (Nat.lt_of_le_of_lt (Nat.add_le_add_right (isB_lt hF) _) (by decide)) (Nat.lt_of_le_of_lt (Nat.add_le_add_right (isB_lt hT) _) (by decide)) (fun f => shp_B hF (by decide)) (fun f => shp_B hT (by decide)) (by omega) (by omega) (by omega) (by omega) ⟨Nat.le_of_ble_eq_true rfl, Nat.le_of_ble_eq_true rfl⟩ dX0_copyFrom_11 (fun H locs G => ?_)
  refine lv_aload_n hx hb dX0_copyFrom_14 rfl (lv_at hl 1 rfl) ?_
  refine gb_X0_15 hx hb hts hown G (b := f) hF (Nat.lt_of_le_of_lt (Nat.add_le_add_right (isB_lt hF) _) (by decide)) dX0_copyFrom_15 ?_
  refine r_iconst hx hb dX0_copyFrom_18 ?_
  refine lv_aload_n hx hb dX0_copyFrom_19 rfl (lv_at hl 0 rfl) ?_
  refine gb_X0_15 hx hb hts hown G (b := t) hT (Nat.lt_of_le_of_lt (Nat.add_le_add_right (isB_lt hT) _) (by decide)) dX0_copyFrom_20 ?_
  refine r_iconst hx hb dX0_copyFrom_23 ?_
  refine r_iconst hx hb dX0_copyFrom_24 ?_
  refine r_copy ⟨hx, hb, hml, hown, hts⟩ hl.1 qM_X0_27 G (f + 9) (t + 9) (Nat.lt_of_le_of_lt (Nat.add_le_add_right (isB_lt hF) _) (by decide)) (Nat.lt_of_le_of_lt (Nat.add_le_add_right (isB_lt hT) _) (by decide)) (fun f => shp_B hF (by decide)) (fun f => shp_B hT (by decide)) (by omega) (by omega) (by omega) (by omega) ⟨Nat.le_of_ble_eq_true rfl, Nat.le_of_ble_eq_true rfl⟩ dX0_copyFrom_25 (fun H locs G => ?_)
  refine lv_aload_n hx hb dX0_copyFrom_28 rfl (lv_at hl 1 rfl) ?_
  refine gb_X0_18 hx hb hts hown G (b := f) hF (Nat.lt_of_le_of_lt (Nat.add_le_add_right (isB_lt hF) _) (by decide)) dX0_copyFrom_29 ?_
  refine r_iconst hx hb dX0_copyFrom_32 ?_
  refine lv_aload_n hx hb dX0_copyFrom_33 rfl (lv_at hl 0 rfl) ?_
  refine gb_X0_18 hx hb hts hown G (b := t) hT (Nat.lt_of_le_of_lt (Nat.add_le_add_right (isB_lt hT) _) (by decide)) dX0_copyFrom_34 ?_
  refine r_iconst hx hb dX0_copyFrom_37 ?_
  refine r_iconst hx hb dX0_copyFrom_38 ?_
  refine r_copy ⟨hx, hb, hml, hown, hts⟩ hl.1 qM_X0_27 G (f + 10) (t + 10) (Nat.lt_of_le_of_lt (Nat.add_le_add_right (isB_lt hF) _) (by decide)) (Nat.lt_of_le_of_lt (Nat.add_le_add_right (isB_lt hT) _) (by decide)) (fun f => shp_B hF (by decide)) (fun f => shp_B hT (by decide)) (by omega) (by omega) (by omega) (by omega) ⟨Nat.le_of_ble_eq_true rfl, Nat.le_of_ble_eq_true rfl⟩ dX0_copyFrom_39 (fun H locs G => ?_)
  refine lv_aload_n hx hb dX0_copyFrom_42 rfl (lv_at hl 1 rfl) ?_
  refine gb_X0_21 hx hb hts hown G (b := f) hF (Nat.lt_of_le_of_lt (Nat.add_le_add_right (isB_lt hF) _) (by decide)) dX0_copyFrom_43 ?_
  refine r_iconst hx hb dX0_copyFrom_46 ?_
  refine lv_aload_n hx hb dX0_copyFrom_47 rfl (lv_at hl 0 rfl) ?_
  refine gb_X0_21 hx hb hts hown G (b := t) hT (Nat.lt_of_le_of_lt (Nat.add_le_add_right (isB_lt hT) _) (by decide)) dX0_copyFrom_48 ?_
  refine r_iconst hx hb dX0_copyFrom_51 ?_
  refine r_iconst hx hb dX0_copyFrom_52 ?_
  refine r_copy ⟨hx, hb, hml, hown, hts⟩ hl.1 qM_X0_27 G (f + 11) (t + 11) (Nat.lt_of_le_of_lt (Nat.add_le_add_right (isB_lt hF) _) (by decide)) (Nat.lt_of_le_of_lt (Nat.add_le_add_right (isB_lt hT) _) (by decide)) (fun f => shp_B hF (by decide)) (fun f => shp_B hT (by decide)) (by omega) (by omega) (by omega) (by omega) ⟨Nat.le_of_ble_eq_true rfl, Nat.le_of_ble_eq_true rfl⟩ dX0_copyFrom_53 (fun H locs G => ?_)
  refine lv_aload_n hx hb dX0_copyFrom_56 rfl (lv_at hl 1 rfl) ?_
  refine gb_X0_24 hx hb hts hown G (b := f) hF (Nat.lt_of_le_of_lt (Nat.add_le_add_right (isB_lt hF) _) (by decide)) dX0_copyFrom_57 ?_
  refine r_iconst hx hb dX0_copyFrom_60 ?_
  refine lv_aload_n hx hb dX0_copyFrom_61 rfl (lv_at hl 0 rfl) ?_
  refine gb_X0_24 hx hb hts hown G (b := t) hT (Nat.lt_of_le_of_lt (Nat.add_le_add_right (isB_lt hT) _) (by decide)) dX0_copyFrom_62 ?_
  refine r_iconst hx hb dX0_copyFrom_65 ?_
  refine r_iconst hx hb dX0_copyFrom_66 ?_
  refine r_copy ⟨hx, hb, hml, hown, hts⟩ hl.1 qM_X0_27 G (f + 12) (t + 12) (Nat.lt_of_le_of_lt (Nat.add_le_add_right (isB_lt hF) _) (by decide)) (Nat.lt_of_le_of_lt (Nat.add_le_add_right (isB_lt hT) _) (by decide)) (fun f => shp_B hF (by decide)) (fun f => shp_B hT (by decide)) (by omega) (by omega) (by omega) (by omega) ⟨Nat.le_of_ble_eq_true rfl, Nat.le_of_ble_eq_true rfl⟩ dX0_copyFrom_67 (fun H locs G => ?_)
  refine lv_aload_n hx hb dX0_copyFrom_70 rfl (lv_at hl 0 rfl) ?_
  refine lv_aload_n hx hb dX0_copyFrom_71 rfl (lv_at hl 1 rfl) ?_
  refine gb_X0_33 hx hb hts hown G (b := f) hF (Nat.lt_of_le_of_lt (Nat.add_le_add_right (isB_lt hF) _) (by decide)) dX0_copyFrom_72 ?_
  refine pb_X0_33 hx hb hts hown G (b := t) hT (Nat.lt_of_le_of_lt (Nat.add_le_add_right (isB_lt hT) _) (by decide)) dX0_copyFrom_75 (fun H locs G => ?_)
  refine lv_aload_n hx hb dX0_copyFrom_78 rfl (lv_at hl 0 rfl) ?_
  refine lv_aload_n hx hb dX0_copyFrom_79 rfl (lv_at hl 1 rfl) ?_
  refine gb_X0_37 hx hb hts hown G (b := f) hF (Nat.lt_of_le_of_lt (Nat.add_le_add_right (isB_lt hF) _) (by decide)) dX0_copyFrom_80 ?_
  refine pb_X0_37 hx hb hts hown G (b := t) hT (Nat.lt_of_le_of_lt (Nat.add_le_add_right (isB_lt hT) _) (by decide)) dX0_copyFrom_83 (fun H locs G => ?_)
  refine lv_aload_n hx hb dX0_copyFrom_86 rfl (lv_at hl 0 rfl) ?_
  refine lv_aload_n hx hb dX0_copyFrom_87 rfl (lv_at hl 1 rfl) ?_
  refine gb_X0_40 hx hb hts hown G (b := f) hF (Nat.lt_of_le_of_lt (Nat.add_le_add_right (isB_lt hF) _) (by decide)) dX0_copyFrom_88 ?_
  refine pb_X0_40 hx hb hts hown G (b := t) hT (Nat.lt_of_le_of_lt (Nat.add_le_add_right (isB_lt hT) _) (by decide)) dX0_copyFrom_91 (fun H locs G => ?_)
  exact r_vret hx hb hr hlk G (by rfl) dX0_copyFrom_94
def csp (σ : Mem) (f t : Nat) : Mem := cpy (acp (kcp σ f t) f t) (f + 13) (t + 13) 3
def dsj (f t : Nat) : Prop := f + 13 < t ∨ t + 13 < f
/-- a place of a Compost's that holds something -/
def inC (k : Nat) (j : Int) : Prop := (k = 1 ∧ j = 0) ∨ (k = 2 ∧ 0 ≤ j ∧ j < 4) ∨ (3 ≤ k ∧ k ≤ 6 ∧ 0 ≤ j ∧ j < 64) ∨ (k = 7 ∧ 5 ≤ j ∧ j ≤ 7) ∨ (8 ≤ k ∧ k ≤ 12 ∧ 0 ≤ j ∧ j < 4) ∨ (k = 13 ∧ 0 ≤ j ∧ j < 3)
theorem cpy_s {σ : Mem} {a b : Nat} {m j : Int} (h : 0 ≤ j ∧ j < m) : cpy σ a b m b j = σ a j := by rw [cpy_ap, if_pos ⟨rfl, h⟩]
theorem kcp_o {σ : Mem} {f t c : Nat} (h : c < t + 1 ∨ t + 6 < c) : kcp σ f t c = σ c := by
  unfold kcp; rw [cpy_o (by omega), cpy_o (by omega), cpy_o (by omega), cpy_o (by omega), cpy_o (by omega), up_o (by omega)]
theorem acp_o {σ : Mem} {f t c : Nat} (h : c < t + 7 ∨ t + 12 < c) : acp σ f t c = σ c := by
  show up (up (up _ _ _ _) _ _ _) _ _ _ c = σ c
  rw [up_o (by omega), up_o (by omega), up_o (by omega), cpy_o (by omega), cpy_o (by omega), cpy_o (by omega), cpy_o (by omega), cpy_o (by omega)]
theorem csp_o {σ : Mem} {f t c : Nat} (h : c < t ∨ t + 13 < c) : csp σ f t c = σ c := by
  unfold csp; rw [cpy_o (by omega), acp_o (by omega), kcp_o (by omega)]
theorem csp_f {σ : Mem} {f t : Nat} (hd : dsj f t) (k : Nat) (hk : k < 14) : csp σ f t (f + k) = σ (f + k) := csp_o (by unfold dsj at hd; omega)
theorem kcp_1 {σ : Mem} {f t : Nat} : kcp σ f t (t + 1) 0 = σ (f + 1) 0 := by
  unfold kcp; rw [cpy_o (by omega), cpy_o (by omega), cpy_o (by omega), cpy_o (by omega), cpy_o (by omega), up_ap, if_pos ⟨rfl, rfl⟩]
theorem kcp_2 {σ : Mem} {f t : Nat} {j : Int} (hd : dsj f t) (h : 0 ≤ j ∧ j < 4) : kcp σ f t (t + 2) j = σ (f + 2) j := by
  unfold dsj at hd; unfold kcp; rw [cpy_o (by omega), cpy_o (by omega), cpy_o (by omega), cpy_o (by omega), cpy_s h, up_o (by omega)]
theorem kcp_3 {σ : Mem} {f t : Nat} {j : Int} (hd : dsj f t) (h : 0 ≤ j ∧ j < 64) : kcp σ f t (t + 3) j = σ (f + 3) j := by
  unfold dsj at hd; unfold kcp; rw [cpy_o (by omega), cpy_o (by omega), cpy_o (by omega), cpy_s h, cpy_o (by omega), up_o (by omega)]
theorem kcp_4 {σ : Mem} {f t : Nat} {j : Int} (hd : dsj f t) (h : 0 ≤ j ∧ j < 64) : kcp σ f t (t + 4) j = σ (f + 4) j := by
  unfold dsj at hd; unfold kcp; rw [cpy_o (by omega), cpy_o (by omega), cpy_s h, cpy_o (by omega), cpy_o (by omega), up_o (by omega)]
theorem kcp_5 {σ : Mem} {f t : Nat} {j : Int} (hd : dsj f t) (h : 0 ≤ j ∧ j < 64) : kcp σ f t (t + 5) j = σ (f + 5) j := by
  unfold dsj at hd; unfold kcp; rw [cpy_o (by omega), cpy_s h, cpy_o (by omega), cpy_o (by omega), cpy_o (by omega), up_o (by omega)]
theorem kcp_6 {σ : Mem} {f t : Nat} {j : Int} (hd : dsj f t) (h : 0 ≤ j ∧ j < 64) : kcp σ f t (t + 6) j = σ (f + 6) j := by
  unfold dsj at hd; unfold kcp; rw [cpy_s h, cpy_o (by omega), cpy_o (by omega), cpy_o (by omega), cpy_o (by omega), up_o (by omega)]
theorem acp_7 {σ : Mem} {f t : Nat} {j : Int} (hd : dsj f t) (h : 5 ≤ j ∧ j ≤ 7) : acp σ f t (t + 7) j = σ (f + 7) j := by
  unfold dsj at hd
  have e : ∀ i : Int, (cpy (cpy (cpy (cpy (cpy σ (f + 8) (t + 8) 4) (f + 9) (t + 9) 4) (f + 10) (t + 10) 4) (f + 11) (t + 11) 4) (f + 12) (t + 12) 4) (f + 7) i = σ (f + 7) i := fun i => by rw [cpy_o (by omega), cpy_o (by omega), cpy_o (by omega), cpy_o (by omega), cpy_o (by omega)]
  obtain rfl | rfl | rfl : j = 5 ∨ j = 6 ∨ j = 7 := by omega
  · show up (up (up _ _ _ _) _ _ _) _ _ _ (t + 7) 5 = _
    rw [up_ap, if_neg (by omega), up_ap, if_neg (by omega), up_ap, if_pos ⟨rfl, rfl⟩, e]
  · show up (up (up _ _ _ _) _ _ _) _ _ _ (t + 7) 6 = _
    rw [up_ap, if_neg (by omega), up_ap, if_pos ⟨rfl, rfl⟩, up_ap, if_neg (by omega), e]
  · show up (up (up _ _ _ _) _ _ _) _ _ _ (t + 7) 7 = _
    rw [up_ap, if_pos ⟨rfl, rfl⟩, up_ap, if_neg (by omega), up_ap, if_neg (by omega), e]
theorem acp_n {σ : Mem} {f t k : Nat} {j : Int} (hd : dsj f t) (hk : 8 ≤ k ∧ k ≤ 12) (h : 0 ≤ j ∧ j < 4) : acp σ f t (t + k) j = σ (f + k) j := by
  unfold dsj at hd
  show up (up (up _ _ _ _) _ _ _) _ _ _ (t + k) j = _
  rw [up_o (by omega), up_o (by omega), up_o (by omega)]
  obtain rfl | rfl | rfl | rfl | rfl : k = 8 ∨ k = 9 ∨ k = 10 ∨ k = 11 ∨ k = 12 := by omega
  · rw [cpy_o (by omega), cpy_o (by omega), cpy_o (by omega), cpy_o (by omega), cpy_s h]
  · rw [cpy_o (by omega), cpy_o (by omega), cpy_o (by omega), cpy_s h, cpy_o (by omega)]
  · rw [cpy_o (by omega), cpy_o (by omega), cpy_s h, cpy_o (by omega), cpy_o (by omega)]
  · rw [cpy_o (by omega), cpy_s h, cpy_o (by omega), cpy_o (by omega), cpy_o (by omega)]
  · rw [cpy_s h, cpy_o (by omega), cpy_o (by omega), cpy_o (by omega), cpy_o (by omega)]
theorem csp_t {σ : Mem} {f t : Nat} (hd : dsj f t) {k : Nat} {j : Int} (h : inC k j) : csp σ f t (t + k) j = σ (f + k) j := by
  have hd' := hd
  unfold dsj at hd'
  have e1 : ∀ i, 1 ≤ i → i ≤ 6 → csp σ f t (t + i) = kcp σ f t (t + i) := fun i a b => by unfold csp; rw [cpy_o (by omega), acp_o (by omega)]
  have e2 : ∀ i, 7 ≤ i → i ≤ 12 → csp σ f t (t + i) = acp (kcp σ f t) f t (t + i) := fun i a b => by unfold csp; rw [cpy_o (by omega)]
  have e3 : ∀ i, i < 14 → kcp σ f t (f + i) = σ (f + i) := fun i a => kcp_o (by omega)
  rcases h with ⟨rfl, rfl⟩ | ⟨rfl, h⟩ | ⟨h1, h2, h⟩ | ⟨rfl, h1, h2⟩ | ⟨h1, h2, h⟩ | ⟨rfl, h⟩
  · rw [e1 1 (by decide) (by decide), kcp_1]
  · rw [e1 2 (by decide) (by decide), kcp_2 hd h]
  · obtain rfl | rfl | rfl | rfl : k = 3 ∨ k = 4 ∨ k = 5 ∨ k = 6 := by omega
    · rw [e1 3 (by decide) (by decide), kcp_3 hd h]
    · rw [e1 4 (by decide) (by decide), kcp_4 hd h]
    · rw [e1 5 (by decide) (by decide), kcp_5 hd h]
    · rw [e1 6 (by decide) (by decide), kcp_6 hd h]
  · rw [e2 7 (by decide) (by decide), acp_7 hd ⟨h1, h2⟩, e3 7 (by decide)]
  · rw [e2 k (by omega) h2, acp_n hd ⟨h1, h2⟩ h, e3 k (by omega)]
  · unfold csp; rw [cpy_s h, acp_o (by omega), e3 13 (by decide)]
set_option maxRecDepth 100000 in
set_option maxHeartbeats 4000000 in
theorem k_X1_copyState (l : Launch) {σ : Mem} {f t : Nat} (hF : isB f) (hT : isB t) : CtV l yX1_copyState (Cond.code yX1_copyState cX1_copyState 2 none) 2 39 (fun z => [.ref (z + (f + 0)), .ref (z + (t + 0))]) σ (csp σ f t) := by
  intro D T z
  refine Ct_of (by decide) (Nat.le_of_ble_eq_true rfl) ?_
  intro p e s m below meth c ls hx hb hml hr hts hown hlk G hl
  have hown : s.vm.findClass RX1 = some m.cls := hown
  have hl : lv_has ls 2 [(0, .ref (z + (f + 0))), (1, .ref (z + (t + 0)))] := hl
  refine lv_aload_n hx hb dX1_copyState_0 rfl (lv_at hl 0 rfl) ?_
  refine lv_ifnull hx hb dX1_copyState_1 ?_
  refine lv_aload_n hx hb dX1_copyState_4 rfl (lv_at hl 1 rfl) ?_
  refine lv_ifnonnull (tgt := 9) hx hb dX1_copyState_5 (by decide) ?_
  refine lv_aload_n hx hb dX1_copyState_9 rfl (lv_at hl 1 rfl) ?_
  refine gb_X1_12 hx hb hts hown G (b := t) hT (Nat.lt_of_le_of_lt (Nat.add_le_add_right (isB_lt hT) _) (by decide)) dX1_copyState_10 ?_
  refine lv_aload_n hx hb dX1_copyState_13 rfl (lv_at hl 0 rfl) ?_
  refine gb_X1_12 hx hb hts hown G (b := f) hF (Nat.lt_of_le_of_lt (Nat.add_le_add_right (isB_lt hF) _) (by decide)) dX1_copyState_14 ?_
  refine r_callVV ⟨hx, hb, hml, hown, hts⟩ G (k_X3_copyFrom l (t := t) (f := f) (σ := σ) (hF) (hT)) (kV_X3_copyFrom hts qM_X1_38 ⟨by decide, by decide⟩) (rb_X3 (b := t) G hT (Nat.lt_of_le_of_lt (Nat.add_le_add_right (isB_lt hT) _) (by decide))) rfl rfl hl.1 rfl (Nat.le_of_ble_eq_true rfl) dX1_copyState_17 ⟨Nat.le_refl _, Nat.le_refl _⟩ (fun H locs G => ?_)
  refine lv_aload_n hx hb dX1_copyState_20 rfl (lv_at hl 1 rfl) ?_
  refine gb_X1_21 hx hb hts hown G (b := t) hT (Nat.lt_of_le_of_lt (Nat.add_le_add_right (isB_lt hT) _) (by decide)) dX1_copyState_21 ?_
  refine lv_aload_n hx hb dX1_copyState_24 rfl (lv_at hl 0 rfl) ?_
  refine gb_X1_21 hx hb hts hown G (b := f) hF (Nat.lt_of_le_of_lt (Nat.add_le_add_right (isB_lt hF) _) (by decide)) dX1_copyState_25 ?_
  refine r_callVV ⟨hx, hb, hml, hown, hts⟩ G (k_X0_copyFrom l (t := t) (f := f) (σ := kcp σ f t) (hF) (hT)) (kV_X0_copyFrom hts qM_X1_42 ⟨by decide, by decide⟩) (rb_X0 (b := t) G hT (Nat.lt_of_le_of_lt (Nat.add_le_add_right (isB_lt hT) _) (by decide))) rfl rfl hl.1 rfl (Nat.le_of_ble_eq_true rfl) dX1_copyState_28 ⟨Nat.le_refl _, Nat.le_refl _⟩ (fun H locs G => ?_)
  refine lv_aload_n hx hb dX1_copyState_31 rfl (lv_at hl 0 rfl) ?_
  refine gb_X1_25 hx hb hts hown G (b := f) hF (Nat.lt_of_le_of_lt (Nat.add_le_add_right (isB_lt hF) _) (by decide)) dX1_copyState_32 ?_
  refine r_iconst hx hb dX1_copyState_35 ?_
  refine lv_aload_n hx hb dX1_copyState_36 rfl (lv_at hl 1 rfl) ?_
  refine gb_X1_25 hx hb hts hown G (b := t) hT (Nat.lt_of_le_of_lt (Nat.add_le_add_right (isB_lt hT) _) (by decide)) dX1_copyState_37 ?_
  refine r_iconst hx hb dX1_copyState_40 ?_
  refine r_iconst hx hb dX1_copyState_41 ?_
  refine r_copy ⟨hx, hb, hml, hown, hts⟩ hl.1 qM_X1_32 G (f + 13) (t + 13) (Nat.lt_of_le_of_lt (Nat.add_le_add_right (isB_lt hF) _) (by decide)) (Nat.lt_of_le_of_lt (Nat.add_le_add_right (isB_lt hT) _) (by decide)) (fun f => shp_B hF (by decide)) (fun f => shp_B hT (by decide)) (by omega) (by omega) (by omega) (by omega) ⟨Nat.le_of_ble_eq_true rfl, Nat.le_of_ble_eq_true rfl⟩ dX1_copyState_42 (fun H locs G => ?_)
  exact r_vret hx hb hr hlk G (by rfl) dX1_copyState_45
/-- the saved states' own places -/
def XC (σ : Mem) : Prop := ∀ i, 0 ≤ i → i < 6 → 0 ≤ σ 16 i ∧ σ 16 i < 6
def dro (σ : Mem) : Mem := up (up (up (up (up (up (up σ 16 0 (σ 16 1)) 16 1 (σ 16 2)) 16 2 (σ 16 3)) 16 3 (σ 16 4)) 16 4 (σ 16 5)) 16 5 (σ 16 0)) 15 1 5
theorem dro_o {σ : Mem} {c : Nat} (h : c ≠ 16) (h2 : c ≠ 15) : dro σ c = σ c := by
  unfold dro
  rw [up_o h2, up_o h, up_o h, up_o h, up_o h, up_o h, up_o h]
theorem dro_15 {σ : Mem} : dro σ 15 1 = 5 := by simp [dro, up_ap]
theorem dro_16 {σ : Mem} {i : Int} (h0 : 0 ≤ i) (h1 : i < 6) : dro σ 16 i = σ 16 ((i + 1) % 6) := by
  obtain rfl | rfl | rfl | rfl | rfl | rfl : i = 0 ∨ i = 1 ∨ i = 2 ∨ i = 3 ∨ i = 4 ∨ i = 5 := by omega
  all_goals simp [dro, up_ap]
def psh (σ : Mem) : Mem := (fun τ => up τ 15 1 (τ 15 1 + 1)) (csp σ 1 (17 + 14 * (σ 16 (σ 15 1)).toNat))
theorem psh_o {σ : Mem} {c : Nat} (h : c ≠ 15) : psh σ c = csp σ 1 (17 + 14 * (σ 16 (σ 15 1)).toNat) c := up_o h
def pus (σ : Mem) : Mem := if σ 15 1 < 6 then psh σ else psh (dro σ)
def pop (σ : Mem) : Mem := if σ 15 1 ≤ 0 then σ else csp (up σ 15 1 (σ 15 1 - 1)) (17 + 14 * (σ 16 (σ 15 1 - 1)).toNat) 1
theorem isB_1 : isB 1 := Or.inl rfl
theorem isB_x {i : Int} (h0 : 0 ≤ i) (h1 : i < 6) : isB (17 + 14 * i.toNat) := Or.inr (Or.inl ⟨i.toNat, by omega, rfl⟩)
theorem isB_y {i : Int} (h0 : 0 ≤ i) (h1 : i < 2) : isB (102 + 14 * i.toNat) := Or.inr (Or.inr ⟨i.toNat, by omega, rfl⟩)
theorem XC_d {σ : Mem} (h : XC σ) : XC (dro σ) := by
  intro i h0 h1
  rw [dro_16 h0 h1]
  exact h _ (by omega) (by omega)
set_option maxRecDepth 100000 in
set_option maxHeartbeats 4000000 in
theorem k_X4_dropOldest (l : Launch) {σ : Mem} (hX : XC σ) : CtV l yX4_dropOldest (Cond.code yX4_dropOldest cX4_dropOldest 3 none) 0 0 (fun z => [.ref (z + 15)]) σ (dro σ) := by
  intro D T z
  refine Ct_of (by decide) (Nat.le_of_ble_eq_true rfl) ?_
  intro p e s m below meth c ls hx hb hml hr hts hown hlk G hl
  have hown : s.vm.findClass RX4 = some m.cls := hown
  have hl : lv_has ls 3 [(0, .ref (z + 15))] := hl
  have x0 := hX 0 (by decide) (by decide)
  have x1 := hX 1 (by decide) (by decide)
  have x2 := hX 2 (by decide) (by decide)
  have x3 := hX 3 (by decide) (by decide)
  have x4 := hX 4 (by decide) (by decide)
  have x5 := hX 5 (by decide) (by decide)
  refine lv_aload_n hx hb dX4_dropOldest_0 rfl (lv_at hl 0 rfl) ?_
  refine gf_X4_11 hx hb hts hown G dX4_dropOldest_1 ?_
  refine r_iconst hx hb dX4_dropOldest_4 ?_
  refine r_xald hx hb G (by omega) (by omega) dX4_dropOldest_5 ?_
  refine lv_astore_n (lv' := [(1, .ref (z + (17 + 14 * (σ 16 0).toNat))), (0, .ref (z + 15))]) hx hb dX4_dropOldest_6 rfl hl (by decide) rfl (fun ls hl => ?_)
  refine r_iconst hx hb dX4_dropOldest_7 ?_
  refine lv_istore_n (lv' := [(2, .int (kI 1)), (1, .ref (z + (17 + 14 * (σ 16 0).toNat))), (0, .ref (z + 15))]) hx hb dX4_dropOldest_8 rfl hl (by decide) rfl (fun ls hl => ?_)
  refine lv_iload_n hx hb dX4_dropOldest_9 rfl (lv_at hl 0 rfl) ?_
  refine r_bipush hx hb dX4_dropOldest_10 (by decide +kernel) ?_
  refine r_icmp_ge (tgt := 35) hx hb ⟨by decide, by decide⟩ ⟨by decide, by decide⟩ dX4_dropOldest_12 (by decide) (fun h_1 => absurd h_1 (by decide)) (fun _ => ?_)
  refine lv_aload_n hx hb dX4_dropOldest_15 rfl (lv_at hl 2 rfl) ?_
  refine gf_X4_11 hx hb hts hown G dX4_dropOldest_16 ?_
  refine lv_iload_n hx hb dX4_dropOldest_19 rfl (lv_at hl 0 rfl) ?_
  refine r_iconst hx hb dX4_dropOldest_20 ?_
  refine r_isub hx hb dX4_dropOldest_21 ?_
  refine r_top (b := 0) (by decide) ?_
  refine lv_aload_n hx hb dX4_dropOldest_22 rfl (lv_at hl 2 rfl) ?_
  refine gf_X4_11 hx hb hts hown G dX4_dropOldest_23 ?_
  refine lv_iload_n hx hb dX4_dropOldest_26 rfl (lv_at hl 0 rfl) ?_
  refine r_xald hx hb G (by omega) (by omega) dX4_dropOldest_27 ?_
  refine r_xast hx hb G (by omega) (by omega) (by omega) (by omega) dX4_dropOldest_28 (fun H locs G => ?_)
  refine r_iinc (lv' := [(2, .int (kI 2)), (1, .ref (z + (17 + 14 * (σ 16 0).toNat))), (0, .ref (z + 15))]) hx hb dX4_dropOldest_29 hl (k := 0) rfl (by decide) rfl (fun ls hl => ?_)
  refine lv_goto (tgt := 9) hx hb dX4_dropOldest_32 (by decide) ?_
  refine lv_iload_n hx hb dX4_dropOldest_9 rfl (lv_at hl 0 rfl) ?_
  refine r_bipush hx hb dX4_dropOldest_10 (by decide +kernel) ?_
  refine r_icmp_ge (tgt := 35) hx hb ⟨by decide, by decide⟩ ⟨by decide, by decide⟩ dX4_dropOldest_12 (by decide) (fun h_2 => absurd h_2 (by decide)) (fun _ => ?_)
  refine lv_aload_n hx hb dX4_dropOldest_15 rfl (lv_at hl 2 rfl) ?_
  refine gf_X4_11 hx hb hts hown G dX4_dropOldest_16 ?_
  refine lv_iload_n hx hb dX4_dropOldest_19 rfl (lv_at hl 0 rfl) ?_
  refine r_iconst hx hb dX4_dropOldest_20 ?_
  refine r_isub hx hb dX4_dropOldest_21 ?_
  refine r_top (b := 1) (by decide) ?_
  refine lv_aload_n hx hb dX4_dropOldest_22 rfl (lv_at hl 2 rfl) ?_
  refine gf_X4_11 hx hb hts hown G dX4_dropOldest_23 ?_
  refine lv_iload_n hx hb dX4_dropOldest_26 rfl (lv_at hl 0 rfl) ?_
  refine r_xald hx hb G (by omega) (by omega) dX4_dropOldest_27 ?_
  refine r_topx (b := σ 16 2) (by simp [up_ap]) ?_
  refine r_xast hx hb G (by omega) (by omega) (by omega) (by omega) dX4_dropOldest_28 (fun H locs G => ?_)
  refine r_iinc (lv' := [(2, .int (kI 3)), (1, .ref (z + (17 + 14 * (σ 16 0).toNat))), (0, .ref (z + 15))]) hx hb dX4_dropOldest_29 hl (k := 0) rfl (by decide) rfl (fun ls hl => ?_)
  refine lv_goto (tgt := 9) hx hb dX4_dropOldest_32 (by decide) ?_
  refine lv_iload_n hx hb dX4_dropOldest_9 rfl (lv_at hl 0 rfl) ?_
  refine r_bipush hx hb dX4_dropOldest_10 (by decide +kernel) ?_
  refine r_icmp_ge (tgt := 35) hx hb ⟨by decide, by decide⟩ ⟨by decide, by decide⟩ dX4_dropOldest_12 (by decide) (fun h_3 => absurd h_3 (by decide)) (fun _ => ?_)
  refine lv_aload_n hx hb dX4_dropOldest_15 rfl (lv_at hl 2 rfl) ?_
  refine gf_X4_11 hx hb hts hown G dX4_dropOldest_16 ?_
  refine lv_iload_n hx hb dX4_dropOldest_19 rfl (lv_at hl 0 rfl) ?_
  refine r_iconst hx hb dX4_dropOldest_20 ?_
  refine r_isub hx hb dX4_dropOldest_21 ?_
  refine r_top (b := 2) (by decide) ?_
  refine lv_aload_n hx hb dX4_dropOldest_22 rfl (lv_at hl 2 rfl) ?_
  refine gf_X4_11 hx hb hts hown G dX4_dropOldest_23 ?_
  refine lv_iload_n hx hb dX4_dropOldest_26 rfl (lv_at hl 0 rfl) ?_
  refine r_xald hx hb G (by omega) (by omega) dX4_dropOldest_27 ?_
  refine r_topx (b := σ 16 3) (by simp [up_ap]) ?_
  refine r_xast hx hb G (by omega) (by omega) (by omega) (by omega) dX4_dropOldest_28 (fun H locs G => ?_)
  refine r_iinc (lv' := [(2, .int (kI 4)), (1, .ref (z + (17 + 14 * (σ 16 0).toNat))), (0, .ref (z + 15))]) hx hb dX4_dropOldest_29 hl (k := 0) rfl (by decide) rfl (fun ls hl => ?_)
  refine lv_goto (tgt := 9) hx hb dX4_dropOldest_32 (by decide) ?_
  refine lv_iload_n hx hb dX4_dropOldest_9 rfl (lv_at hl 0 rfl) ?_
  refine r_bipush hx hb dX4_dropOldest_10 (by decide +kernel) ?_
  refine r_icmp_ge (tgt := 35) hx hb ⟨by decide, by decide⟩ ⟨by decide, by decide⟩ dX4_dropOldest_12 (by decide) (fun h_4 => absurd h_4 (by decide)) (fun _ => ?_)
  refine lv_aload_n hx hb dX4_dropOldest_15 rfl (lv_at hl 2 rfl) ?_
  refine gf_X4_11 hx hb hts hown G dX4_dropOldest_16 ?_
  refine lv_iload_n hx hb dX4_dropOldest_19 rfl (lv_at hl 0 rfl) ?_
  refine r_iconst hx hb dX4_dropOldest_20 ?_
  refine r_isub hx hb dX4_dropOldest_21 ?_
  refine r_top (b := 3) (by decide) ?_
  refine lv_aload_n hx hb dX4_dropOldest_22 rfl (lv_at hl 2 rfl) ?_
  refine gf_X4_11 hx hb hts hown G dX4_dropOldest_23 ?_
  refine lv_iload_n hx hb dX4_dropOldest_26 rfl (lv_at hl 0 rfl) ?_
  refine r_xald hx hb G (by omega) (by omega) dX4_dropOldest_27 ?_
  refine r_topx (b := σ 16 4) (by simp [up_ap]) ?_
  refine r_xast hx hb G (by omega) (by omega) (by omega) (by omega) dX4_dropOldest_28 (fun H locs G => ?_)
  refine r_iinc (lv' := [(2, .int (kI 5)), (1, .ref (z + (17 + 14 * (σ 16 0).toNat))), (0, .ref (z + 15))]) hx hb dX4_dropOldest_29 hl (k := 0) rfl (by decide) rfl (fun ls hl => ?_)
  refine lv_goto (tgt := 9) hx hb dX4_dropOldest_32 (by decide) ?_
  refine lv_iload_n hx hb dX4_dropOldest_9 rfl (lv_at hl 0 rfl) ?_
  refine r_bipush hx hb dX4_dropOldest_10 (by decide +kernel) ?_
  refine r_icmp_ge (tgt := 35) hx hb ⟨by decide, by decide⟩ ⟨by decide, by decide⟩ dX4_dropOldest_12 (by decide) (fun h_5 => absurd h_5 (by decide)) (fun _ => ?_)
  refine lv_aload_n hx hb dX4_dropOldest_15 rfl (lv_at hl 2 rfl) ?_
  refine gf_X4_11 hx hb hts hown G dX4_dropOldest_16 ?_
  refine lv_iload_n hx hb dX4_dropOldest_19 rfl (lv_at hl 0 rfl) ?_
  refine r_iconst hx hb dX4_dropOldest_20 ?_
  refine r_isub hx hb dX4_dropOldest_21 ?_
  refine r_top (b := 4) (by decide) ?_
  refine lv_aload_n hx hb dX4_dropOldest_22 rfl (lv_at hl 2 rfl) ?_
  refine gf_X4_11 hx hb hts hown G dX4_dropOldest_23 ?_
  refine lv_iload_n hx hb dX4_dropOldest_26 rfl (lv_at hl 0 rfl) ?_
  refine r_xald hx hb G (by omega) (by omega) dX4_dropOldest_27 ?_
  refine r_topx (b := σ 16 5) (by simp [up_ap]) ?_
  refine r_xast hx hb G (by omega) (by omega) (by omega) (by omega) dX4_dropOldest_28 (fun H locs G => ?_)
  refine r_iinc (lv' := [(2, .int (kI 6)), (1, .ref (z + (17 + 14 * (σ 16 0).toNat))), (0, .ref (z + 15))]) hx hb dX4_dropOldest_29 hl (k := 0) rfl (by decide) rfl (fun ls hl => ?_)
  refine lv_goto (tgt := 9) hx hb dX4_dropOldest_32 (by decide) ?_
  refine lv_iload_n hx hb dX4_dropOldest_9 rfl (lv_at hl 0 rfl) ?_
  refine r_bipush hx hb dX4_dropOldest_10 (by decide +kernel) ?_
  refine r_icmp_ge (tgt := 35) hx hb ⟨by decide, by decide⟩ ⟨by decide, by decide⟩ dX4_dropOldest_12 (by decide) (fun _ => ?_) (fun h_6 => absurd h_6 (by decide))
  refine lv_aload_n hx hb dX4_dropOldest_35 rfl (lv_at hl 2 rfl) ?_
  refine gf_X4_11 hx hb hts hown G dX4_dropOldest_36 ?_
  refine r_iconst hx hb dX4_dropOldest_39 ?_
  refine lv_aload_n hx hb dX4_dropOldest_40 rfl (lv_at hl 1 rfl) ?_
  refine r_xast hx hb G (by omega) (by omega) (by omega) (by omega) dX4_dropOldest_41 (fun H locs G => ?_)
  refine lv_aload_n hx hb dX4_dropOldest_42 rfl (lv_at hl 2 rfl) ?_
  refine r_iconst hx hb dX4_dropOldest_43 ?_
  refine pf_X4_18 hx hb hts hown G dX4_dropOldest_44 (fun H locs G => ?_)
  exact r_vret hx hb hr hlk G (by rfl) dX4_dropOldest_47
set_option maxRecDepth 100000 in
set_option maxHeartbeats 4000000 in
theorem k_X4_push (l : Launch) {σ : Mem} (hX : XC σ) (hz : 0 ≤ σ 15 1 ∧ σ 15 1 ≤ 6) : CtV l yX4_push (Cond.code yX4_push cX4_push 2 none) 3 60 (fun z => [.ref (z + 15), .ref (z + 1)]) σ (pus σ) := by
  intro D T z
  refine Ct_of (by decide) (Nat.le_of_ble_eq_true rfl) ?_
  intro p e s m below meth c ls hx hb hml hr hts hown hlk G hl
  have hown : s.vm.findClass RX4 = some m.cls := hown
  have hl : lv_has ls 2 [(0, .ref (z + 15)), (1, .ref (z + 1))] := hl
  refine lv_aload_n hx hb dX4_push_0 rfl (lv_at hl 0 rfl) ?_
  refine gf_X4_18 hx hb hts hown G dX4_push_1 ?_
  refine r_bipush hx hb dX4_push_4 (by decide +kernel) ?_
  refine r_icmp_lt (tgt := 13) hx hb ⟨by omega, by omega⟩ ⟨by decide, by decide⟩ dX4_push_6 (by decide) (fun h_1 => ?_) (fun h_1 => ?_)
  · skip
    have xs := hX (σ 15 1) (by omega) (by omega)
    refine lv_aload_n hx hb dX4_push_13 rfl (lv_at hl 1 rfl) ?_
    refine lv_aload_n hx hb dX4_push_14 rfl (lv_at hl 0 rfl) ?_
    refine gf_X4_11 hx hb hts hown G dX4_push_15 ?_
    refine lv_aload_n hx hb dX4_push_18 rfl (lv_at hl 0 rfl) ?_
    refine gf_X4_18 hx hb hts hown G dX4_push_19 ?_
    refine r_xald hx hb G (by omega) (by omega) dX4_push_22 ?_
    refine r_callSV ⟨hx, hb, hml, hown, hts⟩ G (k_X1_copyState l (f := 1) (t := (17 + 14 * (σ 16 (σ 15 1)).toNat)) (σ := σ) (isB_1) (isB_x xs.1 xs.2)) (kS_X1_copyState hts qM_X4_25 ⟨by decide, by decide⟩) rfl rfl hl.1 rfl (Nat.le_of_ble_eq_true rfl) dX4_push_23 ⟨Nat.le_refl _, Nat.le_refl _⟩ (fun H locs G => ?_)
    refine lv_aload_n hx hb dX4_push_26 rfl (lv_at hl 0 rfl) ?_
    refine lv_dup hx hb dX4_push_27 rfl ?_
    refine gf_X4_18 hx hb hts hown G dX4_push_28 ?_
    refine r_iconst hx hb dX4_push_31 ?_
    refine r_iadd hx hb dX4_push_32 ?_
    refine pf_X4_18 hx hb hts hown G dX4_push_33 (fun H locs G => ?_)
    exact r_vret hx hb hr hlk G (by unfold pus; first | (rw [if_pos (by omega)]; rfl) | (rw [if_neg (by omega)]; rfl)) dX4_push_36
  · skip
    have hXd := XC_d hX
    have d5 : dro σ 15 1 = 5 := dro_15
    have xs := hXd (dro σ 15 1) (by omega) (by omega)
    refine lv_aload_n hx hb dX4_push_9 rfl (lv_at hl 0 rfl) ?_
    refine r_callVV ⟨hx, hb, hml, hown, hts⟩ G (k_X4_dropOldest l (σ := σ) (hX)) (kV_X4_dropOldest hts qM_X4_22 ⟨by decide, by decide⟩) (rc_X4 G) rfl rfl hl.1 rfl (Nat.le_of_ble_eq_true rfl) dX4_push_10 ⟨Nat.le_refl _, Nat.le_refl _⟩ (fun H locs G => ?_)
    refine lv_aload_n hx hb dX4_push_13 rfl (lv_at hl 1 rfl) ?_
    refine lv_aload_n hx hb dX4_push_14 rfl (lv_at hl 0 rfl) ?_
    refine gf_X4_11 hx hb hts hown G dX4_push_15 ?_
    refine lv_aload_n hx hb dX4_push_18 rfl (lv_at hl 0 rfl) ?_
    refine gf_X4_18 hx hb hts hown G dX4_push_19 ?_
    refine r_xald hx hb G (by omega) (by omega) dX4_push_22 ?_
    refine r_callSV ⟨hx, hb, hml, hown, hts⟩ G (k_X1_copyState l (f := 1) (t := (17 + 14 * ((dro σ) 16 ((dro σ) 15 1)).toNat)) (σ := dro σ) (isB_1) (isB_x xs.1 xs.2)) (kS_X1_copyState hts qM_X4_25 ⟨by decide, by decide⟩) rfl rfl hl.1 rfl (Nat.le_of_ble_eq_true rfl) dX4_push_23 ⟨Nat.le_refl _, Nat.le_refl _⟩ (fun H locs G => ?_)
    refine lv_aload_n hx hb dX4_push_26 rfl (lv_at hl 0 rfl) ?_
    refine lv_dup hx hb dX4_push_27 rfl ?_
    refine gf_X4_18 hx hb hts hown G dX4_push_28 ?_
    refine r_iconst hx hb dX4_push_31 ?_
    refine r_iadd hx hb dX4_push_32 ?_
    refine pf_X4_18 hx hb hts hown G dX4_push_33 (fun H locs G => ?_)
    exact r_vret hx hb hr hlk G (by unfold pus; first | (rw [if_pos (by omega)]; rfl) | (rw [if_neg (by omega)]; rfl)) dX4_push_36
set_option maxRecDepth 100000 in
set_option maxHeartbeats 4000000 in
theorem k_X4_popInto (l : Launch) {σ : Mem} (hX : XC σ) (hz : 0 ≤ σ 15 1 ∧ σ 15 1 ≤ 6) : CtV l yX4_popInto (Cond.code yX4_popInto cX4_popInto 2 none) 3 60 (fun z => [.ref (z + 15), .ref (z + 1)]) σ (pop σ) := by
  intro D T z
  refine Ct_of (by decide) (Nat.le_of_ble_eq_true rfl) ?_
  intro p e s m below meth c ls hx hb hml hr hts hown hlk G hl
  have hown : s.vm.findClass RX4 = some m.cls := hown
  have hl : lv_has ls 2 [(0, .ref (z + 15)), (1, .ref (z + 1))] := hl
  refine lv_aload_n hx hb dX4_popInto_0 rfl (lv_at hl 0 rfl) ?_
  refine gf_X4_18 hx hb hts hown G dX4_popInto_1 ?_
  refine r_if_gt (tgt := 8) hx hb ⟨by omega, by omega⟩ dX4_popInto_4 (by decide) (fun h_1 => ?_) (fun h_1 => ?_)
  · skip
    have xs := hX (σ 15 1 - 1) (by omega) (by omega)
    refine lv_aload_n hx hb dX4_popInto_8 rfl (lv_at hl 0 rfl) ?_
    refine lv_dup hx hb dX4_popInto_9 rfl ?_
    refine gf_X4_18 hx hb hts hown G dX4_popInto_10 ?_
    refine r_iconst hx hb dX4_popInto_13 ?_
    refine r_isub hx hb dX4_popInto_14 ?_
    refine pf_X4_18 hx hb hts hown G dX4_popInto_15 (fun H locs G => ?_)
    refine lv_aload_n hx hb dX4_popInto_18 rfl (lv_at hl 0 rfl) ?_
    refine gf_X4_11 hx hb hts hown G dX4_popInto_19 ?_
    refine lv_aload_n hx hb dX4_popInto_22 rfl (lv_at hl 0 rfl) ?_
    refine gf_X4_18 hx hb hts hown G dX4_popInto_23 ?_
    refine r_top (b := σ 15 1 - 1) (by simp [up_ap]) ?_
    refine r_xald hx hb G (by omega) (by omega) dX4_popInto_26 ?_
    refine r_topx (b := σ 16 (σ 15 1 - 1)) (by simp [up_ap]) ?_
    refine lv_aload_n hx hb dX4_popInto_27 rfl (lv_at hl 1 rfl) ?_
    refine r_callSV ⟨hx, hb, hml, hown, hts⟩ G (k_X1_copyState l (f := (17 + 14 * (σ 16 (σ 15 1 - 1)).toNat)) (t := 1) (σ := up σ 15 1 (σ 15 1 - 1)) (isB_x xs.1 xs.2) (isB_1)) (kS_X1_copyState hts qM_X4_25 ⟨by decide, by decide⟩) rfl rfl hl.1 rfl (Nat.le_of_ble_eq_true rfl) dX4_popInto_28 ⟨Nat.le_refl _, Nat.le_refl _⟩ (fun H locs G => ?_)
    exact r_vret hx hb hr hlk G (by unfold pop; first | rw [if_neg (by omega)] | rw [if_pos (by omega)]) dX4_popInto_31
  · skip
    exact r_vret hx hb hr hlk G (by unfold pop; first | rw [if_neg (by omega)] | rw [if_pos (by omega)]) dX4_popInto_7
