/-! orders of the text, done -/
theorem bz_congr {P Q : Prop} [Decidable P] [Decidable Q] (h : P ↔ Q) : bz P = bz Q := by
  by_cases p : P
  · rw [bz_t p, bz_t (h.mp p)]
  · rw [bz_f p, bz_f (fun q => p (h.mpr q))]
abbrev rowR (σ : Mem) (v k y : Int) : Prop := isY k y ∧ ((v = 100 ∧ σ 4 (k * 16 + y) = 1) ∨ (v = 98 ∧ cbb σ k y))
def rowM (σ : Mem) (v k y : Int) : Mem := if isY k y ∧ v = 100 ∧ σ 4 (k * 16 + y) = 1 then dlr σ k y else if isY k y ∧ v = 98 ∧ cbb σ k y then brb σ k y else σ
theorem rowM_d {σ : Mem} {v k y : Int} (h : isY k y ∧ v = 100 ∧ σ 4 (k * 16 + y) = 1) : rowM σ v k y = dlr σ k y := by unfold rowM; rw [if_pos h]
theorem rowM_b {σ : Mem} {v k y : Int} (h : isY k y ∧ v = 98 ∧ cbb σ k y) : rowM σ v k y = brb σ k y := by
  have n : ¬ (isY k y ∧ v = 100 ∧ σ 4 (k * 16 + y) = 1) := by omega
  unfold rowM; rw [if_neg n, if_pos h]
theorem rowM_n {σ : Mem} {v k y : Int} (h : ¬ rowR σ v k y) : rowM σ v k y = σ := by
  have n1 : ¬ (isY k y ∧ v = 100 ∧ σ 4 (k * 16 + y) = 1) := fun q => h ⟨q.1, Or.inl q.2⟩
  have n2 : ¬ (isY k y ∧ v = 98 ∧ cbb σ k y) := fun q => h ⟨q.1, Or.inr q.2⟩
  unfold rowM; rw [if_neg n1, if_neg n2]
abbrev dorR (σ : Mem) (q : Int) : Prop := if cat σ q = 97 then isK (num σ (q + 1)) ∧ atr σ (num σ (q + 1)) < 100 else if cat σ q = 112 then isK (num σ (q + 1)) else if cat σ q = 116 then num σ (q + 1) ≤ 9999 - σ 2 0 else rowR σ (cat σ q) (num σ (q + 1)) (num σ (q + 3))
def dorM (σ : Mem) (q : Int) : Mem := if cat σ q = 97 then (if isK (num σ (q + 1)) then svr σ (num σ (q + 1)) else σ) else if cat σ q = 112 then (if isK (num σ (q + 1)) then tup σ (num σ (q + 1)) else σ) else if cat σ q = 116 then (if num σ (q + 1) ≤ 9999 - σ 2 0 then up σ 2 0 (σ 2 0 + num σ (q + 1)) else σ) else rowM σ (cat σ q) (num σ (q + 1)) (num σ (q + 3))
theorem dorR_a {σ : Mem} {q : Int} (h : cat σ q = 97) : dorR σ q ↔ isK (num σ (q + 1)) ∧ atr σ (num σ (q + 1)) < 100 := by unfold dorR; rw [if_pos h]
theorem dorR_p {σ : Mem} {q : Int} (h : cat σ q = 112) : dorR σ q ↔ isK (num σ (q + 1)) := by unfold dorR; rw [if_neg (by omega), if_pos h]
theorem dorR_t {σ : Mem} {q : Int} (h : cat σ q = 116) : dorR σ q ↔ num σ (q + 1) ≤ 9999 - σ 2 0 := by unfold dorR; rw [if_neg (by omega), if_neg (by omega), if_pos h]
theorem dorR_r {σ : Mem} {q : Int} (h1 : ¬ cat σ q = 97) (h2 : ¬ cat σ q = 112) (h3 : ¬ cat σ q = 116) : dorR σ q ↔ rowR σ (cat σ q) (num σ (q + 1)) (num σ (q + 3)) := by unfold dorR; rw [if_neg h1, if_neg h2, if_neg h3]
theorem dorM_a {σ : Mem} {q : Int} (h : cat σ q = 97) : dorM σ q = if isK (num σ (q + 1)) then svr σ (num σ (q + 1)) else σ := by unfold dorM; rw [if_pos h]
theorem dorM_p {σ : Mem} {q : Int} (h : cat σ q = 112) : dorM σ q = if isK (num σ (q + 1)) then tup σ (num σ (q + 1)) else σ := by unfold dorM; rw [if_neg (by omega), if_pos h]
theorem dorM_t {σ : Mem} {q : Int} (h : cat σ q = 116) : dorM σ q = if num σ (q + 1) ≤ 9999 - σ 2 0 then up σ 2 0 (σ 2 0 + num σ (q + 1)) else σ := by unfold dorM; rw [if_neg (by omega), if_neg (by omega), if_pos h]
theorem dorM_r {σ : Mem} {q : Int} (h1 : ¬ cat σ q = 97) (h2 : ¬ cat σ q = 112) (h3 : ¬ cat σ q = 116) : dorM σ q = rowM σ (cat σ q) (num σ (q + 1)) (num σ (q + 3)) := by unfold dorM; rw [if_neg h1, if_neg h2, if_neg h3]
theorem nwo_o {σ : Mem} {k q : Int} {c : Nat} (h1 : c ≠ 12) (h2 : c ≠ 13) : nwo σ k q c = σ c := by
  unfold nwo; split
  · rw [up_o h2, up_o h1]
  · rw [up_o h1]
theorem svr_o {σ : Mem} {k : Int} {c : Nat} (h : 15 ≤ c) : svr σ k c = σ c := by
  unfold svr; split
  · exact nwo_o (by omega) (by omega)
  · unfold gvk; rw [up_o (by omega), giv_o (by omega) (by omega) (by omega)]
theorem tup_o {σ : Mem} {k : Int} {c : Nat} (h : c ≠ 6) : tup σ k c = σ c := by
  funext j; unfold tup; simp only [flip6]; rw [if_neg (fun q => h q.1)]
theorem lotO {σ : Mem} {k y : Int} {c : Nat} (h : 15 ≤ c) : lot σ k y c = σ c := by
  unfold lot; rw [up_o (by omega), up_o (by omega), up_o (by omega)]
  funext j; simp only [inc6]; rw [if_neg (fun q => by omega)]
theorem dlr_o {σ : Mem} {k y : Int} {c : Nat} (h : 15 ≤ c) : dlr σ k y c = σ c := by
  have e : del10 σ k c = σ c := up_o (by omega)
  unfold dlr; split
  · rw [up_o (by omega), e]
  · rw [lotO h, e]
theorem brb_o {σ : Mem} {k y : Int} {c : Nat} (h : 15 ≤ c) : brb σ k y c = σ c := by unfold brb; rw [up_o (by omega), rev_o (by omega) (by omega)]
theorem dorM_o {σ : Mem} {q : Int} {c : Nat} (h : 15 ≤ c) : dorM σ q c = σ c := by
  unfold dorM rowM
  (repeat' split) <;> first | rfl | exact svr_o h | exact tup_o (by omega) | exact up_o (by omega) | exact dlr_o h | exact brb_o h
/-- a text's readings in another memory -/
theorem cat_m {σ τ : Mem} (h1 : τ 131 = σ 131) (h2 : τ 132 = σ 132) : cat τ = cat σ := by funext q; unfold cat; rw [h1, h2]
theorem num_m {σ τ : Mem} (h1 : τ 131 = σ 131) (h2 : τ 132 = σ 132) : num τ = num σ := by funext q; unfold num numF; rw [cat_m h1 h2]
theorem IT.m {σ τ : Mem} (h : IT σ) (h1 : τ 131 = σ 131) (h2 : τ 132 = σ 132) : IT τ := by unfold IT at *; rw [h1, h2]; exact h
abbrev bgn (σ : Mem) (i : Int) : Prop := i = 0 ∨ cat σ (i - 1) = 59
def crF (σ : Mem) (i : Int) (v : Mem × Int × Int) : Mem × Int × Int := if v.2.2 = 0 ∨ ¬ bgn σ i then v else (dorM v.1 i, v.2.1 + bz (dorR v.1 i), bz (dorR v.1 i))
def crI (σ : Mem) (i : Int) : Mem × Int × Int := it (crF σ) (pus σ, 0, 1) i
theorem crI_s {σ : Mem} {i : Int} (h : 0 ≤ i) : crI σ (i + 1) = crF σ i (crI σ i) := it_s (f := crF σ) h
theorem cr_stay {σ : Mem} {i n : Int} (h0 : 0 ≤ i) (hn : i ≤ n) (h : (crI σ i).2.2 = 0) : crI σ n = crI σ i := by
  obtain ⟨d, rfl⟩ : ∃ d : Nat, n = i + d := ⟨(n - i).toNat, by omega⟩
  clear hn
  induction d with
  | zero => rw [show i + ((0 : Nat) : Int) = i by omega]
  | succ d ih =>
    rw [show i + ((d + 1 : Nat) : Int) = (i + d) + 1 by omega, crI_s (by omega), ih]
    unfold crF
    rw [if_pos (Or.inl h)]
theorem cr_skip {σ τ : Mem} {i v : Int} (h0 : 0 ≤ i) (hv : (τ, v, 1) = crI σ i) (hb : ¬ bgn σ i) : (τ, v, 1) = crI σ (i + 1) := by
  rw [crI_s h0, ← hv]; unfold crF; exact (if_pos (Or.inr hb)).symm
theorem cr_do {σ τ : Mem} {i v : Int} (h0 : 0 ≤ i) (hv : (τ, v, 1) = crI σ i) (hb : bgn σ i) : (dorM τ i, v + bz (dorR τ i), bz (dorR τ i)) = crI σ (i + 1) := by
  rw [crI_s h0, ← hv]; unfold crF
  exact (if_neg (fun q => by rcases q with q | q; exact absurd q (show ¬ (1 : Int) = 0 by decide); exact q hb)).symm
set_option maxRecDepth 100000 in
set_option maxHeartbeats 4000000 in
theorem k_X5_turnIfKind (l : Launch) {σ : Mem} {k : Int} (hk0 : inR k) (hS : IS σ) : CtI l yX5_turnIfKind (Cond.code yX5_turnIfKind cX5_turnIfKind 2 (some .boolean)) 3 69 (fun z => [.ref (z + 0), .int (kI k)]) σ (bz (isK k)) (if isK k then tup σ k else σ) := by
  intro D T z
  refine Ct_of (by decide) (Nat.le_of_ble_eq_true rfl) ?_
  intro p e s m below meth c ls hx hb hml hr hts hown hlk G hl
  have hown : s.vm.findClass RX5 = some m.cls := hown
  have hl : lv_has ls 2 [(0, .ref (z + 0)), (1, .int (kI k))] := hl
  refine lv_iload_n hx hb dX5_turnIfKind_0 rfl (lv_at hl 1 rfl) ?_
  refine r_callSI ⟨hx, hb, hml, hown, hts⟩ G (k_X5_isKind l (k := k) (σ := σ) (⟨by omega, by omega⟩)) (kS_X5_isKind hts qM_X5_231 ⟨by decide, by decide⟩) rfl rfl hl.1 rfl (Nat.le_of_ble_eq_true rfl) dX5_turnIfKind_1 ⟨Nat.le_refl _, Nat.le_refl _⟩ (fun H locs G => ?_)
  refine r_zne (tgt := 9) hx hb dX5_turnIfKind_4 (by decide) (fun h_1 => ?_) (fun h_1 => ?_)
  · skip
    have hK := h_1
    refine lv_aload_n hx hb dX5_turnIfKind_9 rfl (lv_at hl 0 rfl) ?_
    refine gf_X5_10 hx hb hts hown G dX5_turnIfKind_10 ?_
    refine gf_X5_80 hx hb hts hown G dX5_turnIfKind_13 ?_
    refine lv_iload_n hx hb dX5_turnIfKind_16 rfl (lv_at hl 1 rfl) ?_
    refine r_callVV ⟨hx, hb, hml, hown, hts⟩ G (k_X3_turnPile l (k := k) (σ := σ) (⟨by omega, by omega⟩) (hS.1)) (kV_X3_turnPile hts qM_X5_84 ⟨by decide, by decide⟩) (rc_X3 G) rfl rfl hl.1 rfl (Nat.le_of_ble_eq_true rfl) dX5_turnIfKind_17 ⟨Nat.le_refl _, Nat.le_refl _⟩ (fun H locs G => ?_)
    refine r_iconst hx hb dX5_turnIfKind_20 ?_
    exact r_zret hx hb hr hlk G (Or.inr rfl) (by first | exact one_bz hK | exact zero_bz hK) (by first | rw [if_pos hK] | rw [if_neg hK]) dX5_turnIfKind_21
  · skip
    have hK := h_1
    refine r_iconst hx hb dX5_turnIfKind_7 ?_
    exact r_zret hx hb hr hlk G (Or.inl rfl) (by first | exact one_bz hK | exact zero_bz hK) (by first | rw [if_pos hK] | rw [if_neg hK]) dX5_turnIfKind_8
set_option maxRecDepth 100000 in
set_option maxHeartbeats 4000000 in
theorem k_X5_passIfCan (l : Launch) {σ : Mem} {d : Int} (hd0 : inR d) (hS : IS σ) : CtI l yX5_passIfCan (Cond.code yX5_passIfCan cX5_passIfCan 2 (some .boolean)) 1 21 (fun z => [.ref (z + 0), .int (kI d)]) σ (bz (d ≤ 9999 - σ 2 0)) (if d ≤ 9999 - σ 2 0 then up σ 2 0 (σ 2 0 + d) else σ) := by
  intro D T z
  refine Ct_of (by decide) (Nat.le_of_ble_eq_true rfl) ?_
  intro p e s m below meth c ls hx hb hml hr hts hown hlk G hl
  have hown : s.vm.findClass RX5 = some m.cls := hown
  have hl : lv_has ls 2 [(0, .ref (z + 0)), (1, .int (kI d))] := hl
  refine lv_aload_n hx hb dX5_passIfCan_0 rfl (lv_at hl 0 rfl) ?_
  refine gf_X5_10 hx hb hts hown G dX5_passIfCan_1 ?_
  refine gf_X5_80 hx hb hts hown G dX5_passIfCan_4 ?_
  refine lv_iload_n hx hb dX5_passIfCan_7 rfl (lv_at hl 1 rfl) ?_
  refine r_callVI ⟨hx, hb, hml, hown, hts⟩ G (k_X3_canPass l (q := d) (σ := σ) (hd0) (hS.1)) (kV_X3_canPass hts qM_X5_103 ⟨by decide, by decide⟩) (rc_X3 G) rfl rfl hl.1 rfl (Nat.le_of_ble_eq_true rfl) dX5_passIfCan_8 ⟨Nat.le_refl _, Nat.le_refl _⟩ (fun H locs G => ?_)
  refine r_zne (tgt := 16) hx hb dX5_passIfCan_11 (by decide) (fun h_1 => ?_) (fun h_1 => ?_)
  · skip
    have hK := h_1
    refine lv_aload_n hx hb dX5_passIfCan_16 rfl (lv_at hl 0 rfl) ?_
    refine gf_X5_10 hx hb hts hown G dX5_passIfCan_17 ?_
    refine gf_X5_80 hx hb hts hown G dX5_passIfCan_20 ?_
    refine lv_iload_n hx hb dX5_passIfCan_23 rfl (lv_at hl 1 rfl) ?_
    refine r_callVV ⟨hx, hb, hml, hown, hts⟩ G (k_X3_letPass l (q := d) (σ := σ) ) (kV_X3_letPass hts qM_X5_109 ⟨by decide, by decide⟩) (rc_X3 G) rfl rfl hl.1 rfl (Nat.le_of_ble_eq_true rfl) dX5_passIfCan_24 ⟨Nat.le_refl _, Nat.le_refl _⟩ (fun H locs G => ?_)
    refine r_iconst hx hb dX5_passIfCan_27 ?_
    exact r_zret hx hb hr hlk G (Or.inr rfl) (by first | exact one_bz hK | exact zero_bz hK) (by first | rw [if_pos hK] | rw [if_neg hK]) dX5_passIfCan_28
  · skip
    have hK := h_1
    refine r_iconst hx hb dX5_passIfCan_14 ?_
    exact r_zret hx hb hr hlk G (Or.inl rfl) (by first | exact one_bz hK | exact zero_bz hK) (by first | rw [if_pos hK] | rw [if_neg hK]) dX5_passIfCan_15
set_option maxRecDepth 100000 in
set_option maxHeartbeats 4000000 in
theorem k_X5_doRowOrder (l : Launch) {σ : Mem} {v k y : Int} (hv0 : inR v) (hk0 : inR k) (hy0 : inR y) (hS : IS σ) : CtI l yX5_doRowOrder (Cond.code yX5_doRowOrder cX5_doRowOrder 4 (some .boolean)) 3 68 (fun z => [.ref (z + 0), .int (kI v), .int (kI k), .int (kI y)]) σ (bz (rowR σ v k y)) (rowM σ v k y) := by
  intro D T z
  refine Ct_of (by decide) (Nat.le_of_ble_eq_true rfl) ?_
  intro p e s m below meth c ls hx hb hml hr hts hown hlk G hl
  have hown : s.vm.findClass RX5 = some m.cls := hown
  have hl : lv_has ls 4 [(0, .ref (z + 0)), (1, .int (kI v)), (2, .int (kI k)), (3, .int (kI y))] := hl
  refine lv_iload_n hx hb dX5_doRowOrder_0 rfl (lv_at hl 2 rfl) ?_
  refine r_callSI ⟨hx, hb, hml, hown, hts⟩ G (k_X5_isKind l (k := k) (σ := σ) (⟨by omega, by omega⟩)) (kS_X5_isKind hts qM_X5_231 ⟨by decide, by decide⟩) rfl rfl hl.1 rfl (Nat.le_of_ble_eq_true rfl) dX5_doRowOrder_1 ⟨Nat.le_refl _, Nat.le_refl _⟩ (fun H locs G => ?_)
  refine r_zeq (tgt := 14) hx hb dX5_doRowOrder_4 (by decide) (fun h_1 => ?_) (fun h_1 => ?_)
  · skip
    refine r_iconst hx hb dX5_doRowOrder_14 ?_
    exact r_zret hx hb hr hlk G (Or.inl rfl) (by first | exact one_bz (by omega) | exact zero_bz (by omega)) (by first | exact (rowM_n (by omega)).symm | exact (rowM_d (by omega)).symm | exact (rowM_b (by omega)).symm) dX5_doRowOrder_15
  · skip
    refine lv_iload_n hx hb dX5_doRowOrder_7 rfl (lv_at hl 3 rfl) ?_
    refine r_callSI ⟨hx, hb, hml, hown, hts⟩ G (k_X5_isKey l (y := y) (σ := σ) (⟨by omega, by omega⟩)) (kS_X5_isKey hts qM_X5_239 ⟨by decide, by decide⟩) rfl rfl hl.1 rfl (Nat.le_of_ble_eq_true rfl) dX5_doRowOrder_8 ⟨Nat.le_refl _, Nat.le_refl _⟩ (fun H locs G => ?_)
    refine r_zne (tgt := 16) hx hb dX5_doRowOrder_11 (by decide) (fun h_2 => ?_) (fun h_2 => ?_)
    · skip
      refine lv_iload_n hx hb dX5_doRowOrder_16 rfl (lv_at hl 1 rfl) ?_
      refine r_bipush hx hb dX5_doRowOrder_17 (by decide +kernel) ?_
      refine r_icmp_ne (tgt := 46) hx hb ⟨by omega, by omega⟩ ⟨by decide, by decide⟩ dX5_doRowOrder_19 (by decide) (fun h_3 => ?_) (fun h_3 => ?_)
      · skip
        refine lv_iload_n hx hb dX5_doRowOrder_46 rfl (lv_at hl 1 rfl) ?_
        refine r_bipush hx hb dX5_doRowOrder_47 (by decide +kernel) ?_
        refine r_icmp_ne (tgt := 76) hx hb ⟨by omega, by omega⟩ ⟨by decide, by decide⟩ dX5_doRowOrder_49 (by decide) (fun h_4 => ?_) (fun h_4 => ?_)
        · skip
          refine r_iconst hx hb dX5_doRowOrder_76 ?_
          exact r_zret hx hb hr hlk G (Or.inl rfl) (by first | exact one_bz (by omega) | exact zero_bz (by omega)) (by first | exact (rowM_n (by omega)).symm | exact (rowM_d (by omega)).symm | exact (rowM_b (by omega)).symm) dX5_doRowOrder_77
        · skip
          refine lv_aload_n hx hb dX5_doRowOrder_52 rfl (lv_at hl 0 rfl) ?_
          refine gf_X5_10 hx hb hts hown G dX5_doRowOrder_53 ?_
          refine lv_iload_n hx hb dX5_doRowOrder_56 rfl (lv_at hl 2 rfl) ?_
          refine lv_iload_n hx hb dX5_doRowOrder_57 rfl (lv_at hl 3 rfl) ?_
          refine r_callVI ⟨hx, hb, hml, hown, hts⟩ G (k_X1_canBringBack l (k := k) (y := y) (σ := σ) (⟨by omega, by omega⟩) (⟨by omega, by omega⟩) (hS)) (kV_X1_canBringBack hts qM_X5_72 ⟨by decide, by decide⟩) (rc_X1 G) rfl rfl hl.1 rfl (Nat.le_of_ble_eq_true rfl) dX5_doRowOrder_58 ⟨Nat.le_refl _, Nat.le_refl _⟩ (fun H locs G => ?_)
          refine r_zeq (tgt := 76) hx hb dX5_doRowOrder_61 (by decide) (fun h_5 => ?_) (fun h_5 => ?_)
          · skip
            refine r_iconst hx hb dX5_doRowOrder_76 ?_
            exact r_zret hx hb hr hlk G (Or.inl rfl) (by first | exact one_bz (by omega) | exact zero_bz (by omega)) (by first | exact (rowM_n (by omega)).symm | exact (rowM_d (by omega)).symm | exact (rowM_b (by omega)).symm) dX5_doRowOrder_77
          · skip
            refine lv_aload_n hx hb dX5_doRowOrder_64 rfl (lv_at hl 0 rfl) ?_
            refine gf_X5_10 hx hb hts hown G dX5_doRowOrder_65 ?_
            refine lv_iload_n hx hb dX5_doRowOrder_68 rfl (lv_at hl 2 rfl) ?_
            refine lv_iload_n hx hb dX5_doRowOrder_69 rfl (lv_at hl 3 rfl) ?_
            refine r_callVI ⟨hx, hb, hml, hown, hts⟩ G (k_X1_bringRowBack l (k := k) (y := y) (σ := σ) (⟨by omega, by omega⟩) (⟨by omega, by omega⟩) (hS)) (kV_X1_bringRowBack hts qM_X5_77 ⟨by decide, by decide⟩) (rc_X1 G) rfl rfl hl.1 rfl (Nat.le_of_ble_eq_true rfl) dX5_doRowOrder_70 ⟨Nat.le_refl _, Nat.le_refl _⟩ (fun H locs G => ?_)
            refine lv_pop hx hb dX5_doRowOrder_73 rfl ?_
            refine r_iconst hx hb dX5_doRowOrder_74 ?_
            exact r_zret hx hb hr hlk G (Or.inr rfl) (by first | exact one_bz (by omega) | exact zero_bz (by omega)) (by first | exact (rowM_n (by omega)).symm | exact (rowM_d (by omega)).symm | exact (rowM_b (by omega)).symm) dX5_doRowOrder_75
      · skip
        refine lv_aload_n hx hb dX5_doRowOrder_22 rfl (lv_at hl 0 rfl) ?_
        refine gf_X5_10 hx hb hts hown G dX5_doRowOrder_23 ?_
        refine lv_iload_n hx hb dX5_doRowOrder_26 rfl (lv_at hl 2 rfl) ?_
        refine lv_iload_n hx hb dX5_doRowOrder_27 rfl (lv_at hl 3 rfl) ?_
        refine r_callVI ⟨hx, hb, hml, hown, hts⟩ G (k_X1_canDelete l (k := k) (y := y) (σ := σ) (⟨by omega, by omega⟩) (⟨by omega, by omega⟩) (hS)) (kV_X1_canDelete hts qM_X5_58 ⟨by decide, by decide⟩) (rc_X1 G) rfl rfl hl.1 rfl (Nat.le_of_ble_eq_true rfl) dX5_doRowOrder_28 ⟨Nat.le_refl _, Nat.le_refl _⟩ (fun H locs G => ?_)
        refine r_zeq (tgt := 46) hx hb dX5_doRowOrder_31 (by decide) (fun h_6 => ?_) (fun h_6 => ?_)
        · skip
          refine lv_iload_n hx hb dX5_doRowOrder_46 rfl (lv_at hl 1 rfl) ?_
          refine r_bipush hx hb dX5_doRowOrder_47 (by decide +kernel) ?_
          refine r_icmp_ne (tgt := 76) hx hb ⟨by omega, by omega⟩ ⟨by decide, by decide⟩ dX5_doRowOrder_49 (by decide) (fun h_7 => ?_) (fun h_7 => ?_)
          · skip
            refine r_iconst hx hb dX5_doRowOrder_76 ?_
            exact r_zret hx hb hr hlk G (Or.inl rfl) (by first | exact one_bz (by omega) | exact zero_bz (by omega)) (by first | exact (rowM_n (by omega)).symm | exact (rowM_d (by omega)).symm | exact (rowM_b (by omega)).symm) dX5_doRowOrder_77
          · skip
            refine lv_aload_n hx hb dX5_doRowOrder_52 rfl (lv_at hl 0 rfl) ?_
            refine gf_X5_10 hx hb hts hown G dX5_doRowOrder_53 ?_
            refine lv_iload_n hx hb dX5_doRowOrder_56 rfl (lv_at hl 2 rfl) ?_
            refine lv_iload_n hx hb dX5_doRowOrder_57 rfl (lv_at hl 3 rfl) ?_
            refine r_callVI ⟨hx, hb, hml, hown, hts⟩ G (k_X1_canBringBack l (k := k) (y := y) (σ := σ) (⟨by omega, by omega⟩) (⟨by omega, by omega⟩) (hS)) (kV_X1_canBringBack hts qM_X5_72 ⟨by decide, by decide⟩) (rc_X1 G) rfl rfl hl.1 rfl (Nat.le_of_ble_eq_true rfl) dX5_doRowOrder_58 ⟨Nat.le_refl _, Nat.le_refl _⟩ (fun H locs G => ?_)
            refine r_zeq (tgt := 76) hx hb dX5_doRowOrder_61 (by decide) (fun h_8 => ?_) (fun h_8 => ?_)
            · skip
              refine r_iconst hx hb dX5_doRowOrder_76 ?_
              exact r_zret hx hb hr hlk G (Or.inl rfl) (by first | exact one_bz (by omega) | exact zero_bz (by omega)) (by first | exact (rowM_n (by omega)).symm | exact (rowM_d (by omega)).symm | exact (rowM_b (by omega)).symm) dX5_doRowOrder_77
            · skip
              refine lv_aload_n hx hb dX5_doRowOrder_64 rfl (lv_at hl 0 rfl) ?_
              refine gf_X5_10 hx hb hts hown G dX5_doRowOrder_65 ?_
              refine lv_iload_n hx hb dX5_doRowOrder_68 rfl (lv_at hl 2 rfl) ?_
              refine lv_iload_n hx hb dX5_doRowOrder_69 rfl (lv_at hl 3 rfl) ?_
              refine r_callVI ⟨hx, hb, hml, hown, hts⟩ G (k_X1_bringRowBack l (k := k) (y := y) (σ := σ) (⟨by omega, by omega⟩) (⟨by omega, by omega⟩) (hS)) (kV_X1_bringRowBack hts qM_X5_77 ⟨by decide, by decide⟩) (rc_X1 G) rfl rfl hl.1 rfl (Nat.le_of_ble_eq_true rfl) dX5_doRowOrder_70 ⟨Nat.le_refl _, Nat.le_refl _⟩ (fun H locs G => ?_)
              refine lv_pop hx hb dX5_doRowOrder_73 rfl ?_
              refine r_iconst hx hb dX5_doRowOrder_74 ?_
              exact r_zret hx hb hr hlk G (Or.inr rfl) (by first | exact one_bz (by omega) | exact zero_bz (by omega)) (by first | exact (rowM_n (by omega)).symm | exact (rowM_d (by omega)).symm | exact (rowM_b (by omega)).symm) dX5_doRowOrder_75
        · skip
          refine lv_aload_n hx hb dX5_doRowOrder_34 rfl (lv_at hl 0 rfl) ?_
          refine gf_X5_10 hx hb hts hown G dX5_doRowOrder_35 ?_
          refine lv_iload_n hx hb dX5_doRowOrder_38 rfl (lv_at hl 2 rfl) ?_
          refine lv_iload_n hx hb dX5_doRowOrder_39 rfl (lv_at hl 3 rfl) ?_
          refine r_callVI ⟨hx, hb, hml, hown, hts⟩ G (k_X1_deleteRow l (k := k) (y := y) (σ := σ) (⟨by omega, by omega⟩) (⟨by omega, by omega⟩) (hS)) (kV_X1_deleteRow hts qM_X5_69 ⟨by decide, by decide⟩) (rc_X1 G) rfl rfl hl.1 rfl (Nat.le_of_ble_eq_true rfl) dX5_doRowOrder_40 ⟨Nat.le_refl _, Nat.le_refl _⟩ (fun H locs G => ?_)
          refine lv_pop hx hb dX5_doRowOrder_43 rfl ?_
          refine r_iconst hx hb dX5_doRowOrder_44 ?_
          exact r_zret hx hb hr hlk G (Or.inr rfl) (by first | exact one_bz (by omega) | exact zero_bz (by omega)) (by first | exact (rowM_n (by omega)).symm | exact (rowM_d (by omega)).symm | exact (rowM_b (by omega)).symm) dX5_doRowOrder_45
    · skip
      refine r_iconst hx hb dX5_doRowOrder_14 ?_
      exact r_zret hx hb hr hlk G (Or.inl rfl) (by first | exact one_bz (by omega) | exact zero_bz (by omega)) (by first | exact (rowM_n (by omega)).symm | exact (rowM_d (by omega)).symm | exact (rowM_b (by omega)).symm) dX5_doRowOrder_15
set_option maxRecDepth 100000 in
set_option maxHeartbeats 4000000 in
theorem k_X5_doOrder (l : Launch) {σ : Mem} {q : Int} (hq : 0 ≤ q ∧ q ≤ 60) (hn1 : inR (num σ (q + 1))) (hn3 : inR (num σ (q + 3))) (hS : IS σ) (hT : IT σ) : CtI l yX5_doOrder (Cond.code yX5_doOrder cX5_doOrder 4 (some .boolean)) 5 116 (fun z => [.ref (z + 0), .int (kI q)]) σ (bz (dorR σ q)) (dorM σ q) := by
  intro D T z
  refine Ct_of (by decide) (Nat.le_of_ble_eq_true rfl) ?_
  intro p e s m below meth c ls hx hb hml hr hts hown hlk G hl
  have hown : s.vm.findClass RX5 = some m.cls := hown
  have hl : lv_has ls 4 [(0, .ref (z + 0)), (1, .int (kI q))] := hl
  refine lv_aload_n hx hb dX5_doOrder_0 rfl (lv_at hl 0 rfl) ?_
  refine gf_X5_34 hx hb hts hown G dX5_doOrder_1 ?_
  refine lv_iload_n hx hb dX5_doOrder_4 rfl (lv_at hl 1 rfl) ?_
  refine r_callVI ⟨hx, hb, hml, hown, hts⟩ G (k_X2_codeAt l (q := q) (σ := σ) (⟨by omega, by omega⟩) (hT)) (kV_X2_codeAt hts qM_X5_228 ⟨by decide, by decide⟩) (rc_X2 G) rfl rfl hl.1 rfl (Nat.le_of_ble_eq_true rfl) dX5_doOrder_5 ⟨Nat.le_refl _, Nat.le_refl _⟩ (fun H locs G => ?_)
  have hc := cat_rg (q := q) hT
  refine lv_istore_n (lv' := [(2, .int (kI (cat σ q))), (0, .ref (z + 0)), (1, .int (kI q))]) hx hb dX5_doOrder_8 rfl hl (by decide) rfl (fun ls hl => ?_)
  refine lv_aload_n hx hb dX5_doOrder_9 rfl (lv_at hl 1 rfl) ?_
  refine gf_X5_34 hx hb hts hown G dX5_doOrder_10 ?_
  refine lv_iload_n hx hb dX5_doOrder_13 rfl (lv_at hl 2 rfl) ?_
  refine r_iconst hx hb dX5_doOrder_14 ?_
  refine r_iadd hx hb dX5_doOrder_15 ?_
  refine r_callVI ⟨hx, hb, hml, hown, hts⟩ G (k_X2_numberAt l (q := q + 1) (σ := σ) (⟨by omega, by omega⟩) (hT)) (kV_X2_numberAt hts qM_X5_250 ⟨by decide, by decide⟩) (rc_X2 G) rfl rfl hl.1 rfl (Nat.le_of_ble_eq_true rfl) dX5_doOrder_16 ⟨Nat.le_refl _, Nat.le_refl _⟩ (fun H locs G => ?_)
  refine lv_istore_n (lv' := [(3, .int (kI (num σ (q + 1)))), (2, .int (kI (cat σ q))), (0, .ref (z + 0)), (1, .int (kI q))]) hx hb dX5_doOrder_19 rfl hl (by decide) rfl (fun ls hl => ?_)
  refine lv_iload_n hx hb dX5_doOrder_20 rfl (lv_at hl 1 rfl) ?_
  by_cases hc_1 : cat σ q = 97
  · skip
    refine r_lkp (off := 35) (tgt := 56) hx hb dX5_doOrder_21 ⟨by omega, by omega⟩ (by decide) (show (if (97 : Int) = cat σ q then (35 : Int) else if (112 : Int) = cat σ q then (61 : Int) else if (116 : Int) = cat σ q then (67 : Int) else (73 : Int)) = 35 by (repeat' split) <;> omega) (by decide) ?_
    have hv := hc_1
    refine lv_iload_n hx hb dX5_doOrder_56 rfl (lv_at hl 0 rfl) ?_
    refine r_callSI ⟨hx, hb, hml, hown, hts⟩ G (k_X5_isKind l (k := num σ (q + 1)) (σ := σ) (hn1)) (kS_X5_isKind hts qM_X5_231 ⟨by decide, by decide⟩) rfl rfl hl.1 rfl (Nat.le_of_ble_eq_true rfl) dX5_doOrder_57 ⟨Nat.le_refl _, Nat.le_refl _⟩ (fun H locs G => ?_)
    refine r_zeq (tgt := 80) hx hb dX5_doOrder_60 (by decide) (fun h_2 => ?_) (fun h_2 => ?_)
    · skip
      have hK := h_2
      refine r_iconst hx hb dX5_doOrder_80 ?_
      exact r_zret hx hb hr hlk G (Or.inl rfl) (by first | exact one_bz ((dorR_a hv).mpr ⟨hK, by omega⟩) | exact zero_bz (fun z => hK ((dorR_a hv).mp z).1) | exact zero_bz (fun z => by have := ((dorR_a hv).mp z).2; omega)) (by rw [dorM_a hv]; first | rw [if_pos hK] | rw [if_neg hK]) dX5_doOrder_81
    · skip
      have hK := h_2
      have har := atr_rg (σ := σ) (k := num σ (q + 1))
      refine lv_aload_n hx hb dX5_doOrder_63 rfl (lv_at hl 2 rfl) ?_
      refine gf_X5_10 hx hb hts hown G dX5_doOrder_64 ?_
      refine lv_iload_n hx hb dX5_doOrder_67 rfl (lv_at hl 0 rfl) ?_
      refine r_callVI ⟨hx, hb, hml, hown, hts⟩ G (k_X1_serveRow l (k := num σ (q + 1)) (σ := σ) (⟨by omega, by omega⟩) (hS)) (kV_X1_serveRow hts qM_X5_46 ⟨by decide, by decide⟩) (rc_X1 G) rfl rfl hl.1 rfl (Nat.le_of_ble_eq_true rfl) dX5_doOrder_68 ⟨Nat.le_refl _, Nat.le_refl _⟩ (fun H locs G => ?_)
      refine r_bipush hx hb dX5_doOrder_71 (by decide +kernel) ?_
      refine r_icmp_ge (tgt := 80) hx hb ⟨by omega, by omega⟩ ⟨by decide, by decide⟩ dX5_doOrder_73 (by decide) (fun h_3 => ?_) (fun h_3 => ?_)
      · skip
        refine r_iconst hx hb dX5_doOrder_80 ?_
        exact r_zret hx hb hr hlk G (Or.inl rfl) (by first | exact one_bz ((dorR_a hv).mpr ⟨hK, by omega⟩) | exact zero_bz (fun z => hK ((dorR_a hv).mp z).1) | exact zero_bz (fun z => by have := ((dorR_a hv).mp z).2; omega)) (by rw [dorM_a hv]; first | rw [if_pos hK] | rw [if_neg hK]) dX5_doOrder_81
      · skip
        refine r_iconst hx hb dX5_doOrder_76 ?_
        refine lv_goto (tgt := 81) hx hb dX5_doOrder_77 (by decide) ?_
        exact r_zret hx hb hr hlk G (Or.inr rfl) (by first | exact one_bz ((dorR_a hv).mpr ⟨hK, by omega⟩) | exact zero_bz (fun z => hK ((dorR_a hv).mp z).1) | exact zero_bz (fun z => by have := ((dorR_a hv).mp z).2; omega)) (by rw [dorM_a hv]; first | rw [if_pos hK] | rw [if_neg hK]) dX5_doOrder_81
  by_cases hc_4 : cat σ q = 112
  · skip
    refine r_lkp (off := 61) (tgt := 82) hx hb dX5_doOrder_21 ⟨by omega, by omega⟩ (by decide) (show (if (97 : Int) = cat σ q then (35 : Int) else if (112 : Int) = cat σ q then (61 : Int) else if (116 : Int) = cat σ q then (67 : Int) else (73 : Int)) = 61 by (repeat' split) <;> omega) (by decide) ?_
    have hv := hc_4
    refine lv_aload_n hx hb dX5_doOrder_82 rfl (lv_at hl 2 rfl) ?_
    refine lv_iload_n hx hb dX5_doOrder_83 rfl (lv_at hl 0 rfl) ?_
    refine r_callVI ⟨hx, hb, hml, hown, hts⟩ G (k_X5_turnIfKind l (k := num σ (q + 1)) (σ := σ) (hn1) (hS)) (kV_X5_turnIfKind hts qM_X5_253 ⟨by decide, by decide⟩) (rc_X5 G) rfl rfl hl.1 rfl (Nat.le_of_ble_eq_true rfl) dX5_doOrder_84 ⟨Nat.le_refl _, Nat.le_refl _⟩ (fun H locs G => ?_)
    exact r_zret hx hb hr hlk G (bz_01) (by exact bz_congr (dorR_p hv).symm) (by exact (dorM_p hv).symm) dX5_doOrder_87
  by_cases hc_5 : cat σ q = 116
  · skip
    refine r_lkp (off := 67) (tgt := 88) hx hb dX5_doOrder_21 ⟨by omega, by omega⟩ (by decide) (show (if (97 : Int) = cat σ q then (35 : Int) else if (112 : Int) = cat σ q then (61 : Int) else if (116 : Int) = cat σ q then (67 : Int) else (73 : Int)) = 67 by (repeat' split) <;> omega) (by decide) ?_
    have hv := hc_5
    refine lv_aload_n hx hb dX5_doOrder_88 rfl (lv_at hl 2 rfl) ?_
    refine lv_iload_n hx hb dX5_doOrder_89 rfl (lv_at hl 0 rfl) ?_
    refine r_callVI ⟨hx, hb, hml, hown, hts⟩ G (k_X5_passIfCan l (d := num σ (q + 1)) (σ := σ) (hn1) (hS)) (kV_X5_passIfCan hts qM_X5_256 ⟨by decide, by decide⟩) (rc_X5 G) rfl rfl hl.1 rfl (Nat.le_of_ble_eq_true rfl) dX5_doOrder_90 ⟨Nat.le_refl _, Nat.le_refl _⟩ (fun H locs G => ?_)
    exact r_zret hx hb hr hlk G (bz_01) (by exact bz_congr (dorR_t hv).symm) (by exact (dorM_t hv).symm) dX5_doOrder_93
  refine r_lkp (off := 73) (tgt := 94) hx hb dX5_doOrder_21 ⟨by omega, by omega⟩ (by decide) (show (if (97 : Int) = cat σ q then (35 : Int) else if (112 : Int) = cat σ q then (61 : Int) else if (116 : Int) = cat σ q then (67 : Int) else (73 : Int)) = 73 by (repeat' split) <;> omega) (by decide) ?_
  refine lv_aload_n hx hb dX5_doOrder_94 rfl (lv_at hl 2 rfl) ?_
  refine lv_iload_n hx hb dX5_doOrder_95 rfl (lv_at hl 1 rfl) ?_
  refine lv_iload_n hx hb dX5_doOrder_96 rfl (lv_at hl 0 rfl) ?_
  refine lv_aload_n hx hb dX5_doOrder_97 rfl (lv_at hl 2 rfl) ?_
  refine gf_X5_34 hx hb hts hown G dX5_doOrder_98 ?_
  refine lv_iload_n hx hb dX5_doOrder_101 rfl (lv_at hl 3 rfl) ?_
  refine r_iconst hx hb dX5_doOrder_102 ?_
  refine r_iadd hx hb dX5_doOrder_103 ?_
  refine r_callVI ⟨hx, hb, hml, hown, hts⟩ G (k_X2_numberAt l (q := q + 3) (σ := σ) (⟨by omega, by omega⟩) (hT)) (kV_X2_numberAt hts qM_X5_250 ⟨by decide, by decide⟩) (rc_X2 G) rfl rfl hl.1 rfl (Nat.le_of_ble_eq_true rfl) dX5_doOrder_104 ⟨Nat.le_refl _, Nat.le_refl _⟩ (fun H locs G => ?_)
  refine r_callVI ⟨hx, hb, hml, hown, hts⟩ G (k_X5_doRowOrder l (v := cat σ q) (k := num σ (q + 1)) (y := num σ (q + 3)) (σ := σ) (⟨by omega, by omega⟩) (hn1) (hn3) (hS)) (kV_X5_doRowOrder hts qM_X5_259 ⟨by decide, by decide⟩) (rc_X5 G) rfl rfl hl.1 rfl (Nat.le_of_ble_eq_true rfl) dX5_doOrder_107 ⟨Nat.le_refl _, Nat.le_refl _⟩ (fun H locs G => ?_)
  exact r_zret hx hb hr hlk G (bz_01) (by exact bz_congr (dorR_r (by omega) (by omega) (by omega)).symm) (by exact (dorM_r (by omega) (by omega) (by omega)).symm) dX5_doOrder_110
set_option maxRecDepth 100000 in
set_option maxHeartbeats 4000000 in
theorem k_X5_run (l : Launch) (hst0 : l.stackTraces = false) {σ : Mem} (hT : IT σ) (hX : XC σ) (hz : 0 ≤ σ 15 1 ∧ σ 15 1 ≤ 6) (hS : IS σ) (hR0 : mayE (ast σ (σ 131 1)) → ∀ i, 0 ≤ i → i < σ 131 1 → (crI σ i).2.2 = 1 → IS (crI σ i).1 ∧ (bgn σ i → inR (num σ (i + 1)) ∧ inR (num σ (i + 3)))) : CtXI l yX5_run (Cond.code yX5_run cX5_run 3 (some .int)) 6 139 2 12 (fun z => [.ref (z + 0)]) σ (mayE (ast σ (σ 131 1))) ((crI σ (σ 131 1)).2.1) (up (crI σ (σ 131 1)).1 131 1 0) IAE := by
  intro D T z
  refine Cx_of (by decide) (Nat.le_of_ble_eq_true rfl) ?_
  intro p e s m below meth c ls hx hb hml hr hts hown hlk G hl hv htab
  have hown : s.vm.findClass RX5 = some m.cls := hown
  have hl : lv_has ls 3 [(0, .ref (z + 0))] := hl
  have ht := hT.1
  refine lv_aload_n hx hb dX5_run_0 rfl (lv_at hl 0 rfl) ?_
  refine gf_X5_34 hx hb hts hown G dX5_run_1 ?_
  refine r_callVI ⟨hx, hb, hml, hown, hts⟩ G (k_X2_tellsDays l (σ := σ) (hT)) (kV_X2_tellsDays hts qM_X5_148 ⟨Nat.le_of_ble_eq_true rfl, Nat.le_of_ble_eq_true rfl⟩) (rc_X2 G) rfl rfl hl.1 rfl (Nat.le_of_ble_eq_true rfl) dX5_run_4 ⟨Nat.le_of_ble_eq_true rfl, Nat.le_of_ble_eq_true rfl⟩ (fun H locs G => ?_)
  refine r_zne (tgt := 20) hx hb dX5_run_7 (by decide) (fun h_1 => ?_) (fun h_1 => ?_)
  · skip
    have hA := h_1
    have hRn := hR0 hA
    refine lv_aload_n hx hb dX5_run_20 rfl (lv_at hl 0 rfl) ?_
    refine gf_X5_19 hx hb hts hown G dX5_run_21 ?_
    refine lv_aload_n hx hb dX5_run_24 rfl (lv_at hl 0 rfl) ?_
    refine gf_X5_10 hx hb hts hown G dX5_run_25 ?_
    refine r_callVV ⟨hx, hb, hml, hown, hts⟩ G (k_X4_push l (σ := σ) (hX) (hz)) (kV_X4_push hts qM_X5_42 ⟨Nat.le_of_ble_eq_true rfl, Nat.le_of_ble_eq_true rfl⟩) (rc_X4 G) rfl rfl hl.1 rfl (Nat.le_of_ble_eq_true rfl) dX5_run_28 ⟨Nat.le_of_ble_eq_true rfl, Nat.le_of_ble_eq_true rfl⟩ (fun H locs G => ?_)
    refine r_iconst hx hb dX5_run_31 ?_
    refine lv_istore_n (lv' := [(1, .int (kI 0)), (0, .ref (z + 0))]) hx hb dX5_run_32 rfl hl (by decide) rfl (fun ls hl => ?_)
    refine r_iconst hx hb dX5_run_33 ?_
    refine lv_istore_n (lv' := [(2, .int (kI 0)), (1, .int (kI 0)), (0, .ref (z + 0))]) hx hb dX5_run_34 rfl hl (by decide) rfl (fun ls hl => ?_)
    have lp35 : ∀ (d : Nat) (v : Int) (i : Int) (τ : Mem), (0 ≤ i) → (i ≤ σ 131 1) → (∀ c, 15 ≤ c → τ c = pus σ c) → ((τ, v, 1) = crI σ i) → (σ 131 1 - i : Int) < (d : Int) → ∀ (H : Heap) (locs : List Loc), Wd D T z 133 τ s H locs → ∀ (ls : Array Slot), lv_has ls 3 [(0, .ref (z + 0)), (1, .int (kI v)), (2, .int (kI i))] → W p l e (rmX 6 139 2 12) s m ([.ref (z + 0)] : List Value).toArray below meth c H locs 0 0 (vx_MQ below (QIx D T z (mayE (ast σ (σ 131 1))) ((crI σ (σ 131 1)).2.1) (up (crI σ (σ 131 1)).1 131 1 0)) (XCx D T z (mayE (ast σ (σ 131 1))) IAE σ) ([.ref (z + 0)] : List Value).toArray s 2 12 (Own T z)) (F0 m 35 ls []) := by
      intro d
      induction d with
      | zero => intro v i τ h0 h1 ho hv hd; exact absurd hd (by omega)
      | succ d ih35 =>
        intro v i τ h0 h1 ho hv hd H locs G ls hl
        have e131 : τ 131 = σ 131 := by rw [ho 131 (by decide), pus_o hX hz (by decide)]
        have e132 : τ 132 = σ 132 := by rw [ho 132 (by decide), pus_o hX hz (by decide)]
        have hct := cat_m e131 e132
        have hnu := num_m e131 e132
        have hT2 := hT.m e131 e132
        refine lv_iload_n hx hb dX5_run_35 rfl (lv_at hl 2 rfl) ?_
        refine lv_aload_n hx hb dX5_run_36 rfl (lv_at hl 0 rfl) ?_
        refine gf_X5_34 hx hb hts hown G dX5_run_37 ?_
        refine gf_X5_141 hx hb hts hown G dX5_run_40 ?_
        refine r_top (b := σ 131 1) (by rw [e131]) ?_
        refine r_icmp_ge (tgt := 80) hx hb ⟨by omega, by omega⟩ ⟨by omega, by omega⟩ dX5_run_43 (by decide) (fun h_2 => ?_) (fun h_2 => ?_)
        · skip
          have hend : (τ, v, 1) = crI σ (σ 131 1) := by rw [show σ 131 1 = i by omega]; exact hv
          refine lv_aload_n hx hb dX5_run_80 rfl (lv_at hl 0 rfl) ?_
          refine gf_X5_34 hx hb hts hown G dX5_run_81 ?_
          refine r_iconst hx hb dX5_run_84 ?_
          refine pf_X5_141 hx hb hts hown G dX5_run_85 (fun H locs G => ?_)
          refine lv_iload_n hx hb dX5_run_88 rfl (lv_at hl 1 rfl) ?_
          exact r_iretx hx hb hr hlk G ⟨Nat.le_of_ble_eq_true rfl, Nat.le_of_ble_eq_true rfl⟩ (hA) (by first | (rw [← hend])) (by rw [← hend]) dX5_run_89
        · skip
          have hri := hRn i h0 (by omega) (by rw [← hv])
          have hri1 : IS τ := by have := hri.1; rw [← hv] at this; exact this
          refine lv_aload_n hx hb dX5_run_46 rfl (lv_at hl 0 rfl) ?_
          refine gf_X5_34 hx hb hts hown G dX5_run_47 ?_
          refine lv_iload_n hx hb dX5_run_50 rfl (lv_at hl 2 rfl) ?_
          refine r_callVI ⟨hx, hb, hml, hown, hts⟩ G (k_X2_beginsOrder l (q := i) (σ := τ) (⟨by omega, by omega⟩) (hT2)) (kV_X2_beginsOrder hts qM_X5_156 ⟨Nat.le_of_ble_eq_true rfl, Nat.le_of_ble_eq_true rfl⟩) (rc_X2 G) rfl rfl hl.1 rfl (Nat.le_of_ble_eq_true rfl) dX5_run_51 ⟨Nat.le_of_ble_eq_true rfl, Nat.le_of_ble_eq_true rfl⟩ (fun H locs G => ?_)
          refine r_zne (tgt := 60) hx hb dX5_run_54 (by decide) (fun h_3 => ?_) (fun h_3 => ?_)
          · skip
            have hbg : bgn σ i := by have := h_3; rw [hct] at this; exact this
            have hnn := hri.2 hbg
            rw [← hnu] at hnn
            have hdo := cr_do h0 hv hbg
            refine lv_aload_n hx hb dX5_run_60 rfl (lv_at hl 0 rfl) ?_
            refine lv_iload_n hx hb dX5_run_61 rfl (lv_at hl 2 rfl) ?_
            refine r_callVI ⟨hx, hb, hml, hown, hts⟩ G (k_X5_doOrder l (q := i) (σ := τ) (⟨by omega, by omega⟩) (hnn.1) (hnn.2) (hri1) (hT2)) (kV_X5_doOrder hts qM_X5_159 ⟨Nat.le_of_ble_eq_true rfl, Nat.le_of_ble_eq_true rfl⟩) (rc_X5 G) rfl rfl hl.1 rfl (Nat.le_of_ble_eq_true rfl) dX5_run_62 ⟨Nat.le_of_ble_eq_true rfl, Nat.le_of_ble_eq_true rfl⟩ (fun H locs G => ?_)
            refine r_zne (tgt := 71) hx hb dX5_run_65 (by decide) (fun h_4 => ?_) (fun h_4 => ?_)
            · skip
              have hdr := h_4
              have hnx : (dorM τ i, v + 1, 1) = crI σ (i + 1) := by rw [bz_t hdr] at hdo; exact hdo
              refine r_iinc (lv' := [(1, .int (kI (v + 1))), (0, .ref (z + 0)), (2, .int (kI i))]) hx hb dX5_run_71 hl (k := 1) rfl (by decide) rfl (fun ls hl => ?_)
              refine r_iinc (lv' := [(2, .int (kI (i + 1))), (1, .int (kI (v + 1))), (0, .ref (z + 0))]) hx hb dX5_run_74 hl (k := 2) rfl (by decide) rfl (fun ls hl => ?_)
              refine lv_goto (tgt := 35) hx hb dX5_run_77 (by decide) ?_
              exact ih35 (v + 1) (i + 1) (dorM τ i) (by omega) (by omega) (fun c hc => by first | exact ho c hc | rw [dorM_o hc]; exact ho c hc) (hnx) (by omega) _ _ G _ (lv_sub hl [2, 1, 0] rfl)
            · skip
              have hdr := h_4
              have hend : (dorM τ i, v, 0) = crI σ (σ 131 1) := by rw [bz_f hdr, Int.add_zero] at hdo; rw [cr_stay (i := i + 1) (by omega) (by omega) (by rw [← hdo])]; exact hdo
              refine lv_goto (tgt := 80) hx hb dX5_run_68 (by decide) ?_
              refine lv_aload_n hx hb dX5_run_80 rfl (lv_at hl 0 rfl) ?_
              refine gf_X5_34 hx hb hts hown G dX5_run_81 ?_
              refine r_iconst hx hb dX5_run_84 ?_
              refine pf_X5_141 hx hb hts hown G dX5_run_85 (fun H locs G => ?_)
              refine lv_iload_n hx hb dX5_run_88 rfl (lv_at hl 1 rfl) ?_
              exact r_iretx hx hb hr hlk G ⟨Nat.le_of_ble_eq_true rfl, Nat.le_of_ble_eq_true rfl⟩ (hA) (by first | (rw [← hend])) (by rw [← hend]) dX5_run_89
          · skip
            have hbg : ¬ bgn σ i := by have := h_3; rw [hct] at this; exact this
            have hnx := cr_skip h0 hv hbg
            refine lv_goto (tgt := 74) hx hb dX5_run_57 (by decide) ?_
            refine r_iinc (lv' := [(2, .int (kI (i + 1))), (0, .ref (z + 0)), (1, .int (kI v))]) hx hb dX5_run_74 hl (k := 2) rfl (by decide) rfl (fun ls hl => ?_)
            refine lv_goto (tgt := 35) hx hb dX5_run_77 (by decide) ?_
            exact ih35 v (i + 1) τ (by omega) (by omega) (fun c hc => by first | exact ho c hc | rw [dorM_o hc]; exact ho c hc) (hnx) (by omega) _ _ G _ (lv_sub hl [1, 2, 0] rfl)
    exact lp35 61 0 0 (pus σ) (by omega) (by omega) (fun _ _ => rfl) (rfl) (by omega) _ _ G _ (lv_sub hl [2, 1, 0] rfl)
  · skip
    have hA := h_1
    exact r_throw ⟨hx, hb, hml, hown, hts⟩ hst0 hl.1 hlk htab G hv (by decide +kernel) qK_X5_151 qN_IllegalArgumentException (is := 153) (text := "the buffer does not tell days as a text") (by decide) at_IAE nb_IAE gd_IAE dX5_run_10 dX5_run_13 dX5_run_14 dX5_run_16 dX5_run_19 ⟨Nat.le_of_ble_eq_true rfl, Nat.le_of_ble_eq_true rfl⟩ ⟨Nat.le_of_ble_eq_true rfl, Nat.le_of_ble_eq_true rfl⟩ ⟨Nat.le_of_ble_eq_true rfl, Nat.le_of_ble_eq_true rfl⟩ (hA) (rfl) (rfl)
