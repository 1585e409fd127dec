/-! the class's own methods -/
theorem IS.of {σ τ : Mem} (h : IS σ) (e : ∀ c, 1 ≤ c → c < 15 → τ c = σ c) : IS τ := by
  unfold IS IC at *
  rw [e 2 (by decide) (by decide), e 3 (by decide) (by decide), e 4 (by decide) (by decide), e 5 (by decide) (by decide), e 6 (by decide) (by decide), e 7 (by decide) (by decide), e 14 (by decide) (by decide)]
  exact h
theorem pus_o {σ : Mem} (hX : XC σ) (hz : 0 ≤ σ 15 1 ∧ σ 15 1 ≤ 6) {c : Nat} (h : c < 15 ∨ 101 ≤ c) : pus σ c = σ c := by
  have x5 := hX 5 (by decide) (by decide)
  have h5 : dro σ 16 5 = σ 16 0 := by rw [dro_16 (by decide) (by decide)]; rfl
  have x0 := hX 0 (by decide) (by decide)
  unfold pus
  split
  · rename_i hlt
    have xs := hX (σ 15 1) (by omega) hlt
    rw [psh_o (by omega), csp_o (by omega)]
  · rw [psh_o (by omega), dro_15, h5, csp_o (by omega), dro_o (by omega) (by omega)]
theorem IS.pus {σ : Mem} (hX : XC σ) (hz : 0 ≤ σ 15 1 ∧ σ 15 1 ≤ 6) (h : IS σ) : IS (pus σ) := h.of (fun c _ hc => pus_o hX hz (Or.inl hc))
theorem sLeast_k {k : Int} (h : 0 ≤ k ∧ k ≤ 2) : sLeast (kI k).toNatClampNeg = if k = 1 then 1 else 0 := by
  rw [kI_cn h.1 (by omega)]
  obtain rfl | rfl | rfl : k = 0 ∨ k = 1 ∨ k = 2 := by omega
  all_goals rfl
theorem sMost_k {k : Int} (h : 0 ≤ k ∧ k ≤ 2) : sMost (kI k).toNatClampNeg = if k = 0 then 3 else if k = 1 then 9 else 20 := by
  rw [kI_cn h.1 (by omega)]
  obtain rfl | rfl | rfl : k = 0 ∨ k = 1 ∨ k = 2 := by omega
  all_goals rfl
def nof (σ : Mem) (w : Int) : Int := if w = 0 then σ 2 0 else if w = 1 then hma σ 1 else if w = 2 then aba σ else if w = 3 then hma σ 2 else if w = 4 then hra σ else if w = 5 then σ 8 5 else if w = 6 then σ 8 6 else if w = 7 then σ 8 7 else if w = 8 then gro σ else σ 15 1
set_option maxRecDepth 100000 in
set_option maxHeartbeats 4000000 in
theorem k_X5_isKind (l : Launch) {σ : Mem} {k : Int} (hk0 : inR k) : CtI l yX5_isKind (Cond.code yX5_isKind cX5_isKind 1 (some .boolean)) 0 0 (fun z => [.int (kI k)]) σ (bz (isK k)) σ := by
  intro D T z
  refine Ct_of (by decide) (Nat.le_of_ble_eq_true rfl) ?_
  intro p e s m below meth c ls hx hb hml hr hts hown hlk G hl
  have hown : s.vm.findClass RX5 = some m.cls := hown
  have hl : lv_has ls 1 [(0, .int (kI k))] := hl
  refine lv_iload_n hx hb dX5_isKind_0 rfl (lv_at hl 0 rfl) ?_
  refine r_if_lt (tgt := 13) hx hb ⟨by omega, by omega⟩ dX5_isKind_1 (by decide) (fun h_1 => ?_) (fun h_1 => ?_)
  · skip
    refine r_iconst hx hb dX5_isKind_13 ?_
    exact r_zret hx hb hr hlk G (Or.inl rfl) (by first | exact one_bz (by omega) | exact zero_bz (by omega)) (by rfl) dX5_isKind_14
  · skip
    refine lv_iload_n hx hb dX5_isKind_4 rfl (lv_at hl 0 rfl) ?_
    refine r_iconst hx hb dX5_isKind_5 ?_
    refine r_icmp_ge (tgt := 13) hx hb ⟨by omega, by omega⟩ ⟨by decide, by decide⟩ dX5_isKind_6 (by decide) (fun h_2 => ?_) (fun h_2 => ?_)
    · skip
      refine r_iconst hx hb dX5_isKind_13 ?_
      exact r_zret hx hb hr hlk G (Or.inl rfl) (by first | exact one_bz (by omega) | exact zero_bz (by omega)) (by rfl) dX5_isKind_14
    · skip
      refine r_iconst hx hb dX5_isKind_9 ?_
      refine lv_goto (tgt := 14) hx hb dX5_isKind_10 (by decide) ?_
      exact r_zret hx hb hr hlk G (Or.inr rfl) (by first | exact one_bz (by omega) | exact zero_bz (by omega)) (by rfl) dX5_isKind_14
set_option maxRecDepth 100000 in
set_option maxHeartbeats 4000000 in
theorem k_X5_isKey (l : Launch) {σ : Mem} {y : Int} (hy0 : inR y) : CtI l yX5_isKey (Cond.code yX5_isKey cX5_isKey 1 (some .boolean)) 0 0 (fun z => [.int (kI y)]) σ (bz (0 ≤ y ∧ y ≤ 15)) σ := by
  intro D T z
  refine Ct_of (by decide) (Nat.le_of_ble_eq_true rfl) ?_
  intro p e s m below meth c ls hx hb hml hr hts hown hlk G hl
  have hown : s.vm.findClass RX5 = some m.cls := hown
  have hl : lv_has ls 1 [(0, .int (kI y))] := hl
  refine lv_iload_n hx hb dX5_isKey_0 rfl (lv_at hl 0 rfl) ?_
  refine r_if_lt (tgt := 14) hx hb ⟨by omega, by omega⟩ dX5_isKey_1 (by decide) (fun h_1 => ?_) (fun h_1 => ?_)
  · skip
    refine r_iconst hx hb dX5_isKey_14 ?_
    exact r_zret hx hb hr hlk G (Or.inl rfl) (by first | exact one_bz (by omega) | exact zero_bz (by omega)) (by rfl) dX5_isKey_15
  · skip
    refine lv_iload_n hx hb dX5_isKey_4 rfl (lv_at hl 0 rfl) ?_
    refine r_bipush hx hb dX5_isKey_5 (by decide +kernel) ?_
    refine r_icmp_ge (tgt := 14) hx hb ⟨by omega, by omega⟩ ⟨by decide, by decide⟩ dX5_isKey_7 (by decide) (fun h_2 => ?_) (fun h_2 => ?_)
    · skip
      refine r_iconst hx hb dX5_isKey_14 ?_
      exact r_zret hx hb hr hlk G (Or.inl rfl) (by first | exact one_bz (by omega) | exact zero_bz (by omega)) (by rfl) dX5_isKey_15
    · skip
      refine r_iconst hx hb dX5_isKey_10 ?_
      refine lv_goto (tgt := 15) hx hb dX5_isKey_11 (by decide) ?_
      exact r_zret hx hb hr hlk G (Or.inr rfl) (by first | exact one_bz (by omega) | exact zero_bz (by omega)) (by rfl) dX5_isKey_15
set_option maxRecDepth 100000 in
set_option maxHeartbeats 4000000 in
theorem k_X5_needKind (l : Launch) (hst0 : l.stackTraces = false) {σ : Mem} {k : Int} (hk0 : inR k) : CtXV l yX5_needKind (Cond.code yX5_needKind cX5_needKind 1 none) 6 82 1 6 (fun z => [.int (kI k)]) σ (isK k) σ IOB := by
  intro D T z
  refine Cx_of (by decide) (Nat.le_of_ble_eq_true rfl) ?_
  intro p e s m below meth c ls hx hb hml hr hts hown hlk G hl hv htab
  have hown : s.vm.findClass RX5 = some m.cls := hown
  have hl : lv_has ls 1 [(0, .int (kI k))] := hl
  refine lv_iload_n hx hb dX5_needKind_0 rfl (lv_at hl 0 rfl) ?_
  refine r_callSI ⟨hx, hb, hml, hown, hts⟩ G (k_X5_isKind l (k := k) (σ := σ) (⟨by omega, by omega⟩)) (kS_X5_isKind hts qM_X5_231 ⟨Nat.le_of_ble_eq_true rfl, Nat.le_of_ble_eq_true rfl⟩) rfl rfl hl.1 rfl (Nat.le_of_ble_eq_true rfl) dX5_needKind_1 ⟨Nat.le_of_ble_eq_true rfl, Nat.le_of_ble_eq_true rfl⟩ (fun H locs G => ?_)
  refine r_zne (tgt := 17) hx hb dX5_needKind_4 (by decide) (fun h_1 => ?_) (fun h_1 => ?_)
  · skip
    exact r_vretx hx hb hr hlk G ⟨Nat.le_of_ble_eq_true rfl, Nat.le_of_ble_eq_true rfl⟩ (by omega) (by rfl) dX5_needKind_17
  · skip
    exact r_throw ⟨hx, hb, hml, hown, hts⟩ hst0 hl.1 hlk htab G hv (by decide +kernel) qK_X5_234 qN_IndexOutOfBoundsException (is := 236) (text := "there is no such kind") (by decide) at_IOB nb_IOB gd_IOB dX5_needKind_7 dX5_needKind_10 dX5_needKind_11 dX5_needKind_13 dX5_needKind_16 ⟨Nat.le_of_ble_eq_true rfl, Nat.le_of_ble_eq_true rfl⟩ ⟨Nat.le_of_ble_eq_true rfl, Nat.le_of_ble_eq_true rfl⟩ ⟨Nat.le_of_ble_eq_true rfl, Nat.le_of_ble_eq_true rfl⟩ (by omega) (rfl) (rfl)
set_option maxRecDepth 100000 in
set_option maxHeartbeats 4000000 in
theorem k_X5_needKey (l : Launch) (hst0 : l.stackTraces = false) {σ : Mem} {k y : Int} (hk0 : inR k) (hy0 : inR y) : CtXV l yX5_needKey (Cond.code yX5_needKey cX5_needKey 2 none) 6 82 1 6 (fun z => [.int (kI k), .int (kI y)]) σ (isY k y) σ IOB := by
  intro D T z
  refine Cx_of (by decide) (Nat.le_of_ble_eq_true rfl) ?_
  intro p e s m below meth c ls hx hb hml hr hts hown hlk G hl hv htab
  have hown : s.vm.findClass RX5 = some m.cls := hown
  have hl : lv_has ls 2 [(0, .int (kI k)), (1, .int (kI y))] := hl
  refine lv_iload_n hx hb dX5_needKey_0 rfl (lv_at hl 0 rfl) ?_
  refine r_callSI ⟨hx, hb, hml, hown, hts⟩ G (k_X5_isKind l (k := k) (σ := σ) (⟨by omega, by omega⟩)) (kS_X5_isKind hts qM_X5_231 ⟨Nat.le_of_ble_eq_true rfl, Nat.le_of_ble_eq_true rfl⟩) rfl rfl hl.1 rfl (Nat.le_of_ble_eq_true rfl) dX5_needKey_1 ⟨Nat.le_of_ble_eq_true rfl, Nat.le_of_ble_eq_true rfl⟩ (fun H locs G => ?_)
  refine r_zeq (tgt := 14) hx hb dX5_needKey_4 (by decide) (fun h_1 => ?_) (fun h_1 => ?_)
  · skip
    exact r_throw ⟨hx, hb, hml, hown, hts⟩ hst0 hl.1 hlk htab G hv (by decide +kernel) qK_X5_234 qN_IndexOutOfBoundsException (is := 242) (text := "there is no such kind or key") (by decide) at_IOB nb_IOB gd_IOB dX5_needKey_14 dX5_needKey_17 dX5_needKey_18 dX5_needKey_20 dX5_needKey_23 ⟨Nat.le_of_ble_eq_true rfl, Nat.le_of_ble_eq_true rfl⟩ ⟨Nat.le_of_ble_eq_true rfl, Nat.le_of_ble_eq_true rfl⟩ ⟨Nat.le_of_ble_eq_true rfl, Nat.le_of_ble_eq_true rfl⟩ (by omega) (rfl) (rfl)
  · skip
    refine lv_iload_n hx hb dX5_needKey_7 rfl (lv_at hl 1 rfl) ?_
    refine r_callSI ⟨hx, hb, hml, hown, hts⟩ G (k_X5_isKey l (y := y) (σ := σ) (⟨by omega, by omega⟩)) (kS_X5_isKey hts qM_X5_239 ⟨Nat.le_of_ble_eq_true rfl, Nat.le_of_ble_eq_true rfl⟩) rfl rfl hl.1 rfl (Nat.le_of_ble_eq_true rfl) dX5_needKey_8 ⟨Nat.le_of_ble_eq_true rfl, Nat.le_of_ble_eq_true rfl⟩ (fun H locs G => ?_)
    refine r_zne (tgt := 24) hx hb dX5_needKey_11 (by decide) (fun h_2 => ?_) (fun h_2 => ?_)
    · skip
      exact r_vretx hx hb hr hlk G ⟨Nat.le_of_ble_eq_true rfl, Nat.le_of_ble_eq_true rfl⟩ (by omega) (by rfl) dX5_needKey_24
    · skip
      exact r_throw ⟨hx, hb, hml, hown, hts⟩ hst0 hl.1 hlk htab G hv (by decide +kernel) qK_X5_234 qN_IndexOutOfBoundsException (is := 242) (text := "there is no such kind or key") (by decide) at_IOB nb_IOB gd_IOB dX5_needKey_14 dX5_needKey_17 dX5_needKey_18 dX5_needKey_20 dX5_needKey_23 ⟨Nat.le_of_ble_eq_true rfl, Nat.le_of_ble_eq_true rfl⟩ ⟨Nat.le_of_ble_eq_true rfl, Nat.le_of_ble_eq_true rfl⟩ ⟨Nat.le_of_ble_eq_true rfl, Nat.le_of_ble_eq_true rfl⟩ (by omega) (rfl) (rfl)
set_option maxRecDepth 100000 in
set_option maxHeartbeats 4000000 in
theorem k_X5_needSetting (l : Launch) (hst0 : l.stackTraces = false) {σ : Mem} {k : Int} (hk0 : inR k) : CtXV l yX5_needSetting (Cond.code yX5_needSetting cX5_needSetting 1 none) 6 82 1 6 (fun z => [.int (kI k)]) σ (0 ≤ k ∧ k ≤ 2) σ IOB := by
  intro D T z
  refine Cx_of (by decide) (Nat.le_of_ble_eq_true rfl) ?_
  intro p e s m below meth c ls hx hb hml hr hts hown hlk G hl hv htab
  have hown : s.vm.findClass RX5 = some m.cls := hown
  have hl : lv_has ls 1 [(0, .int (kI k))] := hl
  refine lv_iload_n hx hb dX5_needSetting_0 rfl (lv_at hl 0 rfl) ?_
  refine r_if_lt (tgt := 9) hx hb ⟨by omega, by omega⟩ dX5_needSetting_1 (by decide) (fun h_1 => ?_) (fun h_1 => ?_)
  · skip
    exact r_throw ⟨hx, hb, hml, hown, hts⟩ hst0 hl.1 hlk htab G hv (by decide +kernel) qK_X5_234 qN_IndexOutOfBoundsException (is := 244) (text := "there is no such setting") (by decide) at_IOB nb_IOB gd_IOB dX5_needSetting_9 dX5_needSetting_12 dX5_needSetting_13 dX5_needSetting_15 dX5_needSetting_18 ⟨Nat.le_of_ble_eq_true rfl, Nat.le_of_ble_eq_true rfl⟩ ⟨Nat.le_of_ble_eq_true rfl, Nat.le_of_ble_eq_true rfl⟩ ⟨Nat.le_of_ble_eq_true rfl, Nat.le_of_ble_eq_true rfl⟩ (by omega) (rfl) (rfl)
  · skip
    refine lv_iload_n hx hb dX5_needSetting_4 rfl (lv_at hl 0 rfl) ?_
    refine r_iconst hx hb dX5_needSetting_5 ?_
    refine r_icmp_lt (tgt := 19) hx hb ⟨by omega, by omega⟩ ⟨by decide, by decide⟩ dX5_needSetting_6 (by decide) (fun h_2 => ?_) (fun h_2 => ?_)
    · skip
      exact r_vretx hx hb hr hlk G ⟨Nat.le_of_ble_eq_true rfl, Nat.le_of_ble_eq_true rfl⟩ (by omega) (by rfl) dX5_needSetting_19
    · skip
      exact r_throw ⟨hx, hb, hml, hown, hts⟩ hst0 hl.1 hlk htab G hv (by decide +kernel) qK_X5_234 qN_IndexOutOfBoundsException (is := 244) (text := "there is no such setting") (by decide) at_IOB nb_IOB gd_IOB dX5_needSetting_9 dX5_needSetting_12 dX5_needSetting_13 dX5_needSetting_15 dX5_needSetting_18 ⟨Nat.le_of_ble_eq_true rfl, Nat.le_of_ble_eq_true rfl⟩ ⟨Nat.le_of_ble_eq_true rfl, Nat.le_of_ble_eq_true rfl⟩ ⟨Nat.le_of_ble_eq_true rfl, Nat.le_of_ble_eq_true rfl⟩ (by omega) (rfl) (rfl)
set_option maxRecDepth 100000 in
set_option maxHeartbeats 4000000 in
theorem k_X5_needAtLeast (l : Launch) (hst0 : l.stackTraces = false) {σ : Mem} {v lo : Int} (hv0 : inR v) (hlo : inR lo) : CtXV l yX5_needAtLeast (Cond.code yX5_needAtLeast cX5_needAtLeast 2 none) 6 82 1 6 (fun z => [.int (kI v), .int (kI lo)]) σ (lo ≤ v) σ IAE := by
  intro D T z
  refine Cx_of (by decide) (Nat.le_of_ble_eq_true rfl) ?_
  intro p e s m below meth c ls hx hb hml hr hts hown hlk G hl hv htab
  have hown : s.vm.findClass RX5 = some m.cls := hown
  have hl : lv_has ls 2 [(0, .int (kI v)), (1, .int (kI lo))] := hl
  refine lv_iload_n hx hb dX5_needAtLeast_0 rfl (lv_at hl 0 rfl) ?_
  refine lv_iload_n hx hb dX5_needAtLeast_1 rfl (lv_at hl 1 rfl) ?_
  refine r_icmp_ge (tgt := 15) hx hb ⟨by omega, by omega⟩ ⟨by omega, by omega⟩ dX5_needAtLeast_2 (by decide) (fun h_1 => ?_) (fun h_1 => ?_)
  · skip
    exact r_vretx hx hb hr hlk G ⟨Nat.le_of_ble_eq_true rfl, Nat.le_of_ble_eq_true rfl⟩ (by omega) (by rfl) dX5_needAtLeast_15
  · skip
    exact r_throw ⟨hx, hb, hml, hown, hts⟩ hst0 hl.1 hlk htab G hv (by decide +kernel) qK_X5_151 qN_IllegalArgumentException (is := 246) (text := "too small") (by decide) at_IAE nb_IAE gd_IAE dX5_needAtLeast_5 dX5_needAtLeast_8 dX5_needAtLeast_9 dX5_needAtLeast_11 dX5_needAtLeast_14 ⟨Nat.le_of_ble_eq_true rfl, Nat.le_of_ble_eq_true rfl⟩ ⟨Nat.le_of_ble_eq_true rfl, Nat.le_of_ble_eq_true rfl⟩ ⟨Nat.le_of_ble_eq_true rfl, Nat.le_of_ble_eq_true rfl⟩ (by omega) (rfl) (rfl)
set_option maxRecDepth 100000 in
set_option maxHeartbeats 4000000 in
theorem k_X5_needRange (l : Launch) (hst0 : l.stackTraces = false) {σ : Mem} {v lo hi : Int} (hv0 : inR v) (hlo : inR lo) (hhi : inR hi) : CtXV l yX5_needRange (Cond.code yX5_needRange cX5_needRange 3 none) 6 82 1 6 (fun z => [.int (kI v), .int (kI lo), .int (kI hi)]) σ (lo ≤ v ∧ v ≤ hi) σ IAE := by
  intro D T z
  refine Cx_of (by decide) (Nat.le_of_ble_eq_true rfl) ?_
  intro p e s m below meth c ls hx hb hml hr hts hown hlk G hl hv htab
  have hown : s.vm.findClass RX5 = some m.cls := hown
  have hl : lv_has ls 3 [(0, .int (kI v)), (1, .int (kI lo)), (2, .int (kI hi))] := hl
  refine lv_iload_n hx hb dX5_needRange_0 rfl (lv_at hl 0 rfl) ?_
  refine lv_iload_n hx hb dX5_needRange_1 rfl (lv_at hl 1 rfl) ?_
  refine r_icmp_lt (tgt := 10) hx hb ⟨by omega, by omega⟩ ⟨by omega, by omega⟩ dX5_needRange_2 (by decide) (fun h_1 => ?_) (fun h_1 => ?_)
  · skip
    exact r_throw ⟨hx, hb, hml, hown, hts⟩ hst0 hl.1 hlk htab G hv (by decide +kernel) qK_X5_151 qN_IllegalArgumentException (is := 248) (text := "out of range") (by decide) at_IAE nb_IAE gd_IAE dX5_needRange_10 dX5_needRange_13 dX5_needRange_14 dX5_needRange_16 dX5_needRange_19 ⟨Nat.le_of_ble_eq_true rfl, Nat.le_of_ble_eq_true rfl⟩ ⟨Nat.le_of_ble_eq_true rfl, Nat.le_of_ble_eq_true rfl⟩ ⟨Nat.le_of_ble_eq_true rfl, Nat.le_of_ble_eq_true rfl⟩ (by omega) (rfl) (rfl)
  · skip
    refine lv_iload_n hx hb dX5_needRange_5 rfl (lv_at hl 0 rfl) ?_
    refine lv_iload_n hx hb dX5_needRange_6 rfl (lv_at hl 2 rfl) ?_
    refine r_icmp_le (tgt := 20) hx hb ⟨by omega, by omega⟩ ⟨by omega, by omega⟩ dX5_needRange_7 (by decide) (fun h_2 => ?_) (fun h_2 => ?_)
    · skip
      exact r_vretx hx hb hr hlk G ⟨Nat.le_of_ble_eq_true rfl, Nat.le_of_ble_eq_true rfl⟩ (by omega) (by rfl) dX5_needRange_20
    · skip
      exact r_throw ⟨hx, hb, hml, hown, hts⟩ hst0 hl.1 hlk htab G hv (by decide +kernel) qK_X5_151 qN_IllegalArgumentException (is := 248) (text := "out of range") (by decide) at_IAE nb_IAE gd_IAE dX5_needRange_10 dX5_needRange_13 dX5_needRange_14 dX5_needRange_16 dX5_needRange_19 ⟨Nat.le_of_ble_eq_true rfl, Nat.le_of_ble_eq_true rfl⟩ ⟨Nat.le_of_ble_eq_true rfl, Nat.le_of_ble_eq_true rfl⟩ ⟨Nat.le_of_ble_eq_true rfl, Nat.le_of_ble_eq_true rfl⟩ (by omega) (rfl) (rfl)
set_option maxRecDepth 100000 in
set_option maxHeartbeats 4000000 in
theorem k_X5_ask (l : Launch) (hst0 : l.stackTraces = false) {σ : Mem} {k : Int} (hk0 : inR k) (hX : XC σ) (hz : 0 ≤ σ 15 1 ∧ σ 15 1 ≤ 6) (hS : IS σ) : CtXI l yX5_ask (Cond.code yX5_ask cX5_ask 2 (some .int)) 7 116 2 12 (fun z => [.ref (z + 0), .int (kI k)]) σ (isK k) (atr (pus σ) k) (svr (pus σ) k) IOB := by
  intro D T z
  refine Cx_of (by decide) (Nat.le_of_ble_eq_true rfl) ?_
  intro p e s m below meth c ls hx hb hml hr hts hown hlk G hl hv htab
  have hown : s.vm.findClass RX5 = some m.cls := hown
  have hl : lv_has ls 2 [(0, .ref (z + 0)), (1, .int (kI k))] := hl
  refine lv_iload_n hx hb dX5_ask_0 rfl (lv_at hl 1 rfl) ?_
  refine r_need ⟨hx, hb, hml, hown, hts⟩ hst0 hlk htab G hv (k_X5_needKind l hst0 (k := k) (σ := σ) (⟨by omega, by omega⟩)) (kSx_X5_needKind hts qM_X5_38 ⟨Nat.le_of_ble_eq_true rfl, Nat.le_of_ble_eq_true rfl⟩) rfl rfl hl.1 rfl (Nat.le_of_ble_eq_true rfl) dX5_ask_1 ⟨Nat.le_of_ble_eq_true rfl, Nat.le_of_ble_eq_true rfl⟩ ⟨Nat.le_of_ble_eq_true rfl, Nat.le_of_ble_eq_true rfl⟩ rfl (fun h => ⟨h, rfl⟩) (fun hq_1 H locs G => ?_)
  have hK := hq_1
  refine lv_aload_n hx hb dX5_ask_4 rfl (lv_at hl 0 rfl) ?_
  refine gf_X5_19 hx hb hts hown G dX5_ask_5 ?_
  refine lv_aload_n hx hb dX5_ask_8 rfl (lv_at hl 0 rfl) ?_
  refine gf_X5_10 hx hb hts hown G dX5_ask_9 ?_
  refine r_callVV ⟨hx, hb, hml, hown, hts⟩ G (k_X4_push l (σ := σ) (hX) (hz)) (kV_X4_push hts qM_X5_42 ⟨Nat.le_of_ble_eq_true rfl, Nat.le_of_ble_eq_true rfl⟩) (rc_X4 G) rfl rfl hl.1 rfl (Nat.le_of_ble_eq_true rfl) dX5_ask_12 ⟨Nat.le_of_ble_eq_true rfl, Nat.le_of_ble_eq_true rfl⟩ (fun H locs G => ?_)
  refine lv_aload_n hx hb dX5_ask_15 rfl (lv_at hl 0 rfl) ?_
  refine gf_X5_10 hx hb hts hown G dX5_ask_16 ?_
  refine lv_iload_n hx hb dX5_ask_19 rfl (lv_at hl 1 rfl) ?_
  refine r_callVI ⟨hx, hb, hml, hown, hts⟩ G (k_X1_serveRow l (k := k) (σ := pus σ) (⟨by omega, by omega⟩) (IS.pus hX hz hS)) (kV_X1_serveRow hts qM_X5_46 ⟨Nat.le_of_ble_eq_true rfl, Nat.le_of_ble_eq_true rfl⟩) (rc_X1 G) rfl rfl hl.1 rfl (Nat.le_of_ble_eq_true rfl) dX5_ask_20 ⟨Nat.le_of_ble_eq_true rfl, Nat.le_of_ble_eq_true rfl⟩ (fun H locs G => ?_)
  exact r_iretx hx hb hr hlk G ⟨Nat.le_of_ble_eq_true rfl, Nat.le_of_ble_eq_true rfl⟩ (hK) (by first | rfl | omega) (by rfl) dX5_ask_23
set_option maxRecDepth 100000 in
set_option maxHeartbeats 4000000 in
theorem k_X5_want (l : Launch) (hst0 : l.stackTraces = false) {σ : Mem} {k y : Int} (hk0 : inR k) (hy0 : inR y) (hX : XC σ) (hz : 0 ≤ σ 15 1 ∧ σ 15 1 ≤ 6) (hS : IS σ) : CtXI l yX5_want (Cond.code yX5_want cX5_want 3 (some .int)) 7 103 2 12 (fun z => [.ref (z + 0), .int (kI k), .int (kI y)]) σ (isY k y) (svwR (pus σ) k y) (svw (pus σ) k y) IOB := by
  intro D T z
  refine Cx_of (by decide) (Nat.le_of_ble_eq_true rfl) ?_
  intro p e s m below meth c ls hx hb hml hr hts hown hlk G hl hv htab
  have hown : s.vm.findClass RX5 = some m.cls := hown
  have hl : lv_has ls 3 [(0, .ref (z + 0)), (1, .int (kI k)), (2, .int (kI y))] := hl
  refine lv_iload_n hx hb dX5_want_0 rfl (lv_at hl 1 rfl) ?_
  refine lv_iload_n hx hb dX5_want_1 rfl (lv_at hl 2 rfl) ?_
  refine r_need ⟨hx, hb, hml, hown, hts⟩ hst0 hlk htab G hv (k_X5_needKey l hst0 (k := k) (y := y) (σ := σ) (⟨by omega, by omega⟩) (⟨by omega, by omega⟩)) (kSx_X5_needKey hts qM_X5_50 ⟨Nat.le_of_ble_eq_true rfl, Nat.le_of_ble_eq_true rfl⟩) rfl rfl hl.1 rfl (Nat.le_of_ble_eq_true rfl) dX5_want_2 ⟨Nat.le_of_ble_eq_true rfl, Nat.le_of_ble_eq_true rfl⟩ ⟨Nat.le_of_ble_eq_true rfl, Nat.le_of_ble_eq_true rfl⟩ rfl (fun h => ⟨h, rfl⟩) (fun hq_1 H locs G => ?_)
  have hK := hq_1
  refine lv_aload_n hx hb dX5_want_5 rfl (lv_at hl 0 rfl) ?_
  refine gf_X5_19 hx hb hts hown G dX5_want_6 ?_
  refine lv_aload_n hx hb dX5_want_9 rfl (lv_at hl 0 rfl) ?_
  refine gf_X5_10 hx hb hts hown G dX5_want_10 ?_
  refine r_callVV ⟨hx, hb, hml, hown, hts⟩ G (k_X4_push l (σ := σ) (hX) (hz)) (kV_X4_push hts qM_X5_42 ⟨Nat.le_of_ble_eq_true rfl, Nat.le_of_ble_eq_true rfl⟩) (rc_X4 G) rfl rfl hl.1 rfl (Nat.le_of_ble_eq_true rfl) dX5_want_13 ⟨Nat.le_of_ble_eq_true rfl, Nat.le_of_ble_eq_true rfl⟩ (fun H locs G => ?_)
  refine lv_aload_n hx hb dX5_want_16 rfl (lv_at hl 0 rfl) ?_
  refine gf_X5_10 hx hb hts hown G dX5_want_17 ?_
  refine lv_iload_n hx hb dX5_want_20 rfl (lv_at hl 1 rfl) ?_
  refine lv_iload_n hx hb dX5_want_21 rfl (lv_at hl 2 rfl) ?_
  refine r_callVI ⟨hx, hb, hml, hown, hts⟩ G (k_X1_serveWish l (k := k) (y := y) (σ := pus σ) (⟨by omega, by omega⟩) (⟨by omega, by omega⟩) (IS.pus hX hz hS)) (kV_X1_serveWish hts qM_X5_54 ⟨Nat.le_of_ble_eq_true rfl, Nat.le_of_ble_eq_true rfl⟩) (rc_X1 G) rfl rfl hl.1 rfl (Nat.le_of_ble_eq_true rfl) dX5_want_22 ⟨Nat.le_of_ble_eq_true rfl, Nat.le_of_ble_eq_true rfl⟩ (fun H locs G => ?_)
  exact r_iretx hx hb hr hlk G ⟨Nat.le_of_ble_eq_true rfl, Nat.le_of_ble_eq_true rfl⟩ (hK) (by first | rfl | omega) (by rfl) dX5_want_25
set_option maxRecDepth 100000 in
set_option maxHeartbeats 4000000 in
theorem k_X5_delete (l : Launch) (hst0 : l.stackTraces = false) {σ : Mem} {k y : Int} (hk0 : inR k) (hy0 : inR y) (hX : XC σ) (hz : 0 ≤ σ 15 1 ∧ σ 15 1 ≤ 6) (hS : IS σ) : CtXI l yX5_delete (Cond.code yX5_delete cX5_delete 3 (some .int)) 7 103 2 12 (fun z => [.ref (z + 0), .int (kI k), .int (kI y)]) σ (isY k y ∧ σ 4 (k * 16 + y) = 1) (bz ((pus σ) 14 1 ≤ (pus σ) 5 (k * 16 + y))) (dlr (pus σ) k y) (if isY k y then ISE else IOB) := by
  intro D T z
  refine Cx_of (by decide) (Nat.le_of_ble_eq_true rfl) ?_
  intro p e s m below meth c ls hx hb hml hr hts hown hlk G hl hv htab
  have hown : s.vm.findClass RX5 = some m.cls := hown
  have hl : lv_has ls 3 [(0, .ref (z + 0)), (1, .int (kI k)), (2, .int (kI y))] := hl
  refine lv_iload_n hx hb dX5_delete_0 rfl (lv_at hl 1 rfl) ?_
  refine lv_iload_n hx hb dX5_delete_1 rfl (lv_at hl 2 rfl) ?_
  refine r_need ⟨hx, hb, hml, hown, hts⟩ hst0 hlk htab G hv (k_X5_needKey l hst0 (k := k) (y := y) (σ := σ) (⟨by omega, by omega⟩) (⟨by omega, by omega⟩)) (kSx_X5_needKey hts qM_X5_50 ⟨Nat.le_of_ble_eq_true rfl, Nat.le_of_ble_eq_true rfl⟩) rfl rfl hl.1 rfl (Nat.le_of_ble_eq_true rfl) dX5_delete_2 ⟨Nat.le_of_ble_eq_true rfl, Nat.le_of_ble_eq_true rfl⟩ ⟨Nat.le_of_ble_eq_true rfl, Nat.le_of_ble_eq_true rfl⟩ rfl (fun h => ⟨fun q => h q.1, (if_neg h).symm⟩) (fun hq_1 H locs G => ?_)
  have hK := hq_1
  refine lv_aload_n hx hb dX5_delete_5 rfl (lv_at hl 0 rfl) ?_
  refine gf_X5_10 hx hb hts hown G dX5_delete_6 ?_
  refine lv_iload_n hx hb dX5_delete_9 rfl (lv_at hl 1 rfl) ?_
  refine lv_iload_n hx hb dX5_delete_10 rfl (lv_at hl 2 rfl) ?_
  refine r_callVI ⟨hx, hb, hml, hown, hts⟩ G (k_X1_canDelete l (k := k) (y := y) (σ := σ) (⟨by omega, by omega⟩) (⟨by omega, by omega⟩) (hS)) (kV_X1_canDelete hts qM_X5_58 ⟨Nat.le_of_ble_eq_true rfl, Nat.le_of_ble_eq_true rfl⟩) (rc_X1 G) rfl rfl hl.1 rfl (Nat.le_of_ble_eq_true rfl) dX5_delete_11 ⟨Nat.le_of_ble_eq_true rfl, Nat.le_of_ble_eq_true rfl⟩ (fun H locs G => ?_)
  refine r_zne (tgt := 27) hx hb dX5_delete_14 (by decide) (fun h_2 => ?_) (fun h_2 => ?_)
  · skip
    have hA := h_2
    refine lv_aload_n hx hb dX5_delete_27 rfl (lv_at hl 0 rfl) ?_
    refine gf_X5_19 hx hb hts hown G dX5_delete_28 ?_
    refine lv_aload_n hx hb dX5_delete_31 rfl (lv_at hl 0 rfl) ?_
    refine gf_X5_10 hx hb hts hown G dX5_delete_32 ?_
    refine r_callVV ⟨hx, hb, hml, hown, hts⟩ G (k_X4_push l (σ := σ) (hX) (hz)) (kV_X4_push hts qM_X5_42 ⟨Nat.le_of_ble_eq_true rfl, Nat.le_of_ble_eq_true rfl⟩) (rc_X4 G) rfl rfl hl.1 rfl (Nat.le_of_ble_eq_true rfl) dX5_delete_35 ⟨Nat.le_of_ble_eq_true rfl, Nat.le_of_ble_eq_true rfl⟩ (fun H locs G => ?_)
    refine lv_aload_n hx hb dX5_delete_38 rfl (lv_at hl 0 rfl) ?_
    refine gf_X5_10 hx hb hts hown G dX5_delete_39 ?_
    refine lv_iload_n hx hb dX5_delete_42 rfl (lv_at hl 1 rfl) ?_
    refine lv_iload_n hx hb dX5_delete_43 rfl (lv_at hl 2 rfl) ?_
    refine r_callVI ⟨hx, hb, hml, hown, hts⟩ G (k_X1_deleteRow l (k := k) (y := y) (σ := pus σ) (⟨by omega, by omega⟩) (⟨by omega, by omega⟩) (IS.pus hX hz hS)) (kV_X1_deleteRow hts qM_X5_69 ⟨Nat.le_of_ble_eq_true rfl, Nat.le_of_ble_eq_true rfl⟩) (rc_X1 G) rfl rfl hl.1 rfl (Nat.le_of_ble_eq_true rfl) dX5_delete_44 ⟨Nat.le_of_ble_eq_true rfl, Nat.le_of_ble_eq_true rfl⟩ (fun H locs G => ?_)
    exact r_iretx hx hb hr hlk G ⟨Nat.le_of_ble_eq_true rfl, Nat.le_of_ble_eq_true rfl⟩ (⟨hK, hA⟩) (by first | rfl | omega) (by rfl) dX5_delete_47
  · skip
    have hA := h_2
    exact r_throw ⟨hx, hb, hml, hown, hts⟩ hst0 hl.1 hlk htab G hv (by decide +kernel) qK_X5_62 qN_IllegalStateException (is := 64) (text := "the key is not alive") (by decide) at_ISE nb_ISE gd_ISE dX5_delete_17 dX5_delete_20 dX5_delete_21 dX5_delete_23 dX5_delete_26 ⟨Nat.le_of_ble_eq_true rfl, Nat.le_of_ble_eq_true rfl⟩ ⟨Nat.le_of_ble_eq_true rfl, Nat.le_of_ble_eq_true rfl⟩ ⟨Nat.le_of_ble_eq_true rfl, Nat.le_of_ble_eq_true rfl⟩ (fun q => hA q.2) ((if_pos hK).symm) (rfl)
set_option maxRecDepth 100000 in
set_option maxHeartbeats 4000000 in
theorem k_X5_bringBack (l : Launch) (hst0 : l.stackTraces = false) {σ : Mem} {k y : Int} (hk0 : inR k) (hy0 : inR y) (hX : XC σ) (hz : 0 ≤ σ 15 1 ∧ σ 15 1 ≤ 6) (hS : IS σ) : CtXI l yX5_bringBack (Cond.code yX5_bringBack cX5_bringBack 3 (some .int)) 7 103 2 12 (fun z => [.ref (z + 0), .int (kI k), .int (kI y)]) σ (isY k y ∧ cbb σ k y) ((pus σ) 5 (k * 16 + y)) (brb (pus σ) k y) (if isY k y then ISE else IOB) := by
  intro D T z
  refine Cx_of (by decide) (Nat.le_of_ble_eq_true rfl) ?_
  intro p e s m below meth c ls hx hb hml hr hts hown hlk G hl hv htab
  have hown : s.vm.findClass RX5 = some m.cls := hown
  have hl : lv_has ls 3 [(0, .ref (z + 0)), (1, .int (kI k)), (2, .int (kI y))] := hl
  refine lv_iload_n hx hb dX5_bringBack_0 rfl (lv_at hl 1 rfl) ?_
  refine lv_iload_n hx hb dX5_bringBack_1 rfl (lv_at hl 2 rfl) ?_
  refine r_need ⟨hx, hb, hml, hown, hts⟩ hst0 hlk htab G hv (k_X5_needKey l hst0 (k := k) (y := y) (σ := σ) (⟨by omega, by omega⟩) (⟨by omega, by omega⟩)) (kSx_X5_needKey hts qM_X5_50 ⟨Nat.le_of_ble_eq_true rfl, Nat.le_of_ble_eq_true rfl⟩) rfl rfl hl.1 rfl (Nat.le_of_ble_eq_true rfl) dX5_bringBack_2 ⟨Nat.le_of_ble_eq_true rfl, Nat.le_of_ble_eq_true rfl⟩ ⟨Nat.le_of_ble_eq_true rfl, Nat.le_of_ble_eq_true rfl⟩ rfl (fun h => ⟨fun q => h q.1, (if_neg h).symm⟩) (fun hq_1 H locs G => ?_)
  have hK := hq_1
  refine lv_aload_n hx hb dX5_bringBack_5 rfl (lv_at hl 0 rfl) ?_
  refine gf_X5_10 hx hb hts hown G dX5_bringBack_6 ?_
  refine lv_iload_n hx hb dX5_bringBack_9 rfl (lv_at hl 1 rfl) ?_
  refine lv_iload_n hx hb dX5_bringBack_10 rfl (lv_at hl 2 rfl) ?_
  refine r_callVI ⟨hx, hb, hml, hown, hts⟩ G (k_X1_canBringBack l (k := k) (y := y) (σ := σ) (⟨by omega, by omega⟩) (⟨by omega, by omega⟩) (hS)) (kV_X1_canBringBack hts qM_X5_72 ⟨Nat.le_of_ble_eq_true rfl, Nat.le_of_ble_eq_true rfl⟩) (rc_X1 G) rfl rfl hl.1 rfl (Nat.le_of_ble_eq_true rfl) dX5_bringBack_11 ⟨Nat.le_of_ble_eq_true rfl, Nat.le_of_ble_eq_true rfl⟩ (fun H locs G => ?_)
  refine r_zne (tgt := 27) hx hb dX5_bringBack_14 (by decide) (fun h_2 => ?_) (fun h_2 => ?_)
  · skip
    have hA := h_2
    refine lv_aload_n hx hb dX5_bringBack_27 rfl (lv_at hl 0 rfl) ?_
    refine gf_X5_19 hx hb hts hown G dX5_bringBack_28 ?_
    refine lv_aload_n hx hb dX5_bringBack_31 rfl (lv_at hl 0 rfl) ?_
    refine gf_X5_10 hx hb hts hown G dX5_bringBack_32 ?_
    refine r_callVV ⟨hx, hb, hml, hown, hts⟩ G (k_X4_push l (σ := σ) (hX) (hz)) (kV_X4_push hts qM_X5_42 ⟨Nat.le_of_ble_eq_true rfl, Nat.le_of_ble_eq_true rfl⟩) (rc_X4 G) rfl rfl hl.1 rfl (Nat.le_of_ble_eq_true rfl) dX5_bringBack_35 ⟨Nat.le_of_ble_eq_true rfl, Nat.le_of_ble_eq_true rfl⟩ (fun H locs G => ?_)
    refine lv_aload_n hx hb dX5_bringBack_38 rfl (lv_at hl 0 rfl) ?_
    refine gf_X5_10 hx hb hts hown G dX5_bringBack_39 ?_
    refine lv_iload_n hx hb dX5_bringBack_42 rfl (lv_at hl 1 rfl) ?_
    refine lv_iload_n hx hb dX5_bringBack_43 rfl (lv_at hl 2 rfl) ?_
    refine r_callVI ⟨hx, hb, hml, hown, hts⟩ G (k_X1_bringRowBack l (k := k) (y := y) (σ := pus σ) (⟨by omega, by omega⟩) (⟨by omega, by omega⟩) (IS.pus hX hz hS)) (kV_X1_bringRowBack hts qM_X5_77 ⟨Nat.le_of_ble_eq_true rfl, Nat.le_of_ble_eq_true rfl⟩) (rc_X1 G) rfl rfl hl.1 rfl (Nat.le_of_ble_eq_true rfl) dX5_bringBack_44 ⟨Nat.le_of_ble_eq_true rfl, Nat.le_of_ble_eq_true rfl⟩ (fun H locs G => ?_)
    exact r_iretx hx hb hr hlk G ⟨Nat.le_of_ble_eq_true rfl, Nat.le_of_ble_eq_true rfl⟩ (⟨hK, hA⟩) (by first | rfl | omega) (by rfl) dX5_bringBack_47
  · skip
    have hA := h_2
    exact r_throw ⟨hx, hb, hml, hown, hts⟩ hst0 hl.1 hlk htab G hv (by decide +kernel) qK_X5_62 qN_IllegalStateException (is := 75) (text := "not in the pile, or deleted too long ago") (by decide) at_ISE nb_ISE gd_ISE dX5_bringBack_17 dX5_bringBack_20 dX5_bringBack_21 dX5_bringBack_23 dX5_bringBack_26 ⟨Nat.le_of_ble_eq_true rfl, Nat.le_of_ble_eq_true rfl⟩ ⟨Nat.le_of_ble_eq_true rfl, Nat.le_of_ble_eq_true rfl⟩ ⟨Nat.le_of_ble_eq_true rfl, Nat.le_of_ble_eq_true rfl⟩ (fun q => hA q.2) ((if_pos hK).symm) (rfl)
theorem IC_tup {σ : Mem} {k : Int} (h : IC σ) : IC (tup σ k) := by
  have e : ∀ c, c ≠ 6 → tup σ k c = σ c := fun c hc => by funext j; unfold tup; simp only [flip6]; rw [if_neg (fun q => hc q.1)]
  obtain ⟨h1, h2, h3⟩ := h
  refine ⟨by rw [e 2 (by decide)]; exact h1, fun q a b => by rw [e 3 (by decide)]; exact h2 q a b, fun i a b => ?_⟩
  have g := h3 i a b
  rw [e 4 (by decide), e 5 (by decide), e 7 (by decide), e 2 (by decide)]
  refine ⟨g.1, g.2.1, ?_, g.2.2.2⟩
  unfold tup; simp only [flip6]
  split
  · exact wr_rg _
  · exact g.2.2.1
theorem IC.day {σ : Mem} {d : Int} (h : IC σ) (h0 : 0 ≤ d) (h1 : σ 2 0 + d ≤ 9999) : IC (up σ 2 0 (σ 2 0 + d)) := by
  obtain ⟨g1, g2, g3⟩ := h
  have e : ∀ c, c ≠ 2 → up σ 2 0 (σ 2 0 + d) c = σ c := fun c hc => up_o hc
  refine ⟨by simp [up_ap]; omega, fun q a b => by rw [e 3 (by decide)]; exact g2 q a b, fun i a b => ?_⟩
  have g := g3 i a b
  rw [e 4 (by decide), e 5 (by decide), e 6 (by decide), e 7 (by decide)]
  refine ⟨g.1, g.2.1, g.2.2.1, g.2.2.2.1, ?_⟩
  have e2 : up σ 2 0 (σ 2 0 + d) 2 0 = σ 2 0 + d := by simp [up_ap]
  rw [e2]; omega
set_option maxRecDepth 100000 in
set_option maxHeartbeats 4000000 in
theorem k_X5_turn (l : Launch) (hst0 : l.stackTraces = false) {σ : Mem} {k : Int} (hk0 : inR k) (hX : XC σ) (hz : 0 ≤ σ 15 1 ∧ σ 15 1 ≤ 6) (hS : IS σ) : CtXI l yX5_turn (Cond.code yX5_turn cX5_turn 2 (some .int)) 7 102 2 12 (fun z => [.ref (z + 0), .int (kI k)]) σ (isK k) (kat (tup (pus σ) k) k 0) (tup (pus σ) k) IOB := by
  intro D T z
  refine Cx_of (by decide) (Nat.le_of_ble_eq_true rfl) ?_
  intro p e s m below meth c ls hx hb hml hr hts hown hlk G hl hv htab
  have hown : s.vm.findClass RX5 = some m.cls := hown
  have hl : lv_has ls 2 [(0, .ref (z + 0)), (1, .int (kI k))] := hl
  refine lv_iload_n hx hb dX5_turn_0 rfl (lv_at hl 1 rfl) ?_
  refine r_need ⟨hx, hb, hml, hown, hts⟩ hst0 hlk htab G hv (k_X5_needKind l hst0 (k := k) (σ := σ) (⟨by omega, by omega⟩)) (kSx_X5_needKind hts qM_X5_38 ⟨Nat.le_of_ble_eq_true rfl, Nat.le_of_ble_eq_true rfl⟩) rfl rfl hl.1 rfl (Nat.le_of_ble_eq_true rfl) dX5_turn_1 ⟨Nat.le_of_ble_eq_true rfl, Nat.le_of_ble_eq_true rfl⟩ ⟨Nat.le_of_ble_eq_true rfl, Nat.le_of_ble_eq_true rfl⟩ rfl (fun h => ⟨h, rfl⟩) (fun hq_1 H locs G => ?_)
  have hK := hq_1
  refine lv_aload_n hx hb dX5_turn_4 rfl (lv_at hl 0 rfl) ?_
  refine gf_X5_19 hx hb hts hown G dX5_turn_5 ?_
  refine lv_aload_n hx hb dX5_turn_8 rfl (lv_at hl 0 rfl) ?_
  refine gf_X5_10 hx hb hts hown G dX5_turn_9 ?_
  refine r_callVV ⟨hx, hb, hml, hown, hts⟩ G (k_X4_push l (σ := σ) (hX) (hz)) (kV_X4_push hts qM_X5_42 ⟨Nat.le_of_ble_eq_true rfl, Nat.le_of_ble_eq_true rfl⟩) (rc_X4 G) rfl rfl hl.1 rfl (Nat.le_of_ble_eq_true rfl) dX5_turn_12 ⟨Nat.le_of_ble_eq_true rfl, Nat.le_of_ble_eq_true rfl⟩ (fun H locs G => ?_)
  refine lv_aload_n hx hb dX5_turn_15 rfl (lv_at hl 0 rfl) ?_
  refine gf_X5_10 hx hb hts hown G dX5_turn_16 ?_
  refine gf_X5_80 hx hb hts hown G dX5_turn_19 ?_
  refine lv_iload_n hx hb dX5_turn_22 rfl (lv_at hl 1 rfl) ?_
  refine r_callVV ⟨hx, hb, hml, hown, hts⟩ G (k_X3_turnPile l (k := k) (σ := pus σ) (⟨by omega, by omega⟩) ((IS.pus hX hz hS).1)) (kV_X3_turnPile hts qM_X5_84 ⟨Nat.le_of_ble_eq_true rfl, Nat.le_of_ble_eq_true rfl⟩) (rc_X3 G) rfl rfl hl.1 rfl (Nat.le_of_ble_eq_true rfl) dX5_turn_23 ⟨Nat.le_of_ble_eq_true rfl, Nat.le_of_ble_eq_true rfl⟩ (fun H locs G => ?_)
  refine lv_aload_n hx hb dX5_turn_26 rfl (lv_at hl 0 rfl) ?_
  refine gf_X5_10 hx hb hts hown G dX5_turn_27 ?_
  refine gf_X5_80 hx hb hts hown G dX5_turn_30 ?_
  refine lv_iload_n hx hb dX5_turn_33 rfl (lv_at hl 1 rfl) ?_
  refine r_iconst hx hb dX5_turn_34 ?_
  refine r_callVI ⟨hx, hb, hml, hown, hts⟩ G (k_X3_keyAt l (k := k) (q := 0) (σ := tup (pus σ) k) (⟨by omega, by omega⟩) (⟨by decide, by decide⟩) (IC_tup (IS.pus hX hz hS).1)) (kV_X3_keyAt hts qM_X5_89 ⟨Nat.le_of_ble_eq_true rfl, Nat.le_of_ble_eq_true rfl⟩) (rc_X3 G) rfl rfl hl.1 rfl (Nat.le_of_ble_eq_true rfl) dX5_turn_35 ⟨Nat.le_of_ble_eq_true rfl, Nat.le_of_ble_eq_true rfl⟩ (fun H locs G => ?_)
  exact r_iretx hx hb hr hlk G ⟨Nat.le_of_ble_eq_true rfl, Nat.le_of_ble_eq_true rfl⟩ (hK) (by first | rfl | omega) (by rfl) dX5_turn_38
set_option maxRecDepth 100000 in
set_option maxHeartbeats 4000000 in
theorem k_X5_follow (l : Launch) (hst0 : l.stackTraces = false) {σ : Mem} {k y q : Int} (hk0 : inR k) (hy0 : inR y) (hq0 : inR q) (hX : XC σ) (hz : 0 ≤ σ 15 1 ∧ σ 15 1 ≤ 6) (hS : IS σ) : CtXI l yX5_follow (Cond.code yX5_follow cX5_follow 4 (some .int)) 7 103 2 12 (fun z => [.ref (z + 0), .int (kI k), .int (kI y), .int (kI q)]) σ (isY k y ∧ 1 ≤ q) (jud (pus σ) k y q) (nfo (pus σ) (jud (pus σ) k y q)) (if isY k y then IAE else IOB) := by
  intro D T z
  refine Cx_of (by decide) (Nat.le_of_ble_eq_true rfl) ?_
  intro p e s m below meth c ls hx hb hml hr hts hown hlk G hl hv htab
  have hown : s.vm.findClass RX5 = some m.cls := hown
  have hl : lv_has ls 4 [(0, .ref (z + 0)), (1, .int (kI k)), (2, .int (kI y)), (3, .int (kI q))] := hl
  refine lv_iload_n hx hb dX5_follow_0 rfl (lv_at hl 1 rfl) ?_
  refine lv_iload_n hx hb dX5_follow_1 rfl (lv_at hl 2 rfl) ?_
  refine r_need ⟨hx, hb, hml, hown, hts⟩ hst0 hlk htab G hv (k_X5_needKey l hst0 (k := k) (y := y) (σ := σ) (⟨by omega, by omega⟩) (⟨by omega, by omega⟩)) (kSx_X5_needKey hts qM_X5_50 ⟨Nat.le_of_ble_eq_true rfl, Nat.le_of_ble_eq_true rfl⟩) rfl rfl hl.1 rfl (Nat.le_of_ble_eq_true rfl) dX5_follow_2 ⟨Nat.le_of_ble_eq_true rfl, Nat.le_of_ble_eq_true rfl⟩ ⟨Nat.le_of_ble_eq_true rfl, Nat.le_of_ble_eq_true rfl⟩ rfl (fun h => ⟨fun q => h q.1, (if_neg h).symm⟩) (fun hq_1 H locs G => ?_)
  have hK := hq_1
  refine lv_iload_n hx hb dX5_follow_5 rfl (lv_at hl 3 rfl) ?_
  refine r_iconst hx hb dX5_follow_6 ?_
  refine r_need ⟨hx, hb, hml, hown, hts⟩ hst0 hlk htab G hv (k_X5_needAtLeast l hst0 (v := q) (lo := 1) (σ := σ) (hq0) (⟨by decide, by decide⟩)) (kSx_X5_needAtLeast hts qM_X5_92 ⟨Nat.le_of_ble_eq_true rfl, Nat.le_of_ble_eq_true rfl⟩) rfl rfl hl.1 rfl (Nat.le_of_ble_eq_true rfl) dX5_follow_7 ⟨Nat.le_of_ble_eq_true rfl, Nat.le_of_ble_eq_true rfl⟩ ⟨Nat.le_of_ble_eq_true rfl, Nat.le_of_ble_eq_true rfl⟩ rfl (fun h => ⟨fun q => h q.2, (if_pos hK).symm⟩) (fun hq_2 H locs G => ?_)
  have hA := hq_2
  refine lv_aload_n hx hb dX5_follow_10 rfl (lv_at hl 0 rfl) ?_
  refine gf_X5_19 hx hb hts hown G dX5_follow_11 ?_
  refine lv_aload_n hx hb dX5_follow_14 rfl (lv_at hl 0 rfl) ?_
  refine gf_X5_10 hx hb hts hown G dX5_follow_15 ?_
  refine r_callVV ⟨hx, hb, hml, hown, hts⟩ G (k_X4_push l (σ := σ) (hX) (hz)) (kV_X4_push hts qM_X5_42 ⟨Nat.le_of_ble_eq_true rfl, Nat.le_of_ble_eq_true rfl⟩) (rc_X4 G) rfl rfl hl.1 rfl (Nat.le_of_ble_eq_true rfl) dX5_follow_18 ⟨Nat.le_of_ble_eq_true rfl, Nat.le_of_ble_eq_true rfl⟩ (fun H locs G => ?_)
  refine lv_aload_n hx hb dX5_follow_21 rfl (lv_at hl 0 rfl) ?_
  refine gf_X5_10 hx hb hts hown G dX5_follow_22 ?_
  refine lv_iload_n hx hb dX5_follow_25 rfl (lv_at hl 1 rfl) ?_
  refine lv_iload_n hx hb dX5_follow_26 rfl (lv_at hl 2 rfl) ?_
  refine lv_iload_n hx hb dX5_follow_27 rfl (lv_at hl 3 rfl) ?_
  refine r_callVI ⟨hx, hb, hml, hown, hts⟩ G (k_X1_followReference l (k := k) (y := y) (q := q) (σ := pus σ) (⟨by omega, by omega⟩) (⟨by omega, by omega⟩) (hq0) (IS.pus hX hz hS)) (kV_X1_followReference hts qM_X5_95 ⟨Nat.le_of_ble_eq_true rfl, Nat.le_of_ble_eq_true rfl⟩) (rc_X1 G) rfl rfl hl.1 rfl (Nat.le_of_ble_eq_true rfl) dX5_follow_28 ⟨Nat.le_of_ble_eq_true rfl, Nat.le_of_ble_eq_true rfl⟩ (fun H locs G => ?_)
  exact r_iretx hx hb hr hlk G ⟨Nat.le_of_ble_eq_true rfl, Nat.le_of_ble_eq_true rfl⟩ (⟨hK, hA⟩) (by first | rfl | omega) (by rfl) dX5_follow_31
set_option maxRecDepth 100000 in
set_option maxHeartbeats 4000000 in
theorem k_X5_pass (l : Launch) (hst0 : l.stackTraces = false) {σ : Mem} {d : Int} (hd0 : inR d) (hX : XC σ) (hz : 0 ≤ σ 15 1 ∧ σ 15 1 ≤ 6) (hS : IS σ) : CtXI l yX5_pass (Cond.code yX5_pass cX5_pass 2 (some .int)) 7 104 2 12 (fun z => [.ref (z + 0), .int (kI d)]) σ ((1 ≤ d ∧ d ≤ 99) ∧ d ≤ 9999 - σ 2 0) (hra (up (pus σ) 2 0 ((pus σ) 2 0 + d))) (up (pus σ) 2 0 ((pus σ) 2 0 + d)) (if 1 ≤ d ∧ d ≤ 99 then ISE else IAE) := by
  intro D T z
  refine Cx_of (by decide) (Nat.le_of_ble_eq_true rfl) ?_
  intro p e s m below meth c ls hx hb hml hr hts hown hlk G hl hv htab
  have hown : s.vm.findClass RX5 = some m.cls := hown
  have hl : lv_has ls 2 [(0, .ref (z + 0)), (1, .int (kI d))] := hl
  have hd := hS.1.1
  have e2 : pus σ 2 = σ 2 := pus_o hX hz (by decide)
  refine lv_iload_n hx hb dX5_pass_0 rfl (lv_at hl 1 rfl) ?_
  refine r_iconst hx hb dX5_pass_1 ?_
  refine r_bipush hx hb dX5_pass_2 (by decide +kernel) ?_
  refine r_need ⟨hx, hb, hml, hown, hts⟩ hst0 hlk htab G hv (k_X5_needRange l hst0 (v := d) (lo := 1) (hi := 99) (σ := σ) (⟨by omega, by omega⟩) (⟨by decide, by decide⟩) (⟨by decide, by decide⟩)) (kSx_X5_needRange hts qM_X5_99 ⟨Nat.le_of_ble_eq_true rfl, Nat.le_of_ble_eq_true rfl⟩) rfl rfl hl.1 rfl (Nat.le_of_ble_eq_true rfl) dX5_pass_4 ⟨Nat.le_of_ble_eq_true rfl, Nat.le_of_ble_eq_true rfl⟩ ⟨Nat.le_of_ble_eq_true rfl, Nat.le_of_ble_eq_true rfl⟩ rfl (fun h => ⟨fun q => h q.1, (if_neg h).symm⟩) (fun hq_1 H locs G => ?_)
  have hK := hq_1
  refine lv_aload_n hx hb dX5_pass_7 rfl (lv_at hl 0 rfl) ?_
  refine gf_X5_10 hx hb hts hown G dX5_pass_8 ?_
  refine gf_X5_80 hx hb hts hown G dX5_pass_11 ?_
  refine lv_iload_n hx hb dX5_pass_14 rfl (lv_at hl 1 rfl) ?_
  refine r_callVI ⟨hx, hb, hml, hown, hts⟩ G (k_X3_canPass l (q := d) (σ := σ) (⟨by omega, by omega⟩) (hS.1)) (kV_X3_canPass hts qM_X5_103 ⟨Nat.le_of_ble_eq_true rfl, Nat.le_of_ble_eq_true rfl⟩) (rc_X3 G) rfl rfl hl.1 rfl (Nat.le_of_ble_eq_true rfl) dX5_pass_15 ⟨Nat.le_of_ble_eq_true rfl, Nat.le_of_ble_eq_true rfl⟩ (fun H locs G => ?_)
  refine r_zne (tgt := 31) hx hb dX5_pass_18 (by decide) (fun h_2 => ?_) (fun h_2 => ?_)
  · skip
    have hA := h_2
    refine lv_aload_n hx hb dX5_pass_31 rfl (lv_at hl 0 rfl) ?_
    refine gf_X5_19 hx hb hts hown G dX5_pass_32 ?_
    refine lv_aload_n hx hb dX5_pass_35 rfl (lv_at hl 0 rfl) ?_
    refine gf_X5_10 hx hb hts hown G dX5_pass_36 ?_
    refine r_callVV ⟨hx, hb, hml, hown, hts⟩ G (k_X4_push l (σ := σ) (hX) (hz)) (kV_X4_push hts qM_X5_42 ⟨Nat.le_of_ble_eq_true rfl, Nat.le_of_ble_eq_true rfl⟩) (rc_X4 G) rfl rfl hl.1 rfl (Nat.le_of_ble_eq_true rfl) dX5_pass_39 ⟨Nat.le_of_ble_eq_true rfl, Nat.le_of_ble_eq_true rfl⟩ (fun H locs G => ?_)
    refine lv_aload_n hx hb dX5_pass_42 rfl (lv_at hl 0 rfl) ?_
    refine gf_X5_10 hx hb hts hown G dX5_pass_43 ?_
    refine gf_X5_80 hx hb hts hown G dX5_pass_46 ?_
    refine lv_iload_n hx hb dX5_pass_49 rfl (lv_at hl 1 rfl) ?_
    refine r_callVV ⟨hx, hb, hml, hown, hts⟩ G (k_X3_letPass l (q := d) (σ := pus σ) ) (kV_X3_letPass hts qM_X5_109 ⟨Nat.le_of_ble_eq_true rfl, Nat.le_of_ble_eq_true rfl⟩) (rc_X3 G) rfl rfl hl.1 rfl (Nat.le_of_ble_eq_true rfl) dX5_pass_50 ⟨Nat.le_of_ble_eq_true rfl, Nat.le_of_ble_eq_true rfl⟩ (fun H locs G => ?_)
    refine lv_aload_n hx hb dX5_pass_53 rfl (lv_at hl 0 rfl) ?_
    refine gf_X5_10 hx hb hts hown G dX5_pass_54 ?_
    refine gf_X5_80 hx hb hts hown G dX5_pass_57 ?_
    refine r_callVI ⟨hx, hb, hml, hown, hts⟩ G (k_X3_howManyRipeOfAll l (σ := up (pus σ) 2 0 ((pus σ) 2 0 + d)) ((IS.pus hX hz hS).1.day (by omega) (by rw [e2]; omega))) (kV_X3_howManyRipeOfAll hts qM_X5_112 ⟨Nat.le_of_ble_eq_true rfl, Nat.le_of_ble_eq_true rfl⟩) (rc_X3 G) rfl rfl hl.1 rfl (Nat.le_of_ble_eq_true rfl) dX5_pass_60 ⟨Nat.le_of_ble_eq_true rfl, Nat.le_of_ble_eq_true rfl⟩ (fun H locs G => ?_)
    exact r_iretx hx hb hr hlk G ⟨Nat.le_of_ble_eq_true rfl, Nat.le_of_ble_eq_true rfl⟩ (⟨hK, hA⟩) (by first | rfl | omega) (by rfl) dX5_pass_63
  · skip
    have hA := h_2
    exact r_throw ⟨hx, hb, hml, hown, hts⟩ hst0 hl.1 hlk htab G hv (by decide +kernel) qK_X5_62 qN_IllegalStateException (is := 107) (text := "the last day is 9999") (by decide) at_ISE nb_ISE gd_ISE dX5_pass_21 dX5_pass_24 dX5_pass_25 dX5_pass_27 dX5_pass_30 ⟨Nat.le_of_ble_eq_true rfl, Nat.le_of_ble_eq_true rfl⟩ ⟨Nat.le_of_ble_eq_true rfl, Nat.le_of_ble_eq_true rfl⟩ ⟨Nat.le_of_ble_eq_true rfl, Nat.le_of_ble_eq_true rfl⟩ (fun q => hA q.2) ((if_pos hK).symm) (rfl)
set_option maxRecDepth 100000 in
set_option maxHeartbeats 4000000 in
theorem k_X5_season (l : Launch) (hst0 : l.stackTraces = false) {σ : Mem} {k d : Int} (hk0 : inR k) (hd0 : inR d) (hX : XC σ) (hz : 0 ≤ σ 15 1 ∧ σ 15 1 ≤ 6) (hS : IS σ) : CtXI l yX5_season (Cond.code yX5_season cX5_season 4 (some .int)) 7 104 2 12 (fun z => [.ref (z + 0), .int (kI k), .int (kI d)]) σ (isK k ∧ 0 ≤ d ∧ d ≤ 99) ((pus σ) 3 k) (up (pus σ) 3 k d) (if isK k then IAE else IOB) := by
  intro D T z
  refine Cx_of (by decide) (Nat.le_of_ble_eq_true rfl) ?_
  intro p e s m below meth c ls hx hb hml hr hts hown hlk G hl hv htab
  have hown : s.vm.findClass RX5 = some m.cls := hown
  have hl : lv_has ls 4 [(0, .ref (z + 0)), (1, .int (kI k)), (2, .int (kI d))] := hl
  refine lv_iload_n hx hb dX5_season_0 rfl (lv_at hl 1 rfl) ?_
  refine r_need ⟨hx, hb, hml, hown, hts⟩ hst0 hlk htab G hv (k_X5_needKind l hst0 (k := k) (σ := σ) (⟨by omega, by omega⟩)) (kSx_X5_needKind hts qM_X5_38 ⟨Nat.le_of_ble_eq_true rfl, Nat.le_of_ble_eq_true rfl⟩) rfl rfl hl.1 rfl (Nat.le_of_ble_eq_true rfl) dX5_season_1 ⟨Nat.le_of_ble_eq_true rfl, Nat.le_of_ble_eq_true rfl⟩ ⟨Nat.le_of_ble_eq_true rfl, Nat.le_of_ble_eq_true rfl⟩ rfl (fun h => ⟨fun q => h q.1, (if_neg h).symm⟩) (fun hq_1 H locs G => ?_)
  have hK := hq_1
  refine lv_iload_n hx hb dX5_season_4 rfl (lv_at hl 2 rfl) ?_
  refine r_iconst hx hb dX5_season_5 ?_
  refine r_bipush hx hb dX5_season_6 (by decide +kernel) ?_
  refine r_need ⟨hx, hb, hml, hown, hts⟩ hst0 hlk htab G hv (k_X5_needRange l hst0 (v := d) (lo := 0) (hi := 99) (σ := σ) (⟨by omega, by omega⟩) (⟨by decide, by decide⟩) (⟨by decide, by decide⟩)) (kSx_X5_needRange hts qM_X5_99 ⟨Nat.le_of_ble_eq_true rfl, Nat.le_of_ble_eq_true rfl⟩) rfl rfl hl.1 rfl (Nat.le_of_ble_eq_true rfl) dX5_season_8 ⟨Nat.le_of_ble_eq_true rfl, Nat.le_of_ble_eq_true rfl⟩ ⟨Nat.le_of_ble_eq_true rfl, Nat.le_of_ble_eq_true rfl⟩ rfl (fun h => ⟨fun q => h q.2, (if_pos hK).symm⟩) (fun hq_2 H locs G => ?_)
  have hA := hq_2
  refine lv_aload_n hx hb dX5_season_11 rfl (lv_at hl 0 rfl) ?_
  refine gf_X5_19 hx hb hts hown G dX5_season_12 ?_
  refine lv_aload_n hx hb dX5_season_15 rfl (lv_at hl 0 rfl) ?_
  refine gf_X5_10 hx hb hts hown G dX5_season_16 ?_
  refine r_callVV ⟨hx, hb, hml, hown, hts⟩ G (k_X4_push l (σ := σ) (hX) (hz)) (kV_X4_push hts qM_X5_42 ⟨Nat.le_of_ble_eq_true rfl, Nat.le_of_ble_eq_true rfl⟩) (rc_X4 G) rfl rfl hl.1 rfl (Nat.le_of_ble_eq_true rfl) dX5_season_19 ⟨Nat.le_of_ble_eq_true rfl, Nat.le_of_ble_eq_true rfl⟩ (fun H locs G => ?_)
  refine lv_aload_n hx hb dX5_season_22 rfl (lv_at hl 0 rfl) ?_
  refine gf_X5_10 hx hb hts hown G dX5_season_23 ?_
  refine gf_X5_80 hx hb hts hown G dX5_season_26 ?_
  refine gf_X5_116 hx hb hts hown G dX5_season_29 ?_
  refine lv_iload_n hx hb dX5_season_32 rfl (lv_at hl 1 rfl) ?_
  refine r_iald hx hb G 3 (by decide) (N := 4) (fun _ => rfl) (by omega) (by omega) (by decide) dX5_season_33 ?_
  refine lv_istore_n (lv' := [(3, .int (kI ((pus σ) 3 k))), (0, .ref (z + 0)), (1, .int (kI k)), (2, .int (kI d))]) hx hb dX5_season_34 rfl hl (by decide) rfl (fun ls hl => ?_)
  refine lv_aload_n hx hb dX5_season_35 rfl (lv_at hl 1 rfl) ?_
  refine gf_X5_10 hx hb hts hown G dX5_season_36 ?_
  refine gf_X5_80 hx hb hts hown G dX5_season_39 ?_
  refine gf_X5_116 hx hb hts hown G dX5_season_42 ?_
  refine lv_iload_n hx hb dX5_season_45 rfl (lv_at hl 2 rfl) ?_
  refine lv_iload_n hx hb dX5_season_46 rfl (lv_at hl 3 rfl) ?_
  refine r_iast hx hb G 3 (by decide) (N := 4) (fun _ => rfl) (by omega) (by omega) (by decide) dX5_season_47 (fun H locs G => ?_)
  refine lv_iload_n hx hb dX5_season_48 rfl (lv_at hl 0 rfl) ?_
  exact r_iretx hx hb hr hlk G ⟨Nat.le_of_ble_eq_true rfl, Nat.le_of_ble_eq_true rfl⟩ (⟨hK, hA⟩) (by first | rfl | omega) (by rfl) dX5_season_49
set_option maxRecDepth 100000 in
set_option maxHeartbeats 4000000 in
theorem k_X5_set (l : Launch) (hst0 : l.stackTraces = false) {σ : Mem} {k d : Int} (hk0 : inR k) (hd0 : inR d) (hX : XC σ) (hz : 0 ≤ σ 15 1 ∧ σ 15 1 ≤ 6) (hS : IS σ) : CtXI l yX5_set (Cond.code yX5_set cX5_set 4 (some .int)) 7 104 2 12 (fun z => [.ref (z + 0), .int (kI k), .int (kI d)]) σ ((0 ≤ k ∧ k ≤ 2) ∧ (if k = 1 then 1 else 0) ≤ d ∧ d ≤ (if k = 0 then 3 else if k = 1 then 9 else 20)) ((pus σ) 14 k) (up (pus σ) 14 k d) (if 0 ≤ k ∧ k ≤ 2 then IAE else IOB) := by
  intro D T z
  refine Cx_of (by decide) (Nat.le_of_ble_eq_true rfl) ?_
  intro p e s m below meth c ls hx hb hml hr hts hown hlk G hl hv htab
  have hown : s.vm.findClass RX5 = some m.cls := hown
  have hl : lv_has ls 4 [(0, .ref (z + 0)), (1, .int (kI k)), (2, .int (kI d))] := hl
  refine lv_iload_n hx hb dX5_set_0 rfl (lv_at hl 1 rfl) ?_
  refine r_need ⟨hx, hb, hml, hown, hts⟩ hst0 hlk htab G hv (k_X5_needSetting l hst0 (k := k) (σ := σ) (⟨by omega, by omega⟩)) (kSx_X5_needSetting hts qM_X5_120 ⟨Nat.le_of_ble_eq_true rfl, Nat.le_of_ble_eq_true rfl⟩) rfl rfl hl.1 rfl (Nat.le_of_ble_eq_true rfl) dX5_set_1 ⟨Nat.le_of_ble_eq_true rfl, Nat.le_of_ble_eq_true rfl⟩ ⟨Nat.le_of_ble_eq_true rfl, Nat.le_of_ble_eq_true rfl⟩ rfl (fun h => ⟨fun q => h q.1, (if_neg h).symm⟩) (fun hq_1 H locs G => ?_)
  have hK := hq_1
  refine lv_iload_n hx hb dX5_set_4 rfl (lv_at hl 2 rfl) ?_
  obtain ⟨t1, hz1, ht1⟩ := G.2.2.2.1.2.2.2.1
  refine va_gets hx hb hz1 G.2.2.1 hown (hts _ qF_X5_123) (fun _ h => h) dX5_set_5 ?_
  refine lv_iload_n hx hb dX5_set_8 rfl (lv_at hl 1 rfl) ?_
  refine va_ti hx hb ht1 G.2.2.1 (kI_in (n := 3) (by omega) (by omega) (by decide)) rfl dX5_set_9 ?_
  refine r_top (b := if k = 1 then 1 else 0) (sLeast_k hK) ?_
  obtain ⟨t2, hz2, ht2⟩ := G.2.2.2.1.2.2.2.2
  refine va_gets hx hb hz2 G.2.2.1 hown (hts _ qF_X5_126) (fun _ h => h) dX5_set_10 ?_
  refine lv_iload_n hx hb dX5_set_13 rfl (lv_at hl 1 rfl) ?_
  refine va_ti hx hb ht2 G.2.2.1 (kI_in (n := 3) (by omega) (by omega) (by decide)) rfl dX5_set_14 ?_
  refine r_top (b := if k = 0 then 3 else if k = 1 then 9 else 20) (sMost_k hK) ?_
  refine r_need ⟨hx, hb, hml, hown, hts⟩ hst0 hlk htab G hv (k_X5_needRange l hst0 (v := d) (lo := if k = 1 then 1 else 0) (hi := if k = 0 then 3 else if k = 1 then 9 else 20) (σ := σ) (⟨by omega, by omega⟩) (by split <;> exact ⟨by decide, by decide⟩) (by (repeat' split) <;> exact ⟨by decide, by decide⟩)) (kSx_X5_needRange hts qM_X5_99 ⟨Nat.le_of_ble_eq_true rfl, Nat.le_of_ble_eq_true rfl⟩) rfl rfl hl.1 rfl (Nat.le_of_ble_eq_true rfl) dX5_set_15 ⟨Nat.le_of_ble_eq_true rfl, Nat.le_of_ble_eq_true rfl⟩ ⟨Nat.le_of_ble_eq_true rfl, Nat.le_of_ble_eq_true rfl⟩ rfl (fun h => ⟨fun q => h q.2, (if_pos hK).symm⟩) (fun hq_2 H locs G => ?_)
  have hA := hq_2
  refine lv_aload_n hx hb dX5_set_18 rfl (lv_at hl 0 rfl) ?_
  refine gf_X5_19 hx hb hts hown G dX5_set_19 ?_
  refine lv_aload_n hx hb dX5_set_22 rfl (lv_at hl 0 rfl) ?_
  refine gf_X5_10 hx hb hts hown G dX5_set_23 ?_
  refine r_callVV ⟨hx, hb, hml, hown, hts⟩ G (k_X4_push l (σ := σ) (hX) (hz)) (kV_X4_push hts qM_X5_42 ⟨Nat.le_of_ble_eq_true rfl, Nat.le_of_ble_eq_true rfl⟩) (rc_X4 G) rfl rfl hl.1 rfl (Nat.le_of_ble_eq_true rfl) dX5_set_26 ⟨Nat.le_of_ble_eq_true rfl, Nat.le_of_ble_eq_true rfl⟩ (fun H locs G => ?_)
  refine lv_aload_n hx hb dX5_set_29 rfl (lv_at hl 0 rfl) ?_
  refine gf_X5_10 hx hb hts hown G dX5_set_30 ?_
  refine gf_X5_129 hx hb hts hown G dX5_set_33 ?_
  refine lv_iload_n hx hb dX5_set_36 rfl (lv_at hl 1 rfl) ?_
  refine r_iald hx hb G 14 (by decide) (N := 3) (fun _ => rfl) (by omega) (by omega) (by decide) dX5_set_37 ?_
  refine lv_istore_n (lv' := [(3, .int (kI ((pus σ) 14 k))), (0, .ref (z + 0)), (1, .int (kI k)), (2, .int (kI d))]) hx hb dX5_set_38 rfl hl (by decide) rfl (fun ls hl => ?_)
  refine lv_aload_n hx hb dX5_set_39 rfl (lv_at hl 1 rfl) ?_
  refine gf_X5_10 hx hb hts hown G dX5_set_40 ?_
  refine gf_X5_129 hx hb hts hown G dX5_set_43 ?_
  refine lv_iload_n hx hb dX5_set_46 rfl (lv_at hl 2 rfl) ?_
  refine lv_iload_n hx hb dX5_set_47 rfl (lv_at hl 3 rfl) ?_
  refine r_iast hx hb G 14 (by decide) (N := 3) (fun _ => rfl) (by omega) (by omega) (by decide) dX5_set_48 (fun H locs G => ?_)
  refine lv_iload_n hx hb dX5_set_49 rfl (lv_at hl 0 rfl) ?_
  exact r_iretx hx hb hr hlk G ⟨Nat.le_of_ble_eq_true rfl, Nat.le_of_ble_eq_true rfl⟩ (⟨hK, hA⟩) (by first | rfl | omega) (by rfl) dX5_set_50
set_option maxRecDepth 100000 in
set_option maxHeartbeats 4000000 in
theorem k_X5_append (l : Launch) (hst0 : l.stackTraces = false) {σ : Mem} {v : Int} (hv0 : inR v) (hT : IT σ) : CtXI l yX5_append (Cond.code yX5_append cX5_append 2 (some .int)) 7 104 2 12 (fun z => [.ref (z + 0), .int (kI v)]) σ ((33 ≤ v ∧ v ≤ 126) ∧ ¬ 60 ≤ σ 131 1) (σ 131 1 + 1) (up (up σ 132 (σ 131 1) v) 131 1 (σ 131 1 + 1)) (if 33 ≤ v ∧ v ≤ 126 then ISE else IAE) := by
  intro D T z
  refine Cx_of (by decide) (Nat.le_of_ble_eq_true rfl) ?_
  intro p e s m below meth c ls hx hb hml hr hts hown hlk G hl hv htab
  have hown : s.vm.findClass RX5 = some m.cls := hown
  have hl : lv_has ls 2 [(0, .ref (z + 0)), (1, .int (kI v))] := hl
  refine lv_iload_n hx hb dX5_append_0 rfl (lv_at hl 1 rfl) ?_
  refine r_bipush hx hb dX5_append_1 (by decide +kernel) ?_
  refine r_bipush hx hb dX5_append_3 (by decide +kernel) ?_
  refine r_need ⟨hx, hb, hml, hown, hts⟩ hst0 hlk htab G hv (k_X5_needRange l hst0 (v := v) (lo := 33) (hi := 126) (σ := σ) (⟨by omega, by omega⟩) (⟨by decide, by decide⟩) (⟨by decide, by decide⟩)) (kSx_X5_needRange hts qM_X5_99 ⟨Nat.le_of_ble_eq_true rfl, Nat.le_of_ble_eq_true rfl⟩) rfl rfl hl.1 rfl (Nat.le_of_ble_eq_true rfl) dX5_append_5 ⟨Nat.le_of_ble_eq_true rfl, Nat.le_of_ble_eq_true rfl⟩ ⟨Nat.le_of_ble_eq_true rfl, Nat.le_of_ble_eq_true rfl⟩ rfl (fun h => ⟨fun q => h q.1, (if_neg h).symm⟩) (fun hq_1 H locs G => ?_)
  have hK := hq_1
  refine lv_aload_n hx hb dX5_append_8 rfl (lv_at hl 0 rfl) ?_
  refine gf_X5_34 hx hb hts hown G dX5_append_9 ?_
  refine r_callVI ⟨hx, hb, hml, hown, hts⟩ G (k_X2_isFull l (σ := σ) (hT)) (kV_X2_isFull hts qM_X5_132 ⟨Nat.le_of_ble_eq_true rfl, Nat.le_of_ble_eq_true rfl⟩) (rc_X2 G) rfl rfl hl.1 rfl (Nat.le_of_ble_eq_true rfl) dX5_append_12 ⟨Nat.le_of_ble_eq_true rfl, Nat.le_of_ble_eq_true rfl⟩ (fun H locs G => ?_)
  refine r_zeq (tgt := 28) hx hb dX5_append_15 (by decide) (fun h_2 => ?_) (fun h_2 => ?_)
  · skip
    have hA := h_2
    refine lv_aload_n hx hb dX5_append_28 rfl (lv_at hl 0 rfl) ?_
    refine gf_X5_34 hx hb hts hown G dX5_append_29 ?_
    refine lv_iload_n hx hb dX5_append_32 rfl (lv_at hl 1 rfl) ?_
    refine r_callVV ⟨hx, hb, hml, hown, hts⟩ G (k_X2_add l (v := v) (σ := σ) (hT)) (kV_X2_add hts qM_X5_138 ⟨Nat.le_of_ble_eq_true rfl, Nat.le_of_ble_eq_true rfl⟩) (rc_X2 G) rfl rfl hl.1 rfl (Nat.le_of_ble_eq_true rfl) dX5_append_33 ⟨Nat.le_of_ble_eq_true rfl, Nat.le_of_ble_eq_true rfl⟩ (fun H locs G => ?_)
    have G := G.cong (τ := up (up σ 132 (σ 131 1) v) 131 1 (σ 131 1 + 1)) (by rw [if_neg hA])
    refine lv_aload_n hx hb dX5_append_36 rfl (lv_at hl 0 rfl) ?_
    refine gf_X5_34 hx hb hts hown G dX5_append_37 ?_
    refine gf_X5_141 hx hb hts hown G dX5_append_40 ?_
    refine r_top (b := σ 131 1 + 1) (by simp [up_ap]) ?_
    exact r_iretx hx hb hr hlk G ⟨Nat.le_of_ble_eq_true rfl, Nat.le_of_ble_eq_true rfl⟩ (⟨hK, hA⟩) (by first | rfl | omega) (by rfl) dX5_append_43
  · skip
    have hA := h_2
    exact r_throw ⟨hx, hb, hml, hown, hts⟩ hst0 hl.1 hlk htab G hv (by decide +kernel) qK_X5_62 qN_IllegalStateException (is := 136) (text := "the buffer is full") (by decide) at_ISE nb_ISE gd_ISE dX5_append_18 dX5_append_21 dX5_append_22 dX5_append_24 dX5_append_27 ⟨Nat.le_of_ble_eq_true rfl, Nat.le_of_ble_eq_true rfl⟩ ⟨Nat.le_of_ble_eq_true rfl, Nat.le_of_ble_eq_true rfl⟩ ⟨Nat.le_of_ble_eq_true rfl, Nat.le_of_ble_eq_true rfl⟩ (fun q => q.2 hA) ((if_pos hK).symm) (rfl)
theorem csp_2 {σ : Mem} {i : Int} (h0 : 0 ≤ i) (h1 : i < 2) {c : Nat} (h : c < 102) : csp σ 1 (102 + 14 * i.toNat) c = σ c := csp_o (by omega)
set_option maxRecDepth 100000 in
set_option maxHeartbeats 4000000 in
theorem k_X5_keep (l : Launch) (hst0 : l.stackTraces = false) {σ : Mem} {q : Int} (hq0 : inR q) : CtXI l yX5_keep (Cond.code yX5_keep cX5_keep 2 (some .int)) 7 104 2 12 (fun z => [.ref (z + 0), .int (kI q)]) σ (0 ≤ q ∧ q ≤ 1) (σ 2 0) (up (csp σ 1 (102 + 14 * q.toNat)) 130 q 1) IAE := by
  intro D T z
  refine Cx_of (by decide) (Nat.le_of_ble_eq_true rfl) ?_
  intro p e s m below meth c ls hx hb hml hr hts hown hlk G hl hv htab
  have hown : s.vm.findClass RX5 = some m.cls := hown
  have hl : lv_has ls 2 [(0, .ref (z + 0)), (1, .int (kI q))] := hl
  refine lv_iload_n hx hb dX5_keep_0 rfl (lv_at hl 1 rfl) ?_
  refine r_iconst hx hb dX5_keep_1 ?_
  refine r_iconst hx hb dX5_keep_2 ?_
  refine r_need ⟨hx, hb, hml, hown, hts⟩ hst0 hlk htab G hv (k_X5_needRange l hst0 (v := q) (lo := 0) (hi := 1) (σ := σ) (⟨by omega, by omega⟩) (⟨by decide, by decide⟩) (⟨by decide, by decide⟩)) (kSx_X5_needRange hts qM_X5_99 ⟨Nat.le_of_ble_eq_true rfl, Nat.le_of_ble_eq_true rfl⟩) rfl rfl hl.1 rfl (Nat.le_of_ble_eq_true rfl) dX5_keep_3 ⟨Nat.le_of_ble_eq_true rfl, Nat.le_of_ble_eq_true rfl⟩ ⟨Nat.le_of_ble_eq_true rfl, Nat.le_of_ble_eq_true rfl⟩ rfl (fun h => ⟨h, rfl⟩) (fun hq_1 H locs G => ?_)
  have hK := hq_1
  refine lv_aload_n hx hb dX5_keep_6 rfl (lv_at hl 0 rfl) ?_
  refine gf_X5_10 hx hb hts hown G dX5_keep_7 ?_
  refine lv_aload_n hx hb dX5_keep_10 rfl (lv_at hl 0 rfl) ?_
  refine gf_X5_23 hx hb hts hown G dX5_keep_11 ?_
  refine lv_iload_n hx hb dX5_keep_14 rfl (lv_at hl 1 rfl) ?_
  refine r_yald hx hb G (by omega) (by omega) dX5_keep_15 ?_
  refine r_callSV ⟨hx, hb, hml, hown, hts⟩ G (k_X1_copyState l (f := 1) (t := (102 + 14 * (q).toNat)) (σ := σ) (isB_1) (isB_y (i := q) (by omega) (by omega))) (kS_X1_copyState hts qM_X5_162 ⟨Nat.le_of_ble_eq_true rfl, Nat.le_of_ble_eq_true rfl⟩) rfl rfl hl.1 rfl (Nat.le_of_ble_eq_true rfl) dX5_keep_16 ⟨Nat.le_of_ble_eq_true rfl, Nat.le_of_ble_eq_true rfl⟩ (fun H locs G => ?_)
  refine lv_aload_n hx hb dX5_keep_19 rfl (lv_at hl 0 rfl) ?_
  refine gf_X5_27 hx hb hts hown G dX5_keep_20 ?_
  refine lv_iload_n hx hb dX5_keep_23 rfl (lv_at hl 1 rfl) ?_
  refine r_iconst hx hb dX5_keep_24 ?_
  refine r_zast hx hb G 130 (by decide) (N := 2) (fun _ => rfl) (by omega) (by omega) (by omega) (by decide) dX5_keep_25 (fun H locs G => ?_)
  refine lv_aload_n hx hb dX5_keep_26 rfl (lv_at hl 0 rfl) ?_
  refine gf_X5_10 hx hb hts hown G dX5_keep_27 ?_
  refine gf_X5_80 hx hb hts hown G dX5_keep_30 ?_
  refine gf_X5_166 hx hb hts hown G dX5_keep_33 ?_
  refine r_top (b := σ 2 0) (by rw [up_o (by decide), csp_2 (by omega) (by omega) (by decide)]) ?_
  exact r_iretx hx hb hr hlk G ⟨Nat.le_of_ble_eq_true rfl, Nat.le_of_ble_eq_true rfl⟩ (hK) (by first | rfl | omega) (by rfl) dX5_keep_36
set_option maxRecDepth 100000 in
set_option maxHeartbeats 4000000 in
theorem k_X5_goBack (l : Launch) (hst0 : l.stackTraces = false) {σ : Mem} {q : Int} (hq0 : inR q) (hKc : ∀ q, 0 ≤ q → q ≤ 1 → σ 130 q = 0 ∨ σ 130 q = 1) (hX : XC σ) (hz : 0 ≤ σ 15 1 ∧ σ 15 1 ≤ 6) (hS : IS σ) : CtXI l yX5_goBack (Cond.code yX5_goBack cX5_goBack 2 (some .int)) 7 104 2 12 (fun z => [.ref (z + 0), .int (kI q)]) σ ((0 ≤ q ∧ q ≤ 1) ∧ σ 130 q = 1) ((pus σ) (102 + 14 * q.toNat + 1) 0) (csp (pus σ) (102 + 14 * q.toNat) 1) (if 0 ≤ q ∧ q ≤ 1 then ISE else IAE) := by
  intro D T z
  refine Cx_of (by decide) (Nat.le_of_ble_eq_true rfl) ?_
  intro p e s m below meth c ls hx hb hml hr hts hown hlk G hl hv htab
  have hown : s.vm.findClass RX5 = some m.cls := hown
  have hl : lv_has ls 2 [(0, .ref (z + 0)), (1, .int (kI q))] := hl
  refine lv_iload_n hx hb dX5_goBack_0 rfl (lv_at hl 1 rfl) ?_
  refine r_iconst hx hb dX5_goBack_1 ?_
  refine r_iconst hx hb dX5_goBack_2 ?_
  refine r_need ⟨hx, hb, hml, hown, hts⟩ hst0 hlk htab G hv (k_X5_needRange l hst0 (v := q) (lo := 0) (hi := 1) (σ := σ) (⟨by omega, by omega⟩) (⟨by decide, by decide⟩) (⟨by decide, by decide⟩)) (kSx_X5_needRange hts qM_X5_99 ⟨Nat.le_of_ble_eq_true rfl, Nat.le_of_ble_eq_true rfl⟩) rfl rfl hl.1 rfl (Nat.le_of_ble_eq_true rfl) dX5_goBack_3 ⟨Nat.le_of_ble_eq_true rfl, Nat.le_of_ble_eq_true rfl⟩ ⟨Nat.le_of_ble_eq_true rfl, Nat.le_of_ble_eq_true rfl⟩ rfl (fun h => ⟨fun q => h q.1, (if_neg h).symm⟩) (fun hq_1 H locs G => ?_)
  have hK := hq_1
  refine lv_aload_n hx hb dX5_goBack_6 rfl (lv_at hl 0 rfl) ?_
  refine gf_X5_27 hx hb hts hown G dX5_goBack_7 ?_
  refine lv_iload_n hx hb dX5_goBack_10 rfl (lv_at hl 1 rfl) ?_
  have hkk := hKc q (by omega) (by omega)
  refine r_zald hx hb G 130 (by decide) (N := 2) (fun _ => rfl) (by omega) (by omega) (by decide) dX5_goBack_11 ?_
  refine r_if_ne (tgt := 25) hx hb ⟨by omega, by omega⟩ dX5_goBack_12 (by decide) (fun h_2 => ?_) (fun h_2 => ?_)
  · skip
    refine lv_aload_n hx hb dX5_goBack_25 rfl (lv_at hl 0 rfl) ?_
    refine gf_X5_19 hx hb hts hown G dX5_goBack_26 ?_
    refine lv_aload_n hx hb dX5_goBack_29 rfl (lv_at hl 0 rfl) ?_
    refine gf_X5_10 hx hb hts hown G dX5_goBack_30 ?_
    refine r_callVV ⟨hx, hb, hml, hown, hts⟩ G (k_X4_push l (σ := σ) (hX) (hz)) (kV_X4_push hts qM_X5_42 ⟨Nat.le_of_ble_eq_true rfl, Nat.le_of_ble_eq_true rfl⟩) (rc_X4 G) rfl rfl hl.1 rfl (Nat.le_of_ble_eq_true rfl) dX5_goBack_33 ⟨Nat.le_of_ble_eq_true rfl, Nat.le_of_ble_eq_true rfl⟩ (fun H locs G => ?_)
    refine lv_aload_n hx hb dX5_goBack_36 rfl (lv_at hl 0 rfl) ?_
    refine gf_X5_23 hx hb hts hown G dX5_goBack_37 ?_
    refine lv_iload_n hx hb dX5_goBack_40 rfl (lv_at hl 1 rfl) ?_
    refine r_yald hx hb G (by omega) (by omega) dX5_goBack_41 ?_
    refine lv_aload_n hx hb dX5_goBack_42 rfl (lv_at hl 0 rfl) ?_
    refine gf_X5_10 hx hb hts hown G dX5_goBack_43 ?_
    refine r_callSV ⟨hx, hb, hml, hown, hts⟩ G (k_X1_copyState l (f := (102 + 14 * (q).toNat)) (t := 1) (σ := pus σ) (isB_y (i := q) (by omega) (by omega)) (isB_1)) (kS_X1_copyState hts qM_X5_162 ⟨Nat.le_of_ble_eq_true rfl, Nat.le_of_ble_eq_true rfl⟩) rfl rfl hl.1 rfl (Nat.le_of_ble_eq_true rfl) dX5_goBack_46 ⟨Nat.le_of_ble_eq_true rfl, Nat.le_of_ble_eq_true rfl⟩ (fun H locs G => ?_)
    refine lv_aload_n hx hb dX5_goBack_49 rfl (lv_at hl 0 rfl) ?_
    refine gf_X5_10 hx hb hts hown G dX5_goBack_50 ?_
    refine gf_X5_80 hx hb hts hown G dX5_goBack_53 ?_
    refine gf_X5_166 hx hb hts hown G dX5_goBack_56 ?_
    refine r_top (b := (pus σ) (102 + 14 * q.toNat + 1) 0) (by exact csp_t (f := 102 + 14 * q.toNat) (t := 1) (k := 1) (j := 0) (Or.inr (by omega)) (Or.inl ⟨rfl, rfl⟩)) ?_
    exact r_iretx hx hb hr hlk G ⟨Nat.le_of_ble_eq_true rfl, Nat.le_of_ble_eq_true rfl⟩ (⟨hK, by omega⟩) (by first | rfl | omega) (by rfl) dX5_goBack_59
  · skip
    exact r_throw ⟨hx, hb, hml, hown, hts⟩ hst0 hl.1 hlk htab G hv (by decide +kernel) qK_X5_62 qN_IllegalStateException (is := 169) (text := "there is no snapshot in the slot") (by decide) at_ISE nb_ISE gd_ISE dX5_goBack_15 dX5_goBack_18 dX5_goBack_19 dX5_goBack_21 dX5_goBack_24 ⟨Nat.le_of_ble_eq_true rfl, Nat.le_of_ble_eq_true rfl⟩ ⟨Nat.le_of_ble_eq_true rfl, Nat.le_of_ble_eq_true rfl⟩ ⟨Nat.le_of_ble_eq_true rfl, Nat.le_of_ble_eq_true rfl⟩ (fun q => by omega) ((if_pos hK).symm) (rfl)
theorem pop_15 {σ : Mem} (hX : XC σ) (h0 : 0 < σ 15 1) (h1 : σ 15 1 ≤ 6) : pop σ 15 1 = σ 15 1 - 1 := by
  unfold pop
  rw [if_neg (by omega), csp_o (by omega), up_ap, if_pos ⟨rfl, rfl⟩]
set_option maxRecDepth 100000 in
set_option maxHeartbeats 4000000 in
theorem k_X5_undo (l : Launch) (hst0 : l.stackTraces = false) {σ : Mem} (hX : XC σ) (hz : 0 ≤ σ 15 1 ∧ σ 15 1 ≤ 6) : CtXI l yX5_undo (Cond.code yX5_undo cX5_undo 1 (some .int)) 6 82 2 12 (fun z => [.ref (z + 0)]) σ (¬ σ 15 1 = 0) (σ 15 1 - 1) (pop σ) ISE := by
  intro D T z
  refine Cx_of (by decide) (Nat.le_of_ble_eq_true rfl) ?_
  intro p e s m below meth c ls hx hb hml hr hts hown hlk G hl hv htab
  have hown : s.vm.findClass RX5 = some m.cls := hown
  have hl : lv_has ls 1 [(0, .ref (z + 0))] := hl
  refine lv_aload_n hx hb dX5_undo_0 rfl (lv_at hl 0 rfl) ?_
  refine gf_X5_19 hx hb hts hown G dX5_undo_1 ?_
  refine gf_X5_171 hx hb hts hown G dX5_undo_4 ?_
  refine r_if_ne (tgt := 20) hx hb ⟨by omega, by omega⟩ dX5_undo_7 (by decide) (fun h_1 => ?_) (fun h_1 => ?_)
  · skip
    refine lv_aload_n hx hb dX5_undo_20 rfl (lv_at hl 0 rfl) ?_
    refine gf_X5_19 hx hb hts hown G dX5_undo_21 ?_
    refine lv_aload_n hx hb dX5_undo_24 rfl (lv_at hl 0 rfl) ?_
    refine gf_X5_10 hx hb hts hown G dX5_undo_25 ?_
    refine r_callVV ⟨hx, hb, hml, hown, hts⟩ G (k_X4_popInto l (σ := σ) (hX) (hz)) (kV_X4_popInto hts qM_X5_176 ⟨Nat.le_of_ble_eq_true rfl, Nat.le_of_ble_eq_true rfl⟩) (rc_X4 G) rfl rfl hl.1 rfl (Nat.le_of_ble_eq_true rfl) dX5_undo_28 ⟨Nat.le_of_ble_eq_true rfl, Nat.le_of_ble_eq_true rfl⟩ (fun H locs G => ?_)
    refine lv_aload_n hx hb dX5_undo_31 rfl (lv_at hl 0 rfl) ?_
    refine gf_X5_19 hx hb hts hown G dX5_undo_32 ?_
    refine gf_X5_171 hx hb hts hown G dX5_undo_35 ?_
    refine r_top (b := σ 15 1 - 1) (pop_15 hX (by omega) (by omega)) ?_
    exact r_iretx hx hb hr hlk G ⟨Nat.le_of_ble_eq_true rfl, Nat.le_of_ble_eq_true rfl⟩ (by omega) (by first | rfl | omega) (by rfl) dX5_undo_38
  · skip
    exact r_throw ⟨hx, hb, hml, hown, hts⟩ hst0 hl.1 hlk htab G hv (by decide +kernel) qK_X5_62 qN_IllegalStateException (is := 174) (text := "there is no saved state") (by decide) at_ISE nb_ISE gd_ISE dX5_undo_10 dX5_undo_13 dX5_undo_14 dX5_undo_16 dX5_undo_19 ⟨Nat.le_of_ble_eq_true rfl, Nat.le_of_ble_eq_true rfl⟩ ⟨Nat.le_of_ble_eq_true rfl, Nat.le_of_ble_eq_true rfl⟩ ⟨Nat.le_of_ble_eq_true rfl, Nat.le_of_ble_eq_true rfl⟩ (fun q => q (by omega)) (rfl) (rfl)
set_option maxRecDepth 100000 in
set_option maxHeartbeats 4000000 in
theorem k_X5_keyOf (l : Launch) (hst0 : l.stackTraces = false) {σ : Mem} {k y w : Int} (hk0 : inR k) (hy0 : inR y) (hw0 : inR w) (hS : IS σ) : CtXI l yX5_keyOf (Cond.code yX5_keyOf cX5_keyOf 4 (some .int)) 7 104 2 12 (fun z => [.ref (z + 0), .int (kI k), .int (kI y), .int (kI w)]) σ (isY k y ∧ 0 ≤ w ∧ w ≤ 4) (pok σ k y w) σ (if isY k y then IAE else IOB) := by
  intro D T z
  refine Cx_of (by decide) (Nat.le_of_ble_eq_true rfl) ?_
  intro p e s m below meth c ls hx hb hml hr hts hown hlk G hl hv htab
  have hown : s.vm.findClass RX5 = some m.cls := hown
  have hl : lv_has ls 4 [(0, .ref (z + 0)), (1, .int (kI k)), (2, .int (kI y)), (3, .int (kI w))] := hl
  refine lv_iload_n hx hb dX5_keyOf_0 rfl (lv_at hl 1 rfl) ?_
  refine lv_iload_n hx hb dX5_keyOf_1 rfl (lv_at hl 2 rfl) ?_
  refine r_need ⟨hx, hb, hml, hown, hts⟩ hst0 hlk htab G hv (k_X5_needKey l hst0 (k := k) (y := y) (σ := σ) (⟨by omega, by omega⟩) (⟨by omega, by omega⟩)) (kSx_X5_needKey hts qM_X5_50 ⟨Nat.le_of_ble_eq_true rfl, Nat.le_of_ble_eq_true rfl⟩) rfl rfl hl.1 rfl (Nat.le_of_ble_eq_true rfl) dX5_keyOf_2 ⟨Nat.le_of_ble_eq_true rfl, Nat.le_of_ble_eq_true rfl⟩ ⟨Nat.le_of_ble_eq_true rfl, Nat.le_of_ble_eq_true rfl⟩ rfl (fun h => ⟨fun q => h q.1, (if_neg h).symm⟩) (fun hq_1 H locs G => ?_)
  have hK := hq_1
  refine lv_iload_n hx hb dX5_keyOf_5 rfl (lv_at hl 3 rfl) ?_
  refine r_iconst hx hb dX5_keyOf_6 ?_
  refine r_iconst hx hb dX5_keyOf_7 ?_
  refine r_need ⟨hx, hb, hml, hown, hts⟩ hst0 hlk htab G hv (k_X5_needRange l hst0 (v := w) (lo := 0) (hi := 4) (σ := σ) (⟨by omega, by omega⟩) (⟨by decide, by decide⟩) (⟨by decide, by decide⟩)) (kSx_X5_needRange hts qM_X5_99 ⟨Nat.le_of_ble_eq_true rfl, Nat.le_of_ble_eq_true rfl⟩) rfl rfl hl.1 rfl (Nat.le_of_ble_eq_true rfl) dX5_keyOf_8 ⟨Nat.le_of_ble_eq_true rfl, Nat.le_of_ble_eq_true rfl⟩ ⟨Nat.le_of_ble_eq_true rfl, Nat.le_of_ble_eq_true rfl⟩ rfl (fun h => ⟨fun q => h q.2, (if_pos hK).symm⟩) (fun hq_2 H locs G => ?_)
  have hA := hq_2
  refine lv_aload_n hx hb dX5_keyOf_11 rfl (lv_at hl 0 rfl) ?_
  refine gf_X5_10 hx hb hts hown G dX5_keyOf_12 ?_
  refine gf_X5_80 hx hb hts hown G dX5_keyOf_15 ?_
  refine lv_iload_n hx hb dX5_keyOf_18 rfl (lv_at hl 1 rfl) ?_
  refine lv_iload_n hx hb dX5_keyOf_19 rfl (lv_at hl 2 rfl) ?_
  refine lv_iload_n hx hb dX5_keyOf_20 rfl (lv_at hl 3 rfl) ?_
  refine r_callVI ⟨hx, hb, hml, hown, hts⟩ G (k_X3_propertyOfKey l (k := k) (y := y) (w := w) (σ := σ) (⟨by omega, by omega⟩) (⟨by omega, by omega⟩) (hw0) (hS.1)) (kV_X3_propertyOfKey hts qM_X5_179 ⟨Nat.le_of_ble_eq_true rfl, Nat.le_of_ble_eq_true rfl⟩) (rc_X3 G) rfl rfl hl.1 rfl (Nat.le_of_ble_eq_true rfl) dX5_keyOf_21 ⟨Nat.le_of_ble_eq_true rfl, Nat.le_of_ble_eq_true rfl⟩ (fun H locs G => ?_)
  exact r_iretx hx hb hr hlk G ⟨Nat.le_of_ble_eq_true rfl, Nat.le_of_ble_eq_true rfl⟩ (⟨hK, hA⟩) (by first | rfl | omega) (by rfl) dX5_keyOf_24
set_option maxRecDepth 100000 in
set_option maxHeartbeats 4000000 in
theorem k_X5_kindOf (l : Launch) (hst0 : l.stackTraces = false) {σ : Mem} {k w : Int} (hk0 : inR k) (hw0 : inR w) (hS : IS σ) : CtXI l yX5_kindOf (Cond.code yX5_kindOf cX5_kindOf 3 (some .int)) 7 104 2 12 (fun z => [.ref (z + 0), .int (kI k), .int (kI w)]) σ (isK k ∧ 0 ≤ w ∧ w ≤ 10) (pkd σ k w) σ (if isK k then IAE else IOB) := by
  intro D T z
  refine Cx_of (by decide) (Nat.le_of_ble_eq_true rfl) ?_
  intro p e s m below meth c ls hx hb hml hr hts hown hlk G hl hv htab
  have hown : s.vm.findClass RX5 = some m.cls := hown
  have hl : lv_has ls 3 [(0, .ref (z + 0)), (1, .int (kI k)), (2, .int (kI w))] := hl
  refine lv_iload_n hx hb dX5_kindOf_0 rfl (lv_at hl 1 rfl) ?_
  refine r_need ⟨hx, hb, hml, hown, hts⟩ hst0 hlk htab G hv (k_X5_needKind l hst0 (k := k) (σ := σ) (⟨by omega, by omega⟩)) (kSx_X5_needKind hts qM_X5_38 ⟨Nat.le_of_ble_eq_true rfl, Nat.le_of_ble_eq_true rfl⟩) rfl rfl hl.1 rfl (Nat.le_of_ble_eq_true rfl) dX5_kindOf_1 ⟨Nat.le_of_ble_eq_true rfl, Nat.le_of_ble_eq_true rfl⟩ ⟨Nat.le_of_ble_eq_true rfl, Nat.le_of_ble_eq_true rfl⟩ rfl (fun h => ⟨fun q => h q.1, (if_neg h).symm⟩) (fun hq_1 H locs G => ?_)
  have hK := hq_1
  refine lv_iload_n hx hb dX5_kindOf_4 rfl (lv_at hl 2 rfl) ?_
  refine r_iconst hx hb dX5_kindOf_5 ?_
  refine r_bipush hx hb dX5_kindOf_6 (by decide +kernel) ?_
  refine r_need ⟨hx, hb, hml, hown, hts⟩ hst0 hlk htab G hv (k_X5_needRange l hst0 (v := w) (lo := 0) (hi := 10) (σ := σ) (⟨by omega, by omega⟩) (⟨by decide, by decide⟩) (⟨by decide, by decide⟩)) (kSx_X5_needRange hts qM_X5_99 ⟨Nat.le_of_ble_eq_true rfl, Nat.le_of_ble_eq_true rfl⟩) rfl rfl hl.1 rfl (Nat.le_of_ble_eq_true rfl) dX5_kindOf_8 ⟨Nat.le_of_ble_eq_true rfl, Nat.le_of_ble_eq_true rfl⟩ ⟨Nat.le_of_ble_eq_true rfl, Nat.le_of_ble_eq_true rfl⟩ rfl (fun h => ⟨fun q => h q.2, (if_pos hK).symm⟩) (fun hq_2 H locs G => ?_)
  have hA := hq_2
  refine lv_aload_n hx hb dX5_kindOf_11 rfl (lv_at hl 0 rfl) ?_
  refine gf_X5_10 hx hb hts hown G dX5_kindOf_12 ?_
  refine lv_iload_n hx hb dX5_kindOf_15 rfl (lv_at hl 1 rfl) ?_
  refine lv_iload_n hx hb dX5_kindOf_16 rfl (lv_at hl 2 rfl) ?_
  refine r_callVI ⟨hx, hb, hml, hown, hts⟩ G (k_X1_propertyOfKind l (k := k) (w := w) (σ := σ) (⟨by omega, by omega⟩) (hA) (hS)) (kV_X1_propertyOfKind hts qM_X5_182 ⟨Nat.le_of_ble_eq_true rfl, Nat.le_of_ble_eq_true rfl⟩) (rc_X1 G) rfl rfl hl.1 rfl (Nat.le_of_ble_eq_true rfl) dX5_kindOf_17 ⟨Nat.le_of_ble_eq_true rfl, Nat.le_of_ble_eq_true rfl⟩ (fun H locs G => ?_)
  exact r_iretx hx hb hr hlk G ⟨Nat.le_of_ble_eq_true rfl, Nat.le_of_ble_eq_true rfl⟩ (⟨hK, hA⟩) (by first | rfl | omega) (by rfl) dX5_kindOf_20
set_option maxRecDepth 100000 in
set_option maxHeartbeats 4000000 in
theorem k_X5_pile (l : Launch) (hst0 : l.stackTraces = false) {σ : Mem} {k q : Int} (hk0 : inR k) (hq0 : inR q) (hS : IS σ) : CtXI l yX5_pile (Cond.code yX5_pile cX5_pile 3 (some .int)) 7 103 2 12 (fun z => [.ref (z + 0), .int (kI k), .int (kI q)]) σ (isK k ∧ 0 ≤ q) (kat σ k q) σ (if isK k then IAE else IOB) := by
  intro D T z
  refine Cx_of (by decide) (Nat.le_of_ble_eq_true rfl) ?_
  intro p e s m below meth c ls hx hb hml hr hts hown hlk G hl hv htab
  have hown : s.vm.findClass RX5 = some m.cls := hown
  have hl : lv_has ls 3 [(0, .ref (z + 0)), (1, .int (kI k)), (2, .int (kI q))] := hl
  refine lv_iload_n hx hb dX5_pile_0 rfl (lv_at hl 1 rfl) ?_
  refine r_need ⟨hx, hb, hml, hown, hts⟩ hst0 hlk htab G hv (k_X5_needKind l hst0 (k := k) (σ := σ) (⟨by omega, by omega⟩)) (kSx_X5_needKind hts qM_X5_38 ⟨Nat.le_of_ble_eq_true rfl, Nat.le_of_ble_eq_true rfl⟩) rfl rfl hl.1 rfl (Nat.le_of_ble_eq_true rfl) dX5_pile_1 ⟨Nat.le_of_ble_eq_true rfl, Nat.le_of_ble_eq_true rfl⟩ ⟨Nat.le_of_ble_eq_true rfl, Nat.le_of_ble_eq_true rfl⟩ rfl (fun h => ⟨fun q => h q.1, (if_neg h).symm⟩) (fun hq_1 H locs G => ?_)
  have hK := hq_1
  refine lv_iload_n hx hb dX5_pile_4 rfl (lv_at hl 2 rfl) ?_
  refine r_iconst hx hb dX5_pile_5 ?_
  refine r_need ⟨hx, hb, hml, hown, hts⟩ hst0 hlk htab G hv (k_X5_needAtLeast l hst0 (v := q) (lo := 0) (σ := σ) (hq0) (⟨by decide, by decide⟩)) (kSx_X5_needAtLeast hts qM_X5_92 ⟨Nat.le_of_ble_eq_true rfl, Nat.le_of_ble_eq_true rfl⟩) rfl rfl hl.1 rfl (Nat.le_of_ble_eq_true rfl) dX5_pile_6 ⟨Nat.le_of_ble_eq_true rfl, Nat.le_of_ble_eq_true rfl⟩ ⟨Nat.le_of_ble_eq_true rfl, Nat.le_of_ble_eq_true rfl⟩ rfl (fun h => ⟨fun q => h q.2, (if_pos hK).symm⟩) (fun hq_2 H locs G => ?_)
  have hA := hq_2
  refine lv_aload_n hx hb dX5_pile_9 rfl (lv_at hl 0 rfl) ?_
  refine gf_X5_10 hx hb hts hown G dX5_pile_10 ?_
  refine gf_X5_80 hx hb hts hown G dX5_pile_13 ?_
  refine lv_iload_n hx hb dX5_pile_16 rfl (lv_at hl 1 rfl) ?_
  refine lv_iload_n hx hb dX5_pile_17 rfl (lv_at hl 2 rfl) ?_
  refine r_callVI ⟨hx, hb, hml, hown, hts⟩ G (k_X3_keyAt l (k := k) (q := q) (σ := σ) (⟨by omega, by omega⟩) (hq0) (hS.1)) (kV_X3_keyAt hts qM_X5_89 ⟨Nat.le_of_ble_eq_true rfl, Nat.le_of_ble_eq_true rfl⟩) (rc_X3 G) rfl rfl hl.1 rfl (Nat.le_of_ble_eq_true rfl) dX5_pile_18 ⟨Nat.le_of_ble_eq_true rfl, Nat.le_of_ble_eq_true rfl⟩ (fun H locs G => ?_)
  exact r_iretx hx hb hr hlk G ⟨Nat.le_of_ble_eq_true rfl, Nat.le_of_ble_eq_true rfl⟩ (⟨hK, hA⟩) (by first | rfl | omega) (by rfl) dX5_pile_21
set_option maxRecDepth 100000 in
set_option maxHeartbeats 4000000 in
theorem k_X5_numberOf (l : Launch) {σ : Mem} {w : Int} (hw1 : 0 ≤ w ∧ w ≤ 9) (hS : IS σ) : CtI l yX5_numberOf (Cond.code yX5_numberOf cX5_numberOf 2 (some .int)) 3 69 (fun z => [.ref (z + 0), .int (kI w)]) σ (nof σ w) σ := by
  intro D T z
  refine Ct_of (by decide) (Nat.le_of_ble_eq_true rfl) ?_
  intro p e s m below meth c ls hx hb hml hr hts hown hlk G hl
  have hown : s.vm.findClass RX5 = some m.cls := hown
  have hl : lv_has ls 2 [(0, .ref (z + 0)), (1, .int (kI w))] := hl
  refine lv_iload_n hx hb dX5_numberOf_0 rfl (lv_at hl 1 rfl) ?_
  by_cases hc_2 : w = 0
  · skip
    refine r_tabIn (j := 0) (tgt := 52) hx hb dX5_numberOf_1 (by omega) (by omega) ⟨by omega, by omega⟩ rfl (by decide) ?_
    refine lv_aload_n hx hb dX5_numberOf_52 rfl (lv_at hl 0 rfl) ?_
    refine gf_X5_10 hx hb hts hown G dX5_numberOf_53 ?_
    refine gf_X5_80 hx hb hts hown G dX5_numberOf_56 ?_
    refine gf_X5_166 hx hb hts hown G dX5_numberOf_59 ?_
    exact r_iret hx hb hr hlk G (by unfold nof; (repeat' split) <;> first | rfl | omega) (by rfl) dX5_numberOf_62
  by_cases hc_3 : w = 1
  · skip
    refine r_tabIn (j := 1) (tgt := 63) hx hb dX5_numberOf_1 (by omega) (by omega) ⟨by omega, by omega⟩ rfl (by decide) ?_
    refine lv_aload_n hx hb dX5_numberOf_63 rfl (lv_at hl 0 rfl) ?_
    refine gf_X5_10 hx hb hts hown G dX5_numberOf_64 ?_
    refine gf_X5_80 hx hb hts hown G dX5_numberOf_67 ?_
    refine r_iconst hx hb dX5_numberOf_70 ?_
    refine r_callVI ⟨hx, hb, hml, hown, hts⟩ G (k_X3_howManyOfAll l (w := 1) (σ := σ) (⟨by decide, by decide⟩) (hS.1)) (kV_X3_howManyOfAll hts qM_X5_263 ⟨by decide, by decide⟩) (rc_X3 G) rfl rfl hl.1 rfl (Nat.le_of_ble_eq_true rfl) dX5_numberOf_71 ⟨Nat.le_refl _, Nat.le_refl _⟩ (fun H locs G => ?_)
    exact r_iret hx hb hr hlk G (by unfold nof; (repeat' split) <;> first | rfl | omega) (by rfl) dX5_numberOf_74
  by_cases hc_4 : w = 2
  · skip
    refine r_tabIn (j := 2) (tgt := 75) hx hb dX5_numberOf_1 (by omega) (by omega) ⟨by omega, by omega⟩ rfl (by decide) ?_
    refine lv_aload_n hx hb dX5_numberOf_75 rfl (lv_at hl 0 rfl) ?_
    refine gf_X5_10 hx hb hts hown G dX5_numberOf_76 ?_
    refine gf_X5_266 hx hb hts hown G dX5_numberOf_79 ?_
    refine r_callVI ⟨hx, hb, hml, hown, hts⟩ G (k_X0_aliveByAccount l (σ := σ) ) (kV_X0_aliveByAccount hts qM_X5_270 ⟨by decide, by decide⟩) (rc_X0 G) rfl rfl hl.1 rfl (Nat.le_of_ble_eq_true rfl) dX5_numberOf_82 ⟨Nat.le_refl _, Nat.le_refl _⟩ (fun H locs G => ?_)
    exact r_iret hx hb hr hlk G (by unfold nof; (repeat' split) <;> first | rfl | omega) (by rfl) dX5_numberOf_85
  by_cases hc_5 : w = 3
  · skip
    refine r_tabIn (j := 3) (tgt := 86) hx hb dX5_numberOf_1 (by omega) (by omega) ⟨by omega, by omega⟩ rfl (by decide) ?_
    refine lv_aload_n hx hb dX5_numberOf_86 rfl (lv_at hl 0 rfl) ?_
    refine gf_X5_10 hx hb hts hown G dX5_numberOf_87 ?_
    refine gf_X5_80 hx hb hts hown G dX5_numberOf_90 ?_
    refine r_iconst hx hb dX5_numberOf_93 ?_
    refine r_callVI ⟨hx, hb, hml, hown, hts⟩ G (k_X3_howManyOfAll l (w := 2) (σ := σ) (⟨by decide, by decide⟩) (hS.1)) (kV_X3_howManyOfAll hts qM_X5_263 ⟨by decide, by decide⟩) (rc_X3 G) rfl rfl hl.1 rfl (Nat.le_of_ble_eq_true rfl) dX5_numberOf_94 ⟨Nat.le_refl _, Nat.le_refl _⟩ (fun H locs G => ?_)
    exact r_iret hx hb hr hlk G (by unfold nof; (repeat' split) <;> first | rfl | omega) (by rfl) dX5_numberOf_97
  by_cases hc_6 : w = 4
  · skip
    refine r_tabIn (j := 4) (tgt := 98) hx hb dX5_numberOf_1 (by omega) (by omega) ⟨by omega, by omega⟩ rfl (by decide) ?_
    refine lv_aload_n hx hb dX5_numberOf_98 rfl (lv_at hl 0 rfl) ?_
    refine gf_X5_10 hx hb hts hown G dX5_numberOf_99 ?_
    refine gf_X5_80 hx hb hts hown G dX5_numberOf_102 ?_
    refine r_callVI ⟨hx, hb, hml, hown, hts⟩ G (k_X3_howManyRipeOfAll l (σ := σ) (hS.1)) (kV_X3_howManyRipeOfAll hts qM_X5_112 ⟨by decide, by decide⟩) (rc_X3 G) rfl rfl hl.1 rfl (Nat.le_of_ble_eq_true rfl) dX5_numberOf_105 ⟨Nat.le_refl _, Nat.le_refl _⟩ (fun H locs G => ?_)
    exact r_iret hx hb hr hlk G (by unfold nof; (repeat' split) <;> first | rfl | omega) (by rfl) dX5_numberOf_108
  by_cases hc_7 : w = 5
  · skip
    refine r_tabIn (j := 5) (tgt := 109) hx hb dX5_numberOf_1 (by omega) (by omega) ⟨by omega, by omega⟩ rfl (by decide) ?_
    refine lv_aload_n hx hb dX5_numberOf_109 rfl (lv_at hl 0 rfl) ?_
    refine gf_X5_10 hx hb hts hown G dX5_numberOf_110 ?_
    refine gf_X5_266 hx hb hts hown G dX5_numberOf_113 ?_
    refine gf_X5_275 hx hb hts hown G dX5_numberOf_116 ?_
    exact r_iret hx hb hr hlk G (by unfold nof; (repeat' split) <;> first | rfl | omega) (by rfl) dX5_numberOf_119
  by_cases hc_8 : w = 6
  · skip
    refine r_tabIn (j := 6) (tgt := 120) hx hb dX5_numberOf_1 (by omega) (by omega) ⟨by omega, by omega⟩ rfl (by decide) ?_
    refine lv_aload_n hx hb dX5_numberOf_120 rfl (lv_at hl 0 rfl) ?_
    refine gf_X5_10 hx hb hts hown G dX5_numberOf_121 ?_
    refine gf_X5_266 hx hb hts hown G dX5_numberOf_124 ?_
    refine gf_X5_278 hx hb hts hown G dX5_numberOf_127 ?_
    exact r_iret hx hb hr hlk G (by unfold nof; (repeat' split) <;> first | rfl | omega) (by rfl) dX5_numberOf_130
  by_cases hc_9 : w = 7
  · skip
    refine r_tabIn (j := 7) (tgt := 131) hx hb dX5_numberOf_1 (by omega) (by omega) ⟨by omega, by omega⟩ rfl (by decide) ?_
    refine lv_aload_n hx hb dX5_numberOf_131 rfl (lv_at hl 0 rfl) ?_
    refine gf_X5_10 hx hb hts hown G dX5_numberOf_132 ?_
    refine gf_X5_266 hx hb hts hown G dX5_numberOf_135 ?_
    refine gf_X5_281 hx hb hts hown G dX5_numberOf_138 ?_
    exact r_iret hx hb hr hlk G (by unfold nof; (repeat' split) <;> first | rfl | omega) (by rfl) dX5_numberOf_141
  by_cases hc_10 : w = 8
  · skip
    refine r_tabIn (j := 8) (tgt := 142) hx hb dX5_numberOf_1 (by omega) (by omega) ⟨by omega, by omega⟩ rfl (by decide) ?_
    refine lv_aload_n hx hb dX5_numberOf_142 rfl (lv_at hl 0 rfl) ?_
    refine gf_X5_10 hx hb hts hown G dX5_numberOf_143 ?_
    refine gf_X5_80 hx hb hts hown G dX5_numberOf_146 ?_
    refine r_callVI ⟨hx, hb, hml, hown, hts⟩ G (k_X3_greatestRound l (σ := σ) (hS.1)) (kV_X3_greatestRound hts qM_X5_284 ⟨by decide, by decide⟩) (rc_X3 G) rfl rfl hl.1 rfl (Nat.le_of_ble_eq_true rfl) dX5_numberOf_149 ⟨Nat.le_refl _, Nat.le_refl _⟩ (fun H locs G => ?_)
    exact r_iret hx hb hr hlk G (by unfold nof; (repeat' split) <;> first | rfl | omega) (by rfl) dX5_numberOf_152
  refine r_tabOut (tgt := 153) hx hb dX5_numberOf_1 ⟨by omega, by omega⟩ (by omega) (by decide) ?_
  refine lv_aload_n hx hb dX5_numberOf_153 rfl (lv_at hl 0 rfl) ?_
  refine gf_X5_19 hx hb hts hown G dX5_numberOf_154 ?_
  refine gf_X5_171 hx hb hts hown G dX5_numberOf_157 ?_
  exact r_iret hx hb hr hlk G (by unfold nof; (repeat' split) <;> first | rfl | omega) (by rfl) dX5_numberOf_160
set_option maxRecDepth 100000 in
set_option maxHeartbeats 4000000 in
theorem k_X5_count (l : Launch) (hst0 : l.stackTraces = false) {σ : Mem} {w : Int} (hw0 : inR w) (hS : IS σ) : CtXI l yX5_count (Cond.code yX5_count cX5_count 2 (some .int)) 7 104 2 12 (fun z => [.ref (z + 0), .int (kI w)]) σ (0 ≤ w ∧ w ≤ 9) (nof σ w) σ IAE := by
  intro D T z
  refine Cx_of (by decide) (Nat.le_of_ble_eq_true rfl) ?_
  intro p e s m below meth c ls hx hb hml hr hts hown hlk G hl hv htab
  have hown : s.vm.findClass RX5 = some m.cls := hown
  have hl : lv_has ls 2 [(0, .ref (z + 0)), (1, .int (kI w))] := hl
  refine lv_iload_n hx hb dX5_count_0 rfl (lv_at hl 1 rfl) ?_
  refine r_iconst hx hb dX5_count_1 ?_
  refine r_bipush hx hb dX5_count_2 (by decide +kernel) ?_
  refine r_need ⟨hx, hb, hml, hown, hts⟩ hst0 hlk htab G hv (k_X5_needRange l hst0 (v := w) (lo := 0) (hi := 9) (σ := σ) (⟨by omega, by omega⟩) (⟨by decide, by decide⟩) (⟨by decide, by decide⟩)) (kSx_X5_needRange hts qM_X5_99 ⟨Nat.le_of_ble_eq_true rfl, Nat.le_of_ble_eq_true rfl⟩) rfl rfl hl.1 rfl (Nat.le_of_ble_eq_true rfl) dX5_count_4 ⟨Nat.le_of_ble_eq_true rfl, Nat.le_of_ble_eq_true rfl⟩ ⟨Nat.le_of_ble_eq_true rfl, Nat.le_of_ble_eq_true rfl⟩ rfl (fun h => ⟨h, rfl⟩) (fun hq_1 H locs G => ?_)
  have hA := hq_1
  refine lv_aload_n hx hb dX5_count_7 rfl (lv_at hl 0 rfl) ?_
  refine lv_iload_n hx hb dX5_count_8 rfl (lv_at hl 1 rfl) ?_
  refine r_callVI ⟨hx, hb, hml, hown, hts⟩ G (k_X5_numberOf l (w := w) (σ := σ) (hA) (hS)) (kV_X5_numberOf hts qM_X5_185 ⟨Nat.le_of_ble_eq_true rfl, Nat.le_of_ble_eq_true rfl⟩) (rc_X5 G) rfl rfl hl.1 rfl (Nat.le_of_ble_eq_true rfl) dX5_count_9 ⟨Nat.le_of_ble_eq_true rfl, Nat.le_of_ble_eq_true rfl⟩ (fun H locs G => ?_)
  exact r_iretx hx hb hr hlk G ⟨Nat.le_of_ble_eq_true rfl, Nat.le_of_ble_eq_true rfl⟩ (hA) (by first | rfl | omega) (by rfl) dX5_count_12
set_option maxRecDepth 100000 in
set_option maxHeartbeats 4000000 in
theorem k_X5_setting (l : Launch) (hst0 : l.stackTraces = false) {σ : Mem} {k : Int} (hk0 : inR k) : CtXI l yX5_setting (Cond.code yX5_setting cX5_setting 2 (some .int)) 7 102 2 12 (fun z => [.ref (z + 0), .int (kI k)]) σ (0 ≤ k ∧ k ≤ 2) (σ 14 k) σ IOB := by
  intro D T z
  refine Cx_of (by decide) (Nat.le_of_ble_eq_true rfl) ?_
  intro p e s m below meth c ls hx hb hml hr hts hown hlk G hl hv htab
  have hown : s.vm.findClass RX5 = some m.cls := hown
  have hl : lv_has ls 2 [(0, .ref (z + 0)), (1, .int (kI k))] := hl
  refine lv_iload_n hx hb dX5_setting_0 rfl (lv_at hl 1 rfl) ?_
  refine r_need ⟨hx, hb, hml, hown, hts⟩ hst0 hlk htab G hv (k_X5_needSetting l hst0 (k := k) (σ := σ) (⟨by omega, by omega⟩)) (kSx_X5_needSetting hts qM_X5_120 ⟨Nat.le_of_ble_eq_true rfl, Nat.le_of_ble_eq_true rfl⟩) rfl rfl hl.1 rfl (Nat.le_of_ble_eq_true rfl) dX5_setting_1 ⟨Nat.le_of_ble_eq_true rfl, Nat.le_of_ble_eq_true rfl⟩ ⟨Nat.le_of_ble_eq_true rfl, Nat.le_of_ble_eq_true rfl⟩ rfl (fun h => ⟨h, rfl⟩) (fun hq_1 H locs G => ?_)
  have hK := hq_1
  refine lv_aload_n hx hb dX5_setting_4 rfl (lv_at hl 0 rfl) ?_
  refine gf_X5_10 hx hb hts hown G dX5_setting_5 ?_
  refine gf_X5_129 hx hb hts hown G dX5_setting_8 ?_
  refine lv_iload_n hx hb dX5_setting_11 rfl (lv_at hl 1 rfl) ?_
  refine r_iald hx hb G 14 (by decide) (N := 3) (fun _ => rfl) (by omega) (by omega) (by decide) dX5_setting_12 ?_
  exact r_iretx hx hb hr hlk G ⟨Nat.le_of_ble_eq_true rfl, Nat.le_of_ble_eq_true rfl⟩ (hK) (by first | rfl | omega) (by rfl) dX5_setting_13
set_option maxRecDepth 100000 in
set_option maxHeartbeats 4000000 in
theorem k_X5_ifAsked (l : Launch) (hst0 : l.stackTraces = false) {σ : Mem} {k : Int} (hk0 : inR k) (hS : IS σ) : CtXI l yX5_ifAsked (Cond.code yX5_ifAsked cX5_ifAsked 2 (some .int)) 7 102 2 12 (fun z => [.ref (z + 0), .int (kI k)]) σ (isK k) (atr σ k) σ IOB := by
  intro D T z
  refine Cx_of (by decide) (Nat.le_of_ble_eq_true rfl) ?_
  intro p e s m below meth c ls hx hb hml hr hts hown hlk G hl hv htab
  have hown : s.vm.findClass RX5 = some m.cls := hown
  have hl : lv_has ls 2 [(0, .ref (z + 0)), (1, .int (kI k))] := hl
  refine lv_iload_n hx hb dX5_ifAsked_0 rfl (lv_at hl 1 rfl) ?_
  refine r_need ⟨hx, hb, hml, hown, hts⟩ hst0 hlk htab G hv (k_X5_needKind l hst0 (k := k) (σ := σ) (⟨by omega, by omega⟩)) (kSx_X5_needKind hts qM_X5_38 ⟨Nat.le_of_ble_eq_true rfl, Nat.le_of_ble_eq_true rfl⟩) rfl rfl hl.1 rfl (Nat.le_of_ble_eq_true rfl) dX5_ifAsked_1 ⟨Nat.le_of_ble_eq_true rfl, Nat.le_of_ble_eq_true rfl⟩ ⟨Nat.le_of_ble_eq_true rfl, Nat.le_of_ble_eq_true rfl⟩ rfl (fun h => ⟨h, rfl⟩) (fun hq_1 H locs G => ?_)
  have hK := hq_1
  refine lv_aload_n hx hb dX5_ifAsked_4 rfl (lv_at hl 0 rfl) ?_
  refine gf_X5_10 hx hb hts hown G dX5_ifAsked_5 ?_
  refine lv_iload_n hx hb dX5_ifAsked_8 rfl (lv_at hl 1 rfl) ?_
  refine r_callVI ⟨hx, hb, hml, hown, hts⟩ G (k_X1_answerToRow l (k := k) (σ := σ) (⟨by omega, by omega⟩) (hS)) (kV_X1_answerToRow hts qM_X5_188 ⟨Nat.le_of_ble_eq_true rfl, Nat.le_of_ble_eq_true rfl⟩) (rc_X1 G) rfl rfl hl.1 rfl (Nat.le_of_ble_eq_true rfl) dX5_ifAsked_9 ⟨Nat.le_of_ble_eq_true rfl, Nat.le_of_ble_eq_true rfl⟩ (fun H locs G => ?_)
  exact r_iretx hx hb hr hlk G ⟨Nat.le_of_ble_eq_true rfl, Nat.le_of_ble_eq_true rfl⟩ (hK) (by first | rfl | omega) (by rfl) dX5_ifAsked_12
set_option maxRecDepth 100000 in
set_option maxHeartbeats 4000000 in
theorem k_X5_keyIn (l : Launch) (hst0 : l.stackTraces = false) {σ : Mem} {k : Int} (hk0 : inR k) (hS : IS σ) : CtXI l yX5_keyIn (Cond.code yX5_keyIn cX5_keyIn 2 (some .int)) 7 102 2 12 (fun z => [.ref (z + 0), .int (kI k)]) σ (isK k) (dtk σ k) σ IOB := by
  intro D T z
  refine Cx_of (by decide) (Nat.le_of_ble_eq_true rfl) ?_
  intro p e s m below meth c ls hx hb hml hr hts hown hlk G hl hv htab
  have hown : s.vm.findClass RX5 = some m.cls := hown
  have hl : lv_has ls 2 [(0, .ref (z + 0)), (1, .int (kI k))] := hl
  refine lv_iload_n hx hb dX5_keyIn_0 rfl (lv_at hl 1 rfl) ?_
  refine r_need ⟨hx, hb, hml, hown, hts⟩ hst0 hlk htab G hv (k_X5_needKind l hst0 (k := k) (σ := σ) (⟨by omega, by omega⟩)) (kSx_X5_needKind hts qM_X5_38 ⟨Nat.le_of_ble_eq_true rfl, Nat.le_of_ble_eq_true rfl⟩) rfl rfl hl.1 rfl (Nat.le_of_ble_eq_true rfl) dX5_keyIn_1 ⟨Nat.le_of_ble_eq_true rfl, Nat.le_of_ble_eq_true rfl⟩ ⟨Nat.le_of_ble_eq_true rfl, Nat.le_of_ble_eq_true rfl⟩ rfl (fun h => ⟨h, rfl⟩) (fun hq_1 H locs G => ?_)
  have hK := hq_1
  refine lv_aload_n hx hb dX5_keyIn_4 rfl (lv_at hl 0 rfl) ?_
  refine gf_X5_10 hx hb hts hown G dX5_keyIn_5 ?_
  refine gf_X5_80 hx hb hts hown G dX5_keyIn_8 ?_
  refine lv_iload_n hx hb dX5_keyIn_11 rfl (lv_at hl 1 rfl) ?_
  refine r_callVI ⟨hx, hb, hml, hown, hts⟩ G (k_X3_daysToKey l (k := k) (σ := σ) (⟨by omega, by omega⟩) (hS.1)) (kV_X3_daysToKey hts qM_X5_191 ⟨Nat.le_of_ble_eq_true rfl, Nat.le_of_ble_eq_true rfl⟩) (rc_X3 G) rfl rfl hl.1 rfl (Nat.le_of_ble_eq_true rfl) dX5_keyIn_12 ⟨Nat.le_of_ble_eq_true rfl, Nat.le_of_ble_eq_true rfl⟩ (fun H locs G => ?_)
  exact r_iretx hx hb hr hlk G ⟨Nat.le_of_ble_eq_true rfl, Nat.le_of_ble_eq_true rfl⟩ (hK) (by first | rfl | omega) (by rfl) dX5_keyIn_15
set_option maxRecDepth 100000 in
set_option maxHeartbeats 4000000 in
theorem k_X5_coming (l : Launch) (hst0 : l.stackTraces = false) {σ : Mem} {k n : Int} (hk0 : inR k) (hn0 : inR n) (hS : IS σ) : CtXI l yX5_coming (Cond.code yX5_coming cX5_coming 3 (some .int)) 7 104 2 12 (fun z => [.ref (z + 0), .int (kI k), .int (kI n)]) σ (isK k ∧ 1 ≤ n ∧ n ≤ 16) (kor σ k n) σ (if isK k then IAE else IOB) := by
  intro D T z
  refine Cx_of (by decide) (Nat.le_of_ble_eq_true rfl) ?_
  intro p e s m below meth c ls hx hb hml hr hts hown hlk G hl hv htab
  have hown : s.vm.findClass RX5 = some m.cls := hown
  have hl : lv_has ls 3 [(0, .ref (z + 0)), (1, .int (kI k)), (2, .int (kI n))] := hl
  refine lv_iload_n hx hb dX5_coming_0 rfl (lv_at hl 1 rfl) ?_
  refine r_need ⟨hx, hb, hml, hown, hts⟩ hst0 hlk htab G hv (k_X5_needKind l hst0 (k := k) (σ := σ) (⟨by omega, by omega⟩)) (kSx_X5_needKind hts qM_X5_38 ⟨Nat.le_of_ble_eq_true rfl, Nat.le_of_ble_eq_true rfl⟩) rfl rfl hl.1 rfl (Nat.le_of_ble_eq_true rfl) dX5_coming_1 ⟨Nat.le_of_ble_eq_true rfl, Nat.le_of_ble_eq_true rfl⟩ ⟨Nat.le_of_ble_eq_true rfl, Nat.le_of_ble_eq_true rfl⟩ rfl (fun h => ⟨fun q => h q.1, (if_neg h).symm⟩) (fun hq_1 H locs G => ?_)
  have hK := hq_1
  refine lv_iload_n hx hb dX5_coming_4 rfl (lv_at hl 2 rfl) ?_
  refine r_iconst hx hb dX5_coming_5 ?_
  refine r_bipush hx hb dX5_coming_6 (by decide +kernel) ?_
  refine r_need ⟨hx, hb, hml, hown, hts⟩ hst0 hlk htab G hv (k_X5_needRange l hst0 (v := n) (lo := 1) (hi := 16) (σ := σ) (⟨by omega, by omega⟩) (⟨by decide, by decide⟩) (⟨by decide, by decide⟩)) (kSx_X5_needRange hts qM_X5_99 ⟨Nat.le_of_ble_eq_true rfl, Nat.le_of_ble_eq_true rfl⟩) rfl rfl hl.1 rfl (Nat.le_of_ble_eq_true rfl) dX5_coming_8 ⟨Nat.le_of_ble_eq_true rfl, Nat.le_of_ble_eq_true rfl⟩ ⟨Nat.le_of_ble_eq_true rfl, Nat.le_of_ble_eq_true rfl⟩ rfl (fun h => ⟨fun q => h q.2, (if_pos hK).symm⟩) (fun hq_2 H locs G => ?_)
  have hA := hq_2
  refine lv_aload_n hx hb dX5_coming_11 rfl (lv_at hl 0 rfl) ?_
  refine gf_X5_10 hx hb hts hown G dX5_coming_12 ?_
  refine lv_iload_n hx hb dX5_coming_15 rfl (lv_at hl 1 rfl) ?_
  refine lv_iload_n hx hb dX5_coming_16 rfl (lv_at hl 2 rfl) ?_
  refine r_callVI ⟨hx, hb, hml, hown, hts⟩ G (k_X1_keyOfRow l (k := k) (n := n) (σ := σ) (⟨by omega, by omega⟩) (hA) (hS)) (kV_X1_keyOfRow hts qM_X5_194 ⟨Nat.le_of_ble_eq_true rfl, Nat.le_of_ble_eq_true rfl⟩) (rc_X1 G) rfl rfl hl.1 rfl (Nat.le_of_ble_eq_true rfl) dX5_coming_17 ⟨Nat.le_of_ble_eq_true rfl, Nat.le_of_ble_eq_true rfl⟩ (fun H locs G => ?_)
  exact r_iretx hx hb hr hlk G ⟨Nat.le_of_ble_eq_true rfl, Nat.le_of_ble_eq_true rfl⟩ (⟨hK, hA⟩) (by first | rfl | omega) (by rfl) dX5_coming_20
set_option maxRecDepth 100000 in
set_option maxHeartbeats 4000000 in
theorem k_X5_longest (l : Launch) (hst0 : l.stackTraces = false) {σ : Mem} {k : Int} (hk0 : inR k) (hS : IS σ) : CtXI l yX5_longest (Cond.code yX5_longest cX5_longest 2 (some .int)) 7 102 2 12 (fun z => [.ref (z + 0), .int (kI k)]) σ (isK k) (lgs σ k) σ IOB := by
  intro D T z
  refine Cx_of (by decide) (Nat.le_of_ble_eq_true rfl) ?_
  intro p e s m below meth c ls hx hb hml hr hts hown hlk G hl hv htab
  have hown : s.vm.findClass RX5 = some m.cls := hown
  have hl : lv_has ls 2 [(0, .ref (z + 0)), (1, .int (kI k))] := hl
  refine lv_iload_n hx hb dX5_longest_0 rfl (lv_at hl 1 rfl) ?_
  refine r_need ⟨hx, hb, hml, hown, hts⟩ hst0 hlk htab G hv (k_X5_needKind l hst0 (k := k) (σ := σ) (⟨by omega, by omega⟩)) (kSx_X5_needKind hts qM_X5_38 ⟨Nat.le_of_ble_eq_true rfl, Nat.le_of_ble_eq_true rfl⟩) rfl rfl hl.1 rfl (Nat.le_of_ble_eq_true rfl) dX5_longest_1 ⟨Nat.le_of_ble_eq_true rfl, Nat.le_of_ble_eq_true rfl⟩ ⟨Nat.le_of_ble_eq_true rfl, Nat.le_of_ble_eq_true rfl⟩ rfl (fun h => ⟨h, rfl⟩) (fun hq_1 H locs G => ?_)
  have hK := hq_1
  refine lv_aload_n hx hb dX5_longest_4 rfl (lv_at hl 0 rfl) ?_
  refine gf_X5_10 hx hb hts hown G dX5_longest_5 ?_
  refine gf_X5_80 hx hb hts hown G dX5_longest_8 ?_
  refine lv_iload_n hx hb dX5_longest_11 rfl (lv_at hl 1 rfl) ?_
  refine r_callVI ⟨hx, hb, hml, hown, hts⟩ G (k_X3_longestSeason l (k := k) (σ := σ) (⟨by omega, by omega⟩) (hS.1)) (kV_X3_longestSeason hts qM_X5_197 ⟨Nat.le_of_ble_eq_true rfl, Nat.le_of_ble_eq_true rfl⟩) (rc_X3 G) rfl rfl hl.1 rfl (Nat.le_of_ble_eq_true rfl) dX5_longest_12 ⟨Nat.le_of_ble_eq_true rfl, Nat.le_of_ble_eq_true rfl⟩ (fun H locs G => ?_)
  exact r_iretx hx hb hr hlk G ⟨Nat.le_of_ble_eq_true rfl, Nat.le_of_ble_eq_true rfl⟩ (hK) (by first | rfl | omega) (by rfl) dX5_longest_15
set_option maxRecDepth 100000 in
set_option maxHeartbeats 4000000 in
theorem k_X5_ifFollowed (l : Launch) (hst0 : l.stackTraces = false) {σ : Mem} {k y q : Int} (hk0 : inR k) (hy0 : inR y) (hq0 : inR q) (hS : IS σ) : CtXI l yX5_ifFollowed (Cond.code yX5_ifFollowed cX5_ifFollowed 4 (some .int)) 7 103 2 12 (fun z => [.ref (z + 0), .int (kI k), .int (kI y), .int (kI q)]) σ (isY k y ∧ 1 ≤ q) (jud σ k y q) σ (if isY k y then IAE else IOB) := by
  intro D T z
  refine Cx_of (by decide) (Nat.le_of_ble_eq_true rfl) ?_
  intro p e s m below meth c ls hx hb hml hr hts hown hlk G hl hv htab
  have hown : s.vm.findClass RX5 = some m.cls := hown
  have hl : lv_has ls 4 [(0, .ref (z + 0)), (1, .int (kI k)), (2, .int (kI y)), (3, .int (kI q))] := hl
  refine lv_iload_n hx hb dX5_ifFollowed_0 rfl (lv_at hl 1 rfl) ?_
  refine lv_iload_n hx hb dX5_ifFollowed_1 rfl (lv_at hl 2 rfl) ?_
  refine r_need ⟨hx, hb, hml, hown, hts⟩ hst0 hlk htab G hv (k_X5_needKey l hst0 (k := k) (y := y) (σ := σ) (⟨by omega, by omega⟩) (⟨by omega, by omega⟩)) (kSx_X5_needKey hts qM_X5_50 ⟨Nat.le_of_ble_eq_true rfl, Nat.le_of_ble_eq_true rfl⟩) rfl rfl hl.1 rfl (Nat.le_of_ble_eq_true rfl) dX5_ifFollowed_2 ⟨Nat.le_of_ble_eq_true rfl, Nat.le_of_ble_eq_true rfl⟩ ⟨Nat.le_of_ble_eq_true rfl, Nat.le_of_ble_eq_true rfl⟩ rfl (fun h => ⟨fun q => h q.1, (if_neg h).symm⟩) (fun hq_1 H locs G => ?_)
  have hK := hq_1
  refine lv_iload_n hx hb dX5_ifFollowed_5 rfl (lv_at hl 3 rfl) ?_
  refine r_iconst hx hb dX5_ifFollowed_6 ?_
  refine r_need ⟨hx, hb, hml, hown, hts⟩ hst0 hlk htab G hv (k_X5_needAtLeast l hst0 (v := q) (lo := 1) (σ := σ) (hq0) (⟨by decide, by decide⟩)) (kSx_X5_needAtLeast hts qM_X5_92 ⟨Nat.le_of_ble_eq_true rfl, Nat.le_of_ble_eq_true rfl⟩) rfl rfl hl.1 rfl (Nat.le_of_ble_eq_true rfl) dX5_ifFollowed_7 ⟨Nat.le_of_ble_eq_true rfl, Nat.le_of_ble_eq_true rfl⟩ ⟨Nat.le_of_ble_eq_true rfl, Nat.le_of_ble_eq_true rfl⟩ rfl (fun h => ⟨fun q => h q.2, (if_pos hK).symm⟩) (fun hq_2 H locs G => ?_)
  have hA := hq_2
  refine lv_aload_n hx hb dX5_ifFollowed_10 rfl (lv_at hl 0 rfl) ?_
  refine gf_X5_10 hx hb hts hown G dX5_ifFollowed_11 ?_
  refine gf_X5_80 hx hb hts hown G dX5_ifFollowed_14 ?_
  refine lv_iload_n hx hb dX5_ifFollowed_17 rfl (lv_at hl 1 rfl) ?_
  refine lv_iload_n hx hb dX5_ifFollowed_18 rfl (lv_at hl 2 rfl) ?_
  refine lv_iload_n hx hb dX5_ifFollowed_19 rfl (lv_at hl 3 rfl) ?_
  refine r_callVI ⟨hx, hb, hml, hown, hts⟩ G (k_X3_judge l (k := k) (y := y) (q := q) (σ := σ) (⟨by omega, by omega⟩) (⟨by omega, by omega⟩) (hq0) (hS.1)) (kV_X3_judge hts qM_X5_200 ⟨Nat.le_of_ble_eq_true rfl, Nat.le_of_ble_eq_true rfl⟩) (rc_X3 G) rfl rfl hl.1 rfl (Nat.le_of_ble_eq_true rfl) dX5_ifFollowed_20 ⟨Nat.le_of_ble_eq_true rfl, Nat.le_of_ble_eq_true rfl⟩ (fun H locs G => ?_)
  exact r_iretx hx hb hr hlk G ⟨Nat.le_of_ble_eq_true rfl, Nat.le_of_ble_eq_true rfl⟩ (⟨hK, hA⟩) (by first | rfl | omega) (by rfl) dX5_ifFollowed_23
set_option maxRecDepth 100000 in
set_option maxHeartbeats 4000000 in
theorem k_X5_scarcest (l : Launch) {σ : Mem} (hS : IS σ) : CtI l yX5_scarcest (Cond.code yX5_scarcest cX5_scarcest 1 (some .int)) 3 70 (fun z => [.ref (z + 0)]) σ (scz σ) σ := by
  intro D T z
  refine Ct_of (by decide) (Nat.le_of_ble_eq_true rfl) ?_
  intro p e s m below meth c ls hx hb hml hr hts hown hlk G hl
  have hown : s.vm.findClass RX5 = some m.cls := hown
  have hl : lv_has ls 1 [(0, .ref (z + 0))] := hl
  refine lv_aload_n hx hb dX5_scarcest_0 rfl (lv_at hl 0 rfl) ?_
  refine gf_X5_10 hx hb hts hown G dX5_scarcest_1 ?_
  refine gf_X5_80 hx hb hts hown G dX5_scarcest_4 ?_
  refine r_callVI ⟨hx, hb, hml, hown, hts⟩ G (k_X3_scarcestKind l (σ := σ) (hS.1)) (kV_X3_scarcestKind hts qM_X5_203 ⟨by decide, by decide⟩) (rc_X3 G) rfl rfl hl.1 rfl (Nat.le_of_ble_eq_true rfl) dX5_scarcest_7 ⟨Nat.le_refl _, Nat.le_refl _⟩ (fun H locs G => ?_)
  exact r_iret hx hb hr hlk G (by first | rfl | omega) (by rfl) dX5_scarcest_10
