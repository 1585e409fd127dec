/-! the reference's buffer: at 133 (thrown 3, typed 5, at 6, one 7, two 8) and 136 -/
def ct (σ : Mem) (q : Int) : Int := if q < σ 133 5 then σ 136 q else -1
abbrev sg (σ : Mem) (lo hi : Int) : Prop := lo ≤ ct σ (σ 133 6) ∧ ct σ (σ 133 6) ≤ hi
theorem sg_lt {σ : Mem} {lo hi : Int} (h : sg σ lo hi) (h0 : 0 ≤ lo) : σ 133 6 < σ 133 5 ∧ lo ≤ σ 136 (σ 133 6) ∧ σ 136 (σ 133 6) ≤ hi := by
  obtain ⟨h1, h2⟩ := h
  unfold ct at h1 h2
  split at h1
  · rename_i hl; rw [if_pos hl] at h2; exact ⟨hl, h1, h2⟩
  · omega
def adv (σ : Mem) : Mem := up σ 133 6 (σ 133 6 + 1)
theorem adv6 {σ : Mem} : adv σ 133 6 = σ 133 6 + 1 := by simp [adv, up_ap]
theorem adv5 {σ : Mem} : adv σ 133 5 = σ 133 5 := by simp [adv, up_ap]
theorem adv136 {σ : Mem} {j : Int} : adv σ 136 j = σ 136 j := by simp [adv, up_ap]
theorem IX.adv {σ : Mem} (h : IX σ) : IX (adv σ) := h.m adv5 (fun _ => adv136)
theorem IX.f {σ : Mem} {i v : Int} (h : IX σ) (hi : i ≠ 5) : IX (up σ 133 i v) := h.m (by rw [up_ap, if_neg (by omega)]) (fun j => by rw [up_ap, if_neg (by omega)])
def tknM (σ : Mem) : Mem := up (up σ 133 7 (if sg σ 48 51 then σ 136 (σ 133 6) - 48 else -1)) 133 6 (σ 133 6 + bz (sg σ 48 51))
theorem tkn5 {σ : Mem} : tknM σ 133 5 = σ 133 5 := by simp [tknM, up_ap]
theorem tkn6 {σ : Mem} : tknM σ 133 6 = σ 133 6 + bz (sg σ 48 51) := by simp [tknM, up_ap]
theorem tkn136 {σ : Mem} {j : Int} : tknM σ 136 j = σ 136 j := by simp [tknM, up_ap]
theorem IX.tkn {σ : Mem} (h : IX σ) : IX (tknM σ) := h.m tkn5 (fun _ => tkn136)
def tky2 (σ : Mem) : Mem := adv (up (adv σ) 133 8 (σ 136 (σ 133 6 + 1) - 48))
theorem tky2_6 {σ : Mem} : tky2 σ 133 6 = σ 133 6 + 2 := by unfold tky2; rw [adv6, up_ap, if_neg (by omega), adv6]; omega
theorem tky2_5 {σ : Mem} : tky2 σ 133 5 = σ 133 5 := by unfold tky2; rw [adv5, up_ap, if_neg (by omega), adv5]
theorem tky2_136 {σ : Mem} {j : Int} : tky2 σ 136 j = σ 136 j := by unfold tky2; rw [adv136, up_ap, if_neg (by omega), adv136]
theorem tky2_8 {σ : Mem} : tky2 σ 133 8 = σ 136 (σ 133 6 + 1) - 48 := by unfold tky2 adv; simp [up_ap]
theorem IX.tky2 {σ : Mem} (h : IX σ) : IX (tky2 σ) := h.m tky2_5 (fun _ => tky2_136)
abbrev tkyP (σ : Mem) : Prop := sg σ 46 46 ∧ sg (adv σ) 48 57
def tkyM (σ : Mem) : Mem := if sg σ 46 46 then (if sg (adv σ) 48 57 then (if σ 136 (σ 133 6 + 1) - 48 = 1 ∧ sg (tky2 σ) 48 53 then adv (up (tky2 σ) 133 8 (10 + σ 136 (σ 133 6 + 2) - 48)) else tky2 σ) else adv σ) else σ
def tdy1 (σ : Mem) : Mem := adv (up σ 133 7 (σ 136 (σ 133 6) - 48))
theorem tdy1_6 {σ : Mem} : tdy1 σ 133 6 = σ 133 6 + 1 := by unfold tdy1; rw [adv6, up_ap, if_neg (by omega)]
theorem tdy1_5 {σ : Mem} : tdy1 σ 133 5 = σ 133 5 := by unfold tdy1; rw [adv5, up_ap, if_neg (by omega)]
theorem tdy1_136 {σ : Mem} {j : Int} : tdy1 σ 136 j = σ 136 j := by unfold tdy1; rw [adv136, up_ap, if_neg (by omega)]
theorem tdy1_7 {σ : Mem} : tdy1 σ 133 7 = σ 136 (σ 133 6) - 48 := by unfold tdy1 adv; simp [up_ap]
theorem IX.tdy1 {σ : Mem} (h : IX σ) : IX (tdy1 σ) := h.m tdy1_5 (fun _ => tdy1_136)
def tdyM (σ : Mem) : Mem := if sg σ 49 57 then (if sg (tdy1 σ) 48 57 then adv (up (tdy1 σ) 133 7 (10 * (σ 136 (σ 133 6) - 48) + σ 136 (σ 133 6 + 1) - 48)) else tdy1 σ) else σ
def ol (σ : Mem) : Int := if σ 133 6 < σ 133 5 then σ 136 (σ 133 6) else 32
theorem ol_rg {σ : Mem} (h : IX σ) (h0 : 0 ≤ σ 133 6) : 32 ≤ ol σ ∧ ol σ ≤ 126 := by
  unfold ol; split
  · rename_i h1; have := h.2 _ h0 h1; omega
  · omega
abbrev isP2 (l : Int) : Prop := l = 100 ∨ l = 98
abbrev isL (l : Int) : Prop := isP2 l ∨ l = 97 ∨ l = 112 ∨ l = 116
abbrev oOk (σ : Mem) : Prop := if ol σ = 116 then sg (adv σ) 49 57 else sg (adv σ) 48 51 ∧ (isP2 (ol σ) → tkyP (tknM (adv σ)))
def ordR (σ : Mem) : Int := if isL (ol σ) ∧ oOk σ then ol σ else 32
def ordM (σ : Mem) : Mem := if isL (ol σ) then (if ol σ = 116 then tdyM (adv σ) else if sg (adv σ) 48 51 ∧ isP2 (ol σ) then tkyM (tknM (adv σ)) else tknM (adv σ)) else σ
/-- what an order leaves as it was -/
theorem tdyM_o {σ : Mem} {c : Nat} {j : Int} (h : c ≠ 133 ∨ (j ≠ 6 ∧ j ≠ 7 ∧ j ≠ 8)) : tdyM σ c j = σ c j := by
  have e : ∀ μ : Mem, adv μ c j = μ c j := fun μ => by unfold adv; rw [up_ap, if_neg (by omega)]
  have e7 : ∀ (μ : Mem) (v : Int), up μ 133 7 v c j = μ c j := fun μ v => by rw [up_ap, if_neg (by omega)]
  unfold tdyM tdy1; (repeat' split) <;> simp only [e, e7]
theorem tkyM_o {σ : Mem} {c : Nat} {j : Int} (h : c ≠ 133 ∨ (j ≠ 6 ∧ j ≠ 7 ∧ j ≠ 8)) : tkyM σ c j = σ c j := by
  have e : ∀ μ : Mem, adv μ c j = μ c j := fun μ => by unfold adv; rw [up_ap, if_neg (by omega)]
  have e7 : ∀ (μ : Mem) (v : Int), up μ 133 8 v c j = μ c j := fun μ v => by rw [up_ap, if_neg (by omega)]
  unfold tkyM tky2; (repeat' split) <;> simp only [e, e7]
theorem tknM_o {σ : Mem} {c : Nat} {j : Int} (h : c ≠ 133 ∨ (j ≠ 6 ∧ j ≠ 7 ∧ j ≠ 8)) : tknM σ c j = σ c j := by
  unfold tknM; rw [up_ap, if_neg (by omega), up_ap, if_neg (by omega)]
theorem ordM_o {σ : Mem} {c : Nat} {j : Int} (h : c ≠ 133 ∨ (j ≠ 6 ∧ j ≠ 7 ∧ j ≠ 8)) : ordM σ c j = σ c j := by
  have e : ∀ μ : Mem, adv μ c j = μ c j := fun μ => by unfold adv; rw [up_ap, if_neg (by omega)]
  unfold ordM; (repeat' split) <;> simp only [tdyM_o h, tkyM_o h, tknM_o h, e]
theorem IX.ord {σ : Mem} (h : IX σ) : IX (ordM σ) := h.m (ordM_o (by omega)) (fun _ => ordM_o (by omega))
/-- it goes forward, and not past the end -/
theorem tdyM_6 {σ : Mem} (h : σ 133 6 ≤ σ 133 5) : σ 133 6 ≤ tdyM σ 133 6 ∧ tdyM σ 133 6 ≤ σ 133 5 := by
  unfold tdyM
  split
  · rename_i h1; have g1 := sg_lt h1 (by omega)
    split
    · rename_i h2; have g2 := sg_lt h2 (by omega)
      rw [tdy1_6, tdy1_5] at g2
      rw [adv6, up_ap, if_neg (by omega), tdy1_6]; omega
    · rw [tdy1_6]; omega
  · omega
theorem tkyM_6 {σ : Mem} (h : σ 133 6 ≤ σ 133 5) : σ 133 6 ≤ tkyM σ 133 6 ∧ tkyM σ 133 6 ≤ σ 133 5 := by
  unfold tkyM
  split
  · rename_i h1; have g1 := sg_lt h1 (by omega)
    split
    · rename_i h2; have g2 := sg_lt h2 (by omega)
      rw [adv6, adv5] at g2
      split
      · rename_i h3; have g3 := sg_lt h3.2 (by omega)
        rw [tky2_6, tky2_5] at g3
        rw [adv6, up_ap, if_neg (by omega), tky2_6]; omega
      · rw [tky2_6]; omega
    · rw [adv6]; omega
  · omega
theorem tknM_6 {σ : Mem} (h : σ 133 6 ≤ σ 133 5) : σ 133 6 ≤ tknM σ 133 6 ∧ tknM σ 133 6 ≤ σ 133 5 := by
  rw [tkn6]
  by_cases h1 : sg σ 48 51
  · have g1 := sg_lt h1 (by omega); rw [bz_t h1]; omega
  · rw [bz_f h1]; omega
theorem ordM_6 {σ : Mem} (h : σ 133 6 ≤ σ 133 5) : σ 133 6 ≤ ordM σ 133 6 ∧ ordM σ 133 6 ≤ σ 133 5 := by
  unfold ordM
  by_cases hl : isL (ol σ)
  · have hlt : σ 133 6 < σ 133 5 := by
      by_cases q : σ 133 6 < σ 133 5
      · exact q
      · exfalso; have e : ol σ = 32 := if_neg q
        rw [e] at hl; omega
    have ha : adv σ 133 6 ≤ adv σ 133 5 := by rw [adv6, adv5]; omega
    have h1 := tdyM_6 ha
    have h2 := tknM_6 ha
    have h3 := tkyM_6 (σ := tknM (adv σ)) (by rw [tkn5]; exact h2.2)
    rw [tkn5] at h3
    rw [adv6, adv5] at *
    rw [if_pos hl]
    (repeat' split) <;> omega
  · rw [if_neg hl]; omega
set_option maxRecDepth 100000 in
set_option maxHeartbeats 4000000 in
theorem k_X6_isSign (l : Launch) {σ : Mem} {lo hi : Int} (hlo : 0 ≤ lo ∧ lo ≤ 200) (hhi : 0 ≤ hi ∧ hi ≤ 200) (ha : 0 ≤ σ 133 6 ∧ σ 133 6 ≤ 100) (hX : IX σ) : CtI l yX6_isSign (Cond.code yX6_isSign cX6_isSign 3 (some .boolean)) 1 22 (fun z => [.ref (z + 133), .int (kI lo), .int (kI hi)]) σ (bz (sg σ lo hi)) σ := by
  intro D T z
  refine Ct_of (by decide) (Nat.le_of_ble_eq_true rfl) ?_
  intro p e s m below meth c ls hx hb hml hr hts hown hlk G hl
  have hown : s.vm.findClass RX6 = some m.cls := hown
  have hl : lv_has ls 3 [(0, .ref (z + 133)), (1, .int (kI lo)), (2, .int (kI hi))] := hl
  have hx0 := hX.1
  refine lv_aload_n hx hb dX6_isSign_0 rfl (lv_at hl 0 rfl) ?_
  refine gf_X6_130 hx hb hts hown G dX6_isSign_1 ?_
  refine lv_aload_n hx hb dX6_isSign_4 rfl (lv_at hl 0 rfl) ?_
  refine gf_X6_127 hx hb hts hown G dX6_isSign_5 ?_
  refine r_icmp_ge (tgt := 32) hx hb ⟨by omega, by omega⟩ ⟨by omega, by omega⟩ dX6_isSign_8 (by decide) (fun h_1 => ?_) (fun h_1 => ?_)
  · skip
    have hct : ct σ (σ 133 6) = -1 := if_neg (by omega)
    refine r_iconst hx hb dX6_isSign_32 ?_
    exact r_zret hx hb hr hlk G (Or.inl rfl) (by first | exact one_bz (by omega) | exact zero_bz (by omega)) (by rfl) dX6_isSign_33
  · skip
    have hct : ct σ (σ 133 6) = σ 136 (σ 133 6) := if_pos (by omega)
    have hcr := hX.2 (σ 133 6) (by omega) (by omega)
    refine lv_aload_n hx hb dX6_isSign_11 rfl (lv_at hl 0 rfl) ?_
    refine gf_X6_17 hx hb hts hown G dX6_isSign_12 ?_
    refine lv_aload_n hx hb dX6_isSign_15 rfl (lv_at hl 0 rfl) ?_
    refine gf_X6_130 hx hb hts hown G dX6_isSign_16 ?_
    refine r_cald hx hb G 136 (by decide) (N := 60) (fun _ => rfl) (by omega) (by omega) (by decide) dX6_isSign_19 ?_
    refine lv_iload_n hx hb dX6_isSign_20 rfl (lv_at hl 1 rfl) ?_
    refine lv_iload_n hx hb dX6_isSign_21 rfl (lv_at hl 2 rfl) ?_
    refine r_callSI ⟨hx, hb, hml, hown, hts⟩ G (k_X6_in l (v := σ 136 (σ 133 6)) (lo := lo) (hi := hi) (σ := σ) (⟨by omega, by omega⟩) (⟨by omega, by omega⟩) (⟨by omega, by omega⟩)) (kS_X6_in hts qM_X6_32 ⟨by decide, by decide⟩) rfl rfl hl.1 rfl (Nat.le_of_ble_eq_true rfl) dX6_isSign_22 ⟨Nat.le_refl _, Nat.le_refl _⟩ (fun H locs G => ?_)
    refine r_zeq (tgt := 32) hx hb dX6_isSign_25 (by decide) (fun h_2 => ?_) (fun h_2 => ?_)
    · skip
      refine r_iconst hx hb dX6_isSign_32 ?_
      exact r_zret hx hb hr hlk G (Or.inl rfl) (by first | exact one_bz (by omega) | exact zero_bz (by omega)) (by rfl) dX6_isSign_33
    · skip
      refine r_iconst hx hb dX6_isSign_28 ?_
      refine lv_goto (tgt := 33) hx hb dX6_isSign_29 (by decide) ?_
      exact r_zret hx hb hr hlk G (Or.inr rfl) (by first | exact one_bz (by omega) | exact zero_bz (by omega)) (by rfl) dX6_isSign_33
set_option maxRecDepth 100000 in
set_option maxHeartbeats 4000000 in
theorem k_X6_takesKind (l : Launch) {σ : Mem} (ha : 0 ≤ σ 133 6 ∧ σ 133 6 ≤ 100) (hX : IX σ) : CtI l yX6_takesKind (Cond.code yX6_takesKind cX6_takesKind 2 (some .boolean)) 2 44 (fun z => [.ref (z + 133)]) σ (bz (sg σ 48 51)) (tknM σ) := by
  intro D T z
  refine Ct_of (by decide) (Nat.le_of_ble_eq_true rfl) ?_
  intro p e s m below meth c ls hx hb hml hr hts hown hlk G hl
  have hown : s.vm.findClass RX6 = some m.cls := hown
  have hl : lv_has ls 2 [(0, .ref (z + 133))] := hl
  have hx0 := hX.1
  refine lv_aload_n hx hb dX6_takesKind_0 rfl (lv_at hl 0 rfl) ?_
  refine r_bipush hx hb dX6_takesKind_1 (by decide +kernel) ?_
  refine r_bipush hx hb dX6_takesKind_3 (by decide +kernel) ?_
  refine r_callVI ⟨hx, hb, hml, hown, hts⟩ G (k_X6_isSign l (lo := 48) (hi := 51) (σ := σ) (by omega) (by omega) (by omega) (hX)) (kV_X6_isSign hts qM_X6_133 ⟨by decide, by decide⟩) (rc_X6 G) rfl rfl hl.1 rfl (Nat.le_of_ble_eq_true rfl) dX6_takesKind_5 ⟨Nat.le_refl _, Nat.le_refl _⟩ (fun H locs G => ?_)
  refine lv_istore_n (lv' := [(1, .int (kI (bz (sg σ 48 51)))), (0, .ref (z + 133))]) hx hb dX6_takesKind_8 rfl hl (by decide) rfl (fun ls hl => ?_)
  refine lv_aload_n hx hb dX6_takesKind_9 rfl (lv_at hl 1 rfl) ?_
  refine lv_iload_n hx hb dX6_takesKind_10 rfl (lv_at hl 0 rfl) ?_
  refine r_zeq (tgt := 29) hx hb dX6_takesKind_11 (by decide) (fun h_1 => ?_) (fun h_1 => ?_)
  · skip
    have hP := h_1
    refine r_iconst hx hb dX6_takesKind_29 ?_
    refine r_top (b := if sg σ 48 51 then σ 136 (σ 133 6) - 48 else -1) (by first | rw [if_pos hP] | rw [if_neg hP]) ?_
    skip
    refine pf_X6_137 hx hb hts hown G dX6_takesKind_30 (fun H locs G => ?_)
    refine lv_aload_n hx hb dX6_takesKind_33 rfl (lv_at hl 1 rfl) ?_
    refine lv_dup hx hb dX6_takesKind_34 rfl ?_
    refine gf_X6_130 hx hb hts hown G dX6_takesKind_35 ?_
    refine r_top (b := σ 133 6) (by simp [up_ap]) ?_
    refine lv_iload_n hx hb dX6_takesKind_38 rfl (lv_at hl 0 rfl) ?_
    refine r_zeq (tgt := 46) hx hb dX6_takesKind_39 (by decide) (fun _ => ?_) (fun h_2 => absurd h_2 h_1)
    refine r_iconst hx hb dX6_takesKind_46 ?_
    refine r_iadd hx hb dX6_takesKind_47 ?_
    refine r_top (b := σ 133 6 + bz (sg σ 48 51)) (by first | rw [bz_t hP] | rw [bz_f hP]) ?_
    refine pf_X6_130 hx hb hts hown G dX6_takesKind_48 (fun H locs G => ?_)
    refine lv_iload_n hx hb dX6_takesKind_51 rfl (lv_at hl 0 rfl) ?_
    exact r_zret hx hb hr hlk G (bz_01) (by first | rfl | omega) (by rfl) dX6_takesKind_52
  · skip
    have hP := h_1
    have hlt := sg_lt hP (by omega)
    refine lv_aload_n hx hb dX6_takesKind_14 rfl (lv_at hl 1 rfl) ?_
    refine gf_X6_17 hx hb hts hown G dX6_takesKind_15 ?_
    refine lv_aload_n hx hb dX6_takesKind_18 rfl (lv_at hl 1 rfl) ?_
    refine gf_X6_130 hx hb hts hown G dX6_takesKind_19 ?_
    refine r_cald hx hb G 136 (by decide) (N := 60) (fun _ => rfl) (by omega) (by omega) (by decide) dX6_takesKind_22 ?_
    refine r_bipush hx hb dX6_takesKind_23 (by decide +kernel) ?_
    refine r_isub hx hb dX6_takesKind_25 ?_
    refine lv_goto (tgt := 30) hx hb dX6_takesKind_26 (by decide) ?_
    refine r_top (b := if sg σ 48 51 then σ 136 (σ 133 6) - 48 else -1) (by first | rw [if_pos hP] | rw [if_neg hP]) ?_
    skip
    refine pf_X6_137 hx hb hts hown G dX6_takesKind_30 (fun H locs G => ?_)
    refine lv_aload_n hx hb dX6_takesKind_33 rfl (lv_at hl 1 rfl) ?_
    refine lv_dup hx hb dX6_takesKind_34 rfl ?_
    refine gf_X6_130 hx hb hts hown G dX6_takesKind_35 ?_
    refine r_top (b := σ 133 6) (by simp [up_ap]) ?_
    refine lv_iload_n hx hb dX6_takesKind_38 rfl (lv_at hl 0 rfl) ?_
    refine r_zeq (tgt := 46) hx hb dX6_takesKind_39 (by decide) (fun h_3 => absurd h_1 h_3) (fun _ => ?_)
    refine r_iconst hx hb dX6_takesKind_42 ?_
    refine lv_goto (tgt := 47) hx hb dX6_takesKind_43 (by decide) ?_
    refine r_iadd hx hb dX6_takesKind_47 ?_
    refine r_top (b := σ 133 6 + bz (sg σ 48 51)) (by first | rw [bz_t hP] | rw [bz_f hP]) ?_
    refine pf_X6_130 hx hb hts hown G dX6_takesKind_48 (fun H locs G => ?_)
    refine lv_iload_n hx hb dX6_takesKind_51 rfl (lv_at hl 0 rfl) ?_
    exact r_zret hx hb hr hlk G (bz_01) (by first | rfl | omega) (by rfl) dX6_takesKind_52
set_option maxRecDepth 100000 in
set_option maxHeartbeats 4000000 in
theorem k_X6_takesKey (l : Launch) {σ : Mem} (ha : 0 ≤ σ 133 6 ∧ σ 133 6 ≤ 100) (hX : IX σ) : CtI l yX6_takesKey (Cond.code yX6_takesKey cX6_takesKey 1 (some .boolean)) 2 44 (fun z => [.ref (z + 133)]) σ (bz (tkyP σ)) (tkyM σ) := by
  intro D T z
  refine Ct_of (by decide) (Nat.le_of_ble_eq_true rfl) ?_
  intro p e s m below meth c ls hx hb hml hr hts hown hlk G hl
  have hown : s.vm.findClass RX6 = some m.cls := hown
  have hl : lv_has ls 1 [(0, .ref (z + 133))] := hl
  have hx0 := hX.1
  refine lv_aload_n hx hb dX6_takesKey_0 rfl (lv_at hl 0 rfl) ?_
  refine r_bipush hx hb dX6_takesKey_1 (by decide +kernel) ?_
  refine r_bipush hx hb dX6_takesKey_3 (by decide +kernel) ?_
  refine r_callVI ⟨hx, hb, hml, hown, hts⟩ G (k_X6_isSign l (lo := 46) (hi := 46) (σ := σ) (by omega) (by omega) (by omega) (hX)) (kV_X6_isSign hts qM_X6_133 ⟨by decide, by decide⟩) (rc_X6 G) rfl rfl hl.1 rfl (Nat.le_of_ble_eq_true rfl) dX6_takesKey_5 ⟨Nat.le_refl _, Nat.le_refl _⟩ (fun H locs G => ?_)
  refine r_zne (tgt := 13) hx hb dX6_takesKey_8 (by decide) (fun h_1 => ?_) (fun h_1 => ?_)
  · skip
    have h46 := h_1
    have g1 := sg_lt h46 (by omega)
    refine lv_aload_n hx hb dX6_takesKey_13 rfl (lv_at hl 0 rfl) ?_
    refine lv_dup hx hb dX6_takesKey_14 rfl ?_
    refine gf_X6_130 hx hb hts hown G dX6_takesKey_15 ?_
    refine r_iconst hx hb dX6_takesKey_18 ?_
    refine r_iadd hx hb dX6_takesKey_19 ?_
    refine pf_X6_130 hx hb hts hown G dX6_takesKey_20 (fun H locs G => ?_)
    have G := G.cong (τ := adv σ) (rfl)
    refine lv_aload_n hx hb dX6_takesKey_23 rfl (lv_at hl 0 rfl) ?_
    refine r_bipush hx hb dX6_takesKey_24 (by decide +kernel) ?_
    refine r_bipush hx hb dX6_takesKey_26 (by decide +kernel) ?_
    refine r_callVI ⟨hx, hb, hml, hown, hts⟩ G (k_X6_isSign l (lo := 48) (hi := 57) (σ := adv σ) (by omega) (by omega) (by rw [adv6]; omega) (hX.adv)) (kV_X6_isSign hts qM_X6_133 ⟨by decide, by decide⟩) (rc_X6 G) rfl rfl hl.1 rfl (Nat.le_of_ble_eq_true rfl) dX6_takesKey_28 ⟨Nat.le_refl _, Nat.le_refl _⟩ (fun H locs G => ?_)
    refine r_zne (tgt := 36) hx hb dX6_takesKey_31 (by decide) (fun h_2 => ?_) (fun h_2 => ?_)
    · skip
      have hdg := h_2
      have g2 := sg_lt hdg (by omega)
      rw [adv6, adv5, adv136] at g2
      refine lv_aload_n hx hb dX6_takesKey_36 rfl (lv_at hl 0 rfl) ?_
      refine lv_aload_n hx hb dX6_takesKey_37 rfl (lv_at hl 0 rfl) ?_
      refine gf_X6_17 hx hb hts hown G dX6_takesKey_38 ?_
      refine lv_aload_n hx hb dX6_takesKey_41 rfl (lv_at hl 0 rfl) ?_
      refine gf_X6_130 hx hb hts hown G dX6_takesKey_42 ?_
      refine r_top (b := σ 133 6 + 1) (adv6) ?_
      refine r_cald hx hb G 136 (by decide) (N := 60) (fun _ => rfl) (by omega) (by omega) (by decide) dX6_takesKey_45 ?_
      refine r_top (b := σ 136 (σ 133 6 + 1)) (adv136) ?_
      refine r_bipush hx hb dX6_takesKey_46 (by decide +kernel) ?_
      refine r_isub hx hb dX6_takesKey_48 ?_
      refine pf_X6_140 hx hb hts hown G dX6_takesKey_49 (fun H locs G => ?_)
      refine lv_aload_n hx hb dX6_takesKey_52 rfl (lv_at hl 0 rfl) ?_
      refine lv_dup hx hb dX6_takesKey_53 rfl ?_
      refine gf_X6_130 hx hb hts hown G dX6_takesKey_54 ?_
      refine r_top (b := (adv σ) 133 6) (by simp [up_ap]) ?_
      refine r_iconst hx hb dX6_takesKey_57 ?_
      refine r_iadd hx hb dX6_takesKey_58 ?_
      refine pf_X6_130 hx hb hts hown G dX6_takesKey_59 (fun H locs G => ?_)
      have G := G.cong (τ := tky2 σ) (by unfold tky2; simp [adv, up_ap])
      refine lv_aload_n hx hb dX6_takesKey_62 rfl (lv_at hl 0 rfl) ?_
      refine gf_X6_140 hx hb hts hown G dX6_takesKey_63 ?_
      refine r_top (b := σ 136 (σ 133 6 + 1) - 48) (tky2_8) ?_
      refine r_iconst hx hb dX6_takesKey_66 ?_
      refine r_icmp_ne (tgt := 110) hx hb ⟨by omega, by omega⟩ ⟨by decide, by decide⟩ dX6_takesKey_67 (by decide) (fun h_3 => ?_) (fun h_3 => ?_)
      · skip
        have hc : ¬ (σ 136 (σ 133 6 + 1) - 48 = 1 ∧ sg (tky2 σ) 48 53) := fun q => h_3 q.1
        refine r_iconst hx hb dX6_takesKey_110 ?_
        exact r_zret hx hb hr hlk G (Or.inr rfl) (by first | exact one_bz ⟨h46, hdg⟩ | exact zero_bz (fun q => h46 q.1) | exact zero_bz (fun q => hdg q.2)) (by unfold tkyM; rw [if_pos h46, if_pos hdg]; first | rw [if_pos hc] | rw [if_neg hc]) dX6_takesKey_111
      · skip
        have htw := h_3
        refine lv_aload_n hx hb dX6_takesKey_70 rfl (lv_at hl 0 rfl) ?_
        refine r_bipush hx hb dX6_takesKey_71 (by decide +kernel) ?_
        refine r_bipush hx hb dX6_takesKey_73 (by decide +kernel) ?_
        refine r_callVI ⟨hx, hb, hml, hown, hts⟩ G (k_X6_isSign l (lo := 48) (hi := 53) (σ := tky2 σ) (by omega) (by omega) (by rw [tky2_6]; omega) (hX.tky2)) (kV_X6_isSign hts qM_X6_133 ⟨by decide, by decide⟩) (rc_X6 G) rfl rfl hl.1 rfl (Nat.le_of_ble_eq_true rfl) dX6_takesKey_75 ⟨Nat.le_refl _, Nat.le_refl _⟩ (fun H locs G => ?_)
        refine r_zeq (tgt := 110) hx hb dX6_takesKey_78 (by decide) (fun h_4 => ?_) (fun h_4 => ?_)
        · skip
          have hc : ¬ (σ 136 (σ 133 6 + 1) - 48 = 1 ∧ sg (tky2 σ) 48 53) := fun q => h_4 q.2
          refine r_iconst hx hb dX6_takesKey_110 ?_
          exact r_zret hx hb hr hlk G (Or.inr rfl) (by first | exact one_bz ⟨h46, hdg⟩ | exact zero_bz (fun q => h46 q.1) | exact zero_bz (fun q => hdg q.2)) (by unfold tkyM; rw [if_pos h46, if_pos hdg]; first | rw [if_pos hc] | rw [if_neg hc]) dX6_takesKey_111
        · skip
          have hc : σ 136 (σ 133 6 + 1) - 48 = 1 ∧ sg (tky2 σ) 48 53 := ⟨htw, h_4⟩
          have g3 := sg_lt h_4 (by omega)
          rw [tky2_6, tky2_5, tky2_136] at g3
          refine lv_aload_n hx hb dX6_takesKey_81 rfl (lv_at hl 0 rfl) ?_
          refine r_bipush hx hb dX6_takesKey_82 (by decide +kernel) ?_
          refine lv_aload_n hx hb dX6_takesKey_84 rfl (lv_at hl 0 rfl) ?_
          refine gf_X6_17 hx hb hts hown G dX6_takesKey_85 ?_
          refine lv_aload_n hx hb dX6_takesKey_88 rfl (lv_at hl 0 rfl) ?_
          refine gf_X6_130 hx hb hts hown G dX6_takesKey_89 ?_
          refine r_top (b := σ 133 6 + 2) (tky2_6) ?_
          refine r_cald hx hb G 136 (by decide) (N := 60) (fun _ => rfl) (by omega) (by omega) (by decide) dX6_takesKey_92 ?_
          refine r_top (b := σ 136 (σ 133 6 + 2)) (tky2_136) ?_
          refine r_iadd hx hb dX6_takesKey_93 ?_
          refine r_bipush hx hb dX6_takesKey_94 (by decide +kernel) ?_
          refine r_isub hx hb dX6_takesKey_96 ?_
          refine pf_X6_140 hx hb hts hown G dX6_takesKey_97 (fun H locs G => ?_)
          refine lv_aload_n hx hb dX6_takesKey_100 rfl (lv_at hl 0 rfl) ?_
          refine lv_dup hx hb dX6_takesKey_101 rfl ?_
          refine gf_X6_130 hx hb hts hown G dX6_takesKey_102 ?_
          refine r_top (b := (tky2 σ) 133 6) (by simp [up_ap]) ?_
          refine r_iconst hx hb dX6_takesKey_105 ?_
          refine r_iadd hx hb dX6_takesKey_106 ?_
          refine pf_X6_130 hx hb hts hown G dX6_takesKey_107 (fun H locs G => ?_)
          have G := G.cong (τ := adv (up (tky2 σ) 133 8 (10 + σ 136 (σ 133 6 + 2) - 48))) (by unfold adv; simp [up_ap])
          refine r_iconst hx hb dX6_takesKey_110 ?_
          exact r_zret hx hb hr hlk G (Or.inr rfl) (by first | exact one_bz ⟨h46, hdg⟩ | exact zero_bz (fun q => h46 q.1) | exact zero_bz (fun q => hdg q.2)) (by unfold tkyM; rw [if_pos h46, if_pos hdg]; first | rw [if_pos hc] | rw [if_neg hc]) dX6_takesKey_111
    · skip
      have hdg := h_2
      refine r_iconst hx hb dX6_takesKey_34 ?_
      exact r_zret hx hb hr hlk G (Or.inl rfl) (by first | exact one_bz ⟨h46, hdg⟩ | exact zero_bz (fun q => h46 q.1) | exact zero_bz (fun q => hdg q.2)) (by unfold tkyM; rw [if_pos h46, if_neg hdg]) dX6_takesKey_35
  · skip
    have h46 := h_1
    refine r_iconst hx hb dX6_takesKey_11 ?_
    exact r_zret hx hb hr hlk G (Or.inl rfl) (by first | exact one_bz ⟨h46, hdg⟩ | exact zero_bz (fun q => h46 q.1) | exact zero_bz (fun q => hdg q.2)) (by unfold tkyM; rw [if_neg h46]) dX6_takesKey_12
set_option maxRecDepth 100000 in
set_option maxHeartbeats 4000000 in
theorem k_X6_takesDays (l : Launch) {σ : Mem} (ha : 0 ≤ σ 133 6 ∧ σ 133 6 ≤ 100) (hX : IX σ) : CtI l yX6_takesDays (Cond.code yX6_takesDays cX6_takesDays 1 (some .boolean)) 2 44 (fun z => [.ref (z + 133)]) σ (bz (sg σ 49 57)) (tdyM σ) := by
  intro D T z
  refine Ct_of (by decide) (Nat.le_of_ble_eq_true rfl) ?_
  intro p e s m below meth c ls hx hb hml hr hts hown hlk G hl
  have hown : s.vm.findClass RX6 = some m.cls := hown
  have hl : lv_has ls 1 [(0, .ref (z + 133))] := hl
  have hx0 := hX.1
  refine lv_aload_n hx hb dX6_takesDays_0 rfl (lv_at hl 0 rfl) ?_
  refine r_bipush hx hb dX6_takesDays_1 (by decide +kernel) ?_
  refine r_bipush hx hb dX6_takesDays_3 (by decide +kernel) ?_
  refine r_callVI ⟨hx, hb, hml, hown, hts⟩ G (k_X6_isSign l (lo := 49) (hi := 57) (σ := σ) (by omega) (by omega) (by omega) (hX)) (kV_X6_isSign hts qM_X6_133 ⟨by decide, by decide⟩) (rc_X6 G) rfl rfl hl.1 rfl (Nat.le_of_ble_eq_true rfl) dX6_takesDays_5 ⟨Nat.le_refl _, Nat.le_refl _⟩ (fun H locs G => ?_)
  refine r_zne (tgt := 13) hx hb dX6_takesDays_8 (by decide) (fun h_1 => ?_) (fun h_1 => ?_)
  · skip
    have h49 := h_1
    have g1 := sg_lt h49 (by omega)
    refine lv_aload_n hx hb dX6_takesDays_13 rfl (lv_at hl 0 rfl) ?_
    refine lv_aload_n hx hb dX6_takesDays_14 rfl (lv_at hl 0 rfl) ?_
    refine gf_X6_17 hx hb hts hown G dX6_takesDays_15 ?_
    refine lv_aload_n hx hb dX6_takesDays_18 rfl (lv_at hl 0 rfl) ?_
    refine gf_X6_130 hx hb hts hown G dX6_takesDays_19 ?_
    refine r_cald hx hb G 136 (by decide) (N := 60) (fun _ => rfl) (by omega) (by omega) (by decide) dX6_takesDays_22 ?_
    refine r_bipush hx hb dX6_takesDays_23 (by decide +kernel) ?_
    refine r_isub hx hb dX6_takesDays_25 ?_
    refine pf_X6_137 hx hb hts hown G dX6_takesDays_26 (fun H locs G => ?_)
    refine lv_aload_n hx hb dX6_takesDays_29 rfl (lv_at hl 0 rfl) ?_
    refine lv_dup hx hb dX6_takesDays_30 rfl ?_
    refine gf_X6_130 hx hb hts hown G dX6_takesDays_31 ?_
    refine r_top (b := σ 133 6) (by simp [up_ap]) ?_
    refine r_iconst hx hb dX6_takesDays_34 ?_
    refine r_iadd hx hb dX6_takesDays_35 ?_
    refine pf_X6_130 hx hb hts hown G dX6_takesDays_36 (fun H locs G => ?_)
    have G := G.cong (τ := tdy1 σ) (by unfold tdy1 adv; simp [up_ap])
    refine lv_aload_n hx hb dX6_takesDays_39 rfl (lv_at hl 0 rfl) ?_
    refine r_bipush hx hb dX6_takesDays_40 (by decide +kernel) ?_
    refine r_bipush hx hb dX6_takesDays_42 (by decide +kernel) ?_
    refine r_callVI ⟨hx, hb, hml, hown, hts⟩ G (k_X6_isSign l (lo := 48) (hi := 57) (σ := tdy1 σ) (by omega) (by omega) (by rw [tdy1_6]; omega) (hX.tdy1)) (kV_X6_isSign hts qM_X6_133 ⟨by decide, by decide⟩) (rc_X6 G) rfl rfl hl.1 rfl (Nat.le_of_ble_eq_true rfl) dX6_takesDays_44 ⟨Nat.le_refl _, Nat.le_refl _⟩ (fun H locs G => ?_)
    refine r_zeq (tgt := 84) hx hb dX6_takesDays_47 (by decide) (fun h_2 => ?_) (fun h_2 => ?_)
    · skip
      have hdg := h_2
      refine r_iconst hx hb dX6_takesDays_84 ?_
      exact r_zret hx hb hr hlk G (Or.inr rfl) (by first | exact one_bz h49 | exact zero_bz h49) (by unfold tdyM; rw [if_pos h49]; first | rw [if_pos hdg] | rw [if_neg hdg]) dX6_takesDays_85
    · skip
      have hdg := h_2
      have g2 := sg_lt hdg (by omega)
      rw [tdy1_6, tdy1_5, tdy1_136] at g2
      refine lv_aload_n hx hb dX6_takesDays_50 rfl (lv_at hl 0 rfl) ?_
      refine r_bipush hx hb dX6_takesDays_51 (by decide +kernel) ?_
      refine lv_aload_n hx hb dX6_takesDays_53 rfl (lv_at hl 0 rfl) ?_
      refine gf_X6_137 hx hb hts hown G dX6_takesDays_54 ?_
      refine r_top (b := σ 136 (σ 133 6) - 48) (tdy1_7) ?_
      refine r_imul hx hb dX6_takesDays_57 ?_
      refine lv_aload_n hx hb dX6_takesDays_58 rfl (lv_at hl 0 rfl) ?_
      refine gf_X6_17 hx hb hts hown G dX6_takesDays_59 ?_
      refine lv_aload_n hx hb dX6_takesDays_62 rfl (lv_at hl 0 rfl) ?_
      refine gf_X6_130 hx hb hts hown G dX6_takesDays_63 ?_
      refine r_top (b := σ 133 6 + 1) (tdy1_6) ?_
      refine r_cald hx hb G 136 (by decide) (N := 60) (fun _ => rfl) (by omega) (by omega) (by decide) dX6_takesDays_66 ?_
      refine r_top (b := σ 136 (σ 133 6 + 1)) (tdy1_136) ?_
      refine r_iadd hx hb dX6_takesDays_67 ?_
      refine r_bipush hx hb dX6_takesDays_68 (by decide +kernel) ?_
      refine r_isub hx hb dX6_takesDays_70 ?_
      refine pf_X6_137 hx hb hts hown G dX6_takesDays_71 (fun H locs G => ?_)
      refine lv_aload_n hx hb dX6_takesDays_74 rfl (lv_at hl 0 rfl) ?_
      refine lv_dup hx hb dX6_takesDays_75 rfl ?_
      refine gf_X6_130 hx hb hts hown G dX6_takesDays_76 ?_
      refine r_top (b := (tdy1 σ) 133 6) (by simp [up_ap]) ?_
      refine r_iconst hx hb dX6_takesDays_79 ?_
      refine r_iadd hx hb dX6_takesDays_80 ?_
      refine pf_X6_130 hx hb hts hown G dX6_takesDays_81 (fun H locs G => ?_)
      have G := G.cong (τ := adv (up (tdy1 σ) 133 7 (10 * (σ 136 (σ 133 6) - 48) + σ 136 (σ 133 6 + 1) - 48))) (by unfold adv; simp [up_ap])
      refine r_iconst hx hb dX6_takesDays_84 ?_
      exact r_zret hx hb hr hlk G (Or.inr rfl) (by first | exact one_bz h49 | exact zero_bz h49) (by unfold tdyM; rw [if_pos h49]; first | rw [if_pos hdg] | rw [if_neg hdg]) dX6_takesDays_85
  · skip
    have h49 := h_1
    refine r_iconst hx hb dX6_takesDays_11 ?_
    exact r_zret hx hb hr hlk G (Or.inl rfl) (by first | exact one_bz h49 | exact zero_bz h49) (by unfold tdyM; rw [if_neg h49]) dX6_takesDays_12
theorem ol_lt {σ : Mem} (h : isL (ol σ)) : σ 133 6 < σ 133 5 := by
  by_cases q : σ 133 6 < σ 133 5
  · exact q
  · exfalso; have e : ol σ = 32 := if_neg q
    rw [e] at h; omega
theorem oOk_d {σ : Mem} (h : ol σ = 116) : oOk σ ↔ sg (adv σ) 49 57 := by unfold oOk; rw [if_pos h]
theorem oOk_k {σ : Mem} (h : ¬ ol σ = 116) : oOk σ ↔ (sg (adv σ) 48 51 ∧ (isP2 (ol σ) → tkyP (tknM (adv σ)))) := by unfold oOk; rw [if_neg h]
theorem ordM_x {σ : Mem} (h : ¬ isL (ol σ)) : ordM σ = σ := by unfold ordM; rw [if_neg h]
theorem ordM_d {σ : Mem} (h : isL (ol σ)) (h1 : ol σ = 116) : ordM σ = tdyM (adv σ) := by unfold ordM; rw [if_pos h, if_pos h1]
theorem ordM_n {σ : Mem} (h : isL (ol σ)) (h1 : ¬ ol σ = 116) (h2 : ¬ sg (adv σ) 48 51) : ordM σ = tknM (adv σ) := by
  have h3 : ¬ (sg (adv σ) 48 51 ∧ isP2 (ol σ)) := fun q => h2 q.1
  unfold ordM; rw [if_pos h, if_neg h1, if_neg h3]
theorem ordM_1 {σ : Mem} (h : isL (ol σ)) (h1 : ¬ ol σ = 116) (h2 : ¬ isP2 (ol σ)) : ordM σ = tknM (adv σ) := by
  have h3 : ¬ (sg (adv σ) 48 51 ∧ isP2 (ol σ)) := fun q => h2 q.2
  unfold ordM; rw [if_pos h, if_neg h1, if_neg h3]
theorem ordM_2 {σ : Mem} (h : isL (ol σ)) (h1 : ¬ ol σ = 116) (h2 : sg (adv σ) 48 51) (h3 : isP2 (ol σ)) : ordM σ = tkyM (tknM (adv σ)) := by
  have h4 : sg (adv σ) 48 51 ∧ isP2 (ol σ) := ⟨h2, h3⟩
  unfold ordM; rw [if_pos h, if_neg h1, if_pos h4]
theorem ordR_y {σ : Mem} (h : isL (ol σ)) (h1 : oOk σ) : ol σ = ordR σ := (if_pos ⟨h, h1⟩).symm
theorem ordR_n {σ : Mem} (h1 : ¬ oOk σ) : 32 = ordR σ := (if_neg (fun q => h1 q.2)).symm
theorem ordR_x {σ : Mem} (h1 : ¬ isL (ol σ)) : 32 = ordR σ := (if_neg (fun q => h1 q.1)).symm
set_option maxRecDepth 100000 in
set_option maxHeartbeats 4000000 in
theorem k_X6_order (l : Launch) {σ : Mem} (ha : 0 ≤ σ 133 6 ∧ σ 133 6 ≤ 100) (hX : IX σ) : CtI l yX6_order (Cond.code yX6_order cX6_order 4 (some .char)) 3 65 (fun z => [.ref (z + 133)]) σ (ordR σ) (ordM σ) := by
  intro D T z
  refine Ct_of (by decide) (Nat.le_of_ble_eq_true rfl) ?_
  intro p e s m below meth c ls hx hb hml hr hts hown hlk G hl
  have hown : s.vm.findClass RX6 = some m.cls := hown
  have hl : lv_has ls 4 [(0, .ref (z + 133))] := hl
  have hx0 := hX.1
  have hor := ol_rg hX ha.1
  refine lv_aload_n hx hb dX6_order_0 rfl (lv_at hl 0 rfl) ?_
  refine gf_X6_130 hx hb hts hown G dX6_order_1 ?_
  refine lv_aload_n hx hb dX6_order_4 rfl (lv_at hl 0 rfl) ?_
  refine gf_X6_127 hx hb hts hown G dX6_order_5 ?_
  refine r_icmp_ge (tgt := 23) hx hb ⟨by omega, by omega⟩ ⟨by omega, by omega⟩ dX6_order_8 (by decide) (fun h_1 => ?_) (fun h_1 => ?_)
  · skip
    refine r_bipush hx hb dX6_order_23 (by decide +kernel) ?_
    refine r_top (b := ol σ) (by unfold ol; first | rw [if_pos (by omega)] | rw [if_neg (by omega)]) ?_
    skip
    refine lv_istore_n (lv' := [(1, .int (kI (ol σ))), (0, .ref (z + 133))]) hx hb dX6_order_25 rfl hl (by decide) rfl (fun ls hl => ?_)
    refine lv_iload_n hx hb dX6_order_26 rfl (lv_at hl 0 rfl) ?_
    refine r_bipush hx hb dX6_order_27 (by decide +kernel) ?_
    refine r_icmp_eq (tgt := 38) hx hb ⟨by omega, by omega⟩ ⟨by decide, by decide⟩ dX6_order_29 (by decide) (fun h_2 => ?_) (fun h_2 => ?_)
    · skip
      refine r_iconst hx hb dX6_order_38 ?_
      refine lv_goto (tgt := 43) hx hb dX6_order_39 (by decide) ?_
      refine r_top (b := bz (isP2 (ol σ))) (by first | exact one_bz (by omega) | exact zero_bz (by omega)) ?_
      skip
      refine lv_istore_n (lv' := [(2, .int (kI (bz (isP2 (ol σ))))), (1, .int (kI (ol σ))), (0, .ref (z + 133))]) hx hb dX6_order_43 rfl hl (by decide) rfl (fun ls hl => ?_)
      refine lv_iload_n hx hb dX6_order_44 rfl (lv_at hl 0 rfl) ?_
      refine r_zne (tgt := 69) hx hb dX6_order_45 (by decide) (fun h_3 => ?_) (fun h_3 => ?_)
      · skip
        have hP2 := h_3
        have hL : isL (ol σ) := by omega
        have hlt := ol_lt hL
        refine lv_aload_n hx hb dX6_order_69 rfl (lv_at hl 2 rfl) ?_
        refine lv_dup hx hb dX6_order_70 rfl ?_
        refine gf_X6_130 hx hb hts hown G dX6_order_71 ?_
        refine r_iconst hx hb dX6_order_74 ?_
        refine r_iadd hx hb dX6_order_75 ?_
        refine pf_X6_130 hx hb hts hown G dX6_order_76 (fun H locs G => ?_)
        have G := G.cong (τ := adv σ) (rfl)
        refine lv_iload_n hx hb dX6_order_79 rfl (lv_at hl 1 rfl) ?_
        refine r_bipush hx hb dX6_order_80 (by decide +kernel) ?_
        refine r_icmp_ne (tgt := 92) hx hb ⟨by omega, by omega⟩ ⟨by decide, by decide⟩ dX6_order_82 (by decide) (fun h_4 => ?_) (fun h_4 => ?_)
        · skip
          have h116 := h_4
          refine lv_aload_n hx hb dX6_order_92 rfl (lv_at hl 2 rfl) ?_
          refine r_callVI ⟨hx, hb, hml, hown, hts⟩ G (k_X6_takesKind l (σ := adv σ) (by rw [adv6]; omega) (hX.adv)) (kV_X6_takesKind hts qM_X6_147 ⟨by decide, by decide⟩) (rc_X6 G) rfl rfl hl.1 rfl (Nat.le_of_ble_eq_true rfl) dX6_order_93 ⟨Nat.le_refl _, Nat.le_refl _⟩ (fun H locs G => ?_)
          refine r_zeq (tgt := 114) hx hb dX6_order_96 (by decide) (fun h_5 => ?_) (fun h_5 => ?_)
          · skip
            have hK := h_5
            have hO : ¬ oOk σ := fun q => hK ((oOk_k h116).mp q).1
            refine r_iconst hx hb dX6_order_114 ?_
            refine lv_istore_n (lv' := [(3, .int (kI 0)), (2, .int (kI (bz (isP2 (ol σ))))), (1, .int (kI (ol σ))), (0, .ref (z + 133))]) hx hb dX6_order_115 rfl hl (by decide) rfl (fun ls hl => ?_)
            refine lv_iload_n hx hb dX6_order_116 rfl (lv_at hl 0 rfl) ?_
            refine r_if_eq (tgt := 124) hx hb ⟨by decide, by decide⟩ dX6_order_117 (by decide) (fun _ => ?_) (fun h_6 => absurd h_6 (by decide))
            refine r_bipush hx hb dX6_order_124 (by decide +kernel) ?_
            exact r_cret hx hb hr hlk G ⟨by omega, by omega⟩ (by first | exact ordR_y hL hO | exact ordR_n hO) (by first | exact (ordM_d hL h116).symm | exact (ordM_n hL h116 hK).symm | exact (ordM_1 hL h116 hP2).symm | exact (ordM_2 hL h116 hK hP2).symm) dX6_order_126
          · skip
            have hK := h_5
            refine lv_iload_n hx hb dX6_order_99 rfl (lv_at hl 0 rfl) ?_
            refine r_zeq (tgt := 110) hx hb dX6_order_100 (by decide) (fun h_7 => absurd h_3 h_7) (fun _ => ?_)
            refine lv_aload_n hx hb dX6_order_103 rfl (lv_at hl 2 rfl) ?_
            refine r_callVI ⟨hx, hb, hml, hown, hts⟩ G (k_X6_takesKey l (σ := tknM (adv σ)) (by rw [tkn6]; have := bz_rg (P := sg (adv σ) 48 51); have := adv6 (σ := σ); omega) (hX.adv.tkn)) (kV_X6_takesKey hts qM_X6_150 ⟨by decide, by decide⟩) (rc_X6 G) rfl rfl hl.1 rfl (Nat.le_of_ble_eq_true rfl) dX6_order_104 ⟨Nat.le_refl _, Nat.le_refl _⟩ (fun H locs G => ?_)
            refine r_zeq (tgt := 114) hx hb dX6_order_107 (by decide) (fun h_8 => ?_) (fun h_8 => ?_)
            · skip
              have hO : ¬ oOk σ := fun q => h_8 (((oOk_k h116).mp q).2 hP2)
              refine r_iconst hx hb dX6_order_114 ?_
              refine lv_istore_n (lv' := [(3, .int (kI 0)), (2, .int (kI (bz (isP2 (ol σ))))), (1, .int (kI (ol σ))), (0, .ref (z + 133))]) hx hb dX6_order_115 rfl hl (by decide) rfl (fun ls hl => ?_)
              refine lv_iload_n hx hb dX6_order_116 rfl (lv_at hl 0 rfl) ?_
              refine r_if_eq (tgt := 124) hx hb ⟨by decide, by decide⟩ dX6_order_117 (by decide) (fun _ => ?_) (fun h_9 => absurd h_9 (by decide))
              refine r_bipush hx hb dX6_order_124 (by decide +kernel) ?_
              exact r_cret hx hb hr hlk G ⟨by omega, by omega⟩ (by first | exact ordR_y hL hO | exact ordR_n hO) (by first | exact (ordM_d hL h116).symm | exact (ordM_n hL h116 hK).symm | exact (ordM_1 hL h116 hP2).symm | exact (ordM_2 hL h116 hK hP2).symm) dX6_order_126
            · skip
              have hO : oOk σ := (oOk_k h116).mpr ⟨hK, fun _ => h_8⟩
              have hO : oOk σ := by first | exact hO | exact (oOk_k h116).mpr ⟨hK, fun q => absurd q hP2⟩
              refine r_iconst hx hb dX6_order_110 ?_
              refine lv_goto (tgt := 115) hx hb dX6_order_111 (by decide) ?_
              refine lv_istore_n (lv' := [(3, .int (kI 1)), (2, .int (kI (bz (isP2 (ol σ))))), (1, .int (kI (ol σ))), (0, .ref (z + 133))]) hx hb dX6_order_115 rfl hl (by decide) rfl (fun ls hl => ?_)
              refine lv_iload_n hx hb dX6_order_116 rfl (lv_at hl 0 rfl) ?_
              refine r_if_eq (tgt := 124) hx hb ⟨by decide, by decide⟩ dX6_order_117 (by decide) (fun h_10 => absurd h_10 (by decide)) (fun _ => ?_)
              refine lv_iload_n hx hb dX6_order_120 rfl (lv_at hl 2 rfl) ?_
              refine lv_goto (tgt := 126) hx hb dX6_order_121 (by decide) ?_
              exact r_cret hx hb hr hlk G ⟨by omega, by omega⟩ (by first | exact ordR_y hL hO | exact ordR_n hO) (by first | exact (ordM_d hL h116).symm | exact (ordM_n hL h116 hK).symm | exact (ordM_1 hL h116 hP2).symm | exact (ordM_2 hL h116 hK hP2).symm) dX6_order_126
        · skip
          have h116 := h_4
          refine lv_aload_n hx hb dX6_order_85 rfl (lv_at hl 2 rfl) ?_
          refine r_callVI ⟨hx, hb, hml, hown, hts⟩ G (k_X6_takesDays l (σ := adv σ) (by rw [adv6]; omega) (hX.adv)) (kV_X6_takesDays hts qM_X6_143 ⟨by decide, by decide⟩) (rc_X6 G) rfl rfl hl.1 rfl (Nat.le_of_ble_eq_true rfl) dX6_order_86 ⟨Nat.le_refl _, Nat.le_refl _⟩ (fun H locs G => ?_)
          refine lv_goto (tgt := 115) hx hb dX6_order_89 (by decide) ?_
          refine lv_istore_n (lv' := [(3, .int (kI (bz (sg (adv σ) 49 57)))), (2, .int (kI (bz (isP2 (ol σ))))), (1, .int (kI (ol σ))), (0, .ref (z + 133))]) hx hb dX6_order_115 rfl hl (by decide) rfl (fun ls hl => ?_)
          refine lv_iload_n hx hb dX6_order_116 rfl (lv_at hl 0 rfl) ?_
          refine r_zeq (tgt := 124) hx hb dX6_order_117 (by decide) (fun h_11 => ?_) (fun h_11 => ?_)
          · skip
            have hO : ¬ oOk σ := fun q => h_11 ((oOk_d h116).mp q)
            refine r_bipush hx hb dX6_order_124 (by decide +kernel) ?_
            exact r_cret hx hb hr hlk G ⟨by omega, by omega⟩ (by first | exact ordR_y hL hO | exact ordR_n hO) (by first | exact (ordM_d hL h116).symm | exact (ordM_n hL h116 hK).symm | exact (ordM_1 hL h116 hP2).symm | exact (ordM_2 hL h116 hK hP2).symm) dX6_order_126
          · skip
            have hO : oOk σ := (oOk_d h116).mpr h_11
            refine lv_iload_n hx hb dX6_order_120 rfl (lv_at hl 2 rfl) ?_
            refine lv_goto (tgt := 126) hx hb dX6_order_121 (by decide) ?_
            exact r_cret hx hb hr hlk G ⟨by omega, by omega⟩ (by first | exact ordR_y hL hO | exact ordR_n hO) (by first | exact (ordM_d hL h116).symm | exact (ordM_n hL h116 hK).symm | exact (ordM_1 hL h116 hP2).symm | exact (ordM_2 hL h116 hK hP2).symm) dX6_order_126
      · skip
        have hP2 := h_3
        refine lv_iload_n hx hb dX6_order_48 rfl (lv_at hl 1 rfl) ?_
        refine r_bipush hx hb dX6_order_49 (by decide +kernel) ?_
        refine r_icmp_eq (tgt := 69) hx hb ⟨by omega, by omega⟩ ⟨by decide, by decide⟩ dX6_order_51 (by decide) (fun h_12 => ?_) (fun h_12 => ?_)
        · skip
          have hL : isL (ol σ) := by omega
          have hlt := ol_lt hL
          refine lv_aload_n hx hb dX6_order_69 rfl (lv_at hl 2 rfl) ?_
          refine lv_dup hx hb dX6_order_70 rfl ?_
          refine gf_X6_130 hx hb hts hown G dX6_order_71 ?_
          refine r_iconst hx hb dX6_order_74 ?_
          refine r_iadd hx hb dX6_order_75 ?_
          refine pf_X6_130 hx hb hts hown G dX6_order_76 (fun H locs G => ?_)
          have G := G.cong (τ := adv σ) (rfl)
          refine lv_iload_n hx hb dX6_order_79 rfl (lv_at hl 1 rfl) ?_
          refine r_bipush hx hb dX6_order_80 (by decide +kernel) ?_
          refine r_icmp_ne (tgt := 92) hx hb ⟨by omega, by omega⟩ ⟨by decide, by decide⟩ dX6_order_82 (by decide) (fun h_13 => ?_) (fun h_13 => ?_)
          · skip
            have h116 := h_13
            refine lv_aload_n hx hb dX6_order_92 rfl (lv_at hl 2 rfl) ?_
            refine r_callVI ⟨hx, hb, hml, hown, hts⟩ G (k_X6_takesKind l (σ := adv σ) (by rw [adv6]; omega) (hX.adv)) (kV_X6_takesKind hts qM_X6_147 ⟨by decide, by decide⟩) (rc_X6 G) rfl rfl hl.1 rfl (Nat.le_of_ble_eq_true rfl) dX6_order_93 ⟨Nat.le_refl _, Nat.le_refl _⟩ (fun H locs G => ?_)
            refine r_zeq (tgt := 114) hx hb dX6_order_96 (by decide) (fun h_14 => ?_) (fun h_14 => ?_)
            · skip
              have hK := h_14
              have hO : ¬ oOk σ := fun q => hK ((oOk_k h116).mp q).1
              refine r_iconst hx hb dX6_order_114 ?_
              refine lv_istore_n (lv' := [(3, .int (kI 0)), (2, .int (kI (bz (isP2 (ol σ))))), (1, .int (kI (ol σ))), (0, .ref (z + 133))]) hx hb dX6_order_115 rfl hl (by decide) rfl (fun ls hl => ?_)
              refine lv_iload_n hx hb dX6_order_116 rfl (lv_at hl 0 rfl) ?_
              refine r_if_eq (tgt := 124) hx hb ⟨by decide, by decide⟩ dX6_order_117 (by decide) (fun _ => ?_) (fun h_15 => absurd h_15 (by decide))
              refine r_bipush hx hb dX6_order_124 (by decide +kernel) ?_
              exact r_cret hx hb hr hlk G ⟨by omega, by omega⟩ (by first | exact ordR_y hL hO | exact ordR_n hO) (by first | exact (ordM_d hL h116).symm | exact (ordM_n hL h116 hK).symm | exact (ordM_1 hL h116 hP2).symm | exact (ordM_2 hL h116 hK hP2).symm) dX6_order_126
            · skip
              have hK := h_14
              refine lv_iload_n hx hb dX6_order_99 rfl (lv_at hl 0 rfl) ?_
              refine r_zeq (tgt := 110) hx hb dX6_order_100 (by decide) (fun _ => ?_) (fun h_16 => absurd h_16 h_3)
              have hO : oOk σ := by first | exact hO | exact (oOk_k h116).mpr ⟨hK, fun q => absurd q hP2⟩
              refine r_iconst hx hb dX6_order_110 ?_
              refine lv_goto (tgt := 115) hx hb dX6_order_111 (by decide) ?_
              refine lv_istore_n (lv' := [(3, .int (kI 1)), (2, .int (kI (bz (isP2 (ol σ))))), (1, .int (kI (ol σ))), (0, .ref (z + 133))]) hx hb dX6_order_115 rfl hl (by decide) rfl (fun ls hl => ?_)
              refine lv_iload_n hx hb dX6_order_116 rfl (lv_at hl 0 rfl) ?_
              refine r_if_eq (tgt := 124) hx hb ⟨by decide, by decide⟩ dX6_order_117 (by decide) (fun h_17 => absurd h_17 (by decide)) (fun _ => ?_)
              refine lv_iload_n hx hb dX6_order_120 rfl (lv_at hl 2 rfl) ?_
              refine lv_goto (tgt := 126) hx hb dX6_order_121 (by decide) ?_
              exact r_cret hx hb hr hlk G ⟨by omega, by omega⟩ (by first | exact ordR_y hL hO | exact ordR_n hO) (by first | exact (ordM_d hL h116).symm | exact (ordM_n hL h116 hK).symm | exact (ordM_1 hL h116 hP2).symm | exact (ordM_2 hL h116 hK hP2).symm) dX6_order_126
          · skip
            have h116 := h_13
            refine lv_aload_n hx hb dX6_order_85 rfl (lv_at hl 2 rfl) ?_
            refine r_callVI ⟨hx, hb, hml, hown, hts⟩ G (k_X6_takesDays l (σ := adv σ) (by rw [adv6]; omega) (hX.adv)) (kV_X6_takesDays hts qM_X6_143 ⟨by decide, by decide⟩) (rc_X6 G) rfl rfl hl.1 rfl (Nat.le_of_ble_eq_true rfl) dX6_order_86 ⟨Nat.le_refl _, Nat.le_refl _⟩ (fun H locs G => ?_)
            refine lv_goto (tgt := 115) hx hb dX6_order_89 (by decide) ?_
            refine lv_istore_n (lv' := [(3, .int (kI (bz (sg (adv σ) 49 57)))), (2, .int (kI (bz (isP2 (ol σ))))), (1, .int (kI (ol σ))), (0, .ref (z + 133))]) hx hb dX6_order_115 rfl hl (by decide) rfl (fun ls hl => ?_)
            refine lv_iload_n hx hb dX6_order_116 rfl (lv_at hl 0 rfl) ?_
            refine r_zeq (tgt := 124) hx hb dX6_order_117 (by decide) (fun h_18 => ?_) (fun h_18 => ?_)
            · skip
              have hO : ¬ oOk σ := fun q => h_18 ((oOk_d h116).mp q)
              refine r_bipush hx hb dX6_order_124 (by decide +kernel) ?_
              exact r_cret hx hb hr hlk G ⟨by omega, by omega⟩ (by first | exact ordR_y hL hO | exact ordR_n hO) (by first | exact (ordM_d hL h116).symm | exact (ordM_n hL h116 hK).symm | exact (ordM_1 hL h116 hP2).symm | exact (ordM_2 hL h116 hK hP2).symm) dX6_order_126
            · skip
              have hO : oOk σ := (oOk_d h116).mpr h_18
              refine lv_iload_n hx hb dX6_order_120 rfl (lv_at hl 2 rfl) ?_
              refine lv_goto (tgt := 126) hx hb dX6_order_121 (by decide) ?_
              exact r_cret hx hb hr hlk G ⟨by omega, by omega⟩ (by first | exact ordR_y hL hO | exact ordR_n hO) (by first | exact (ordM_d hL h116).symm | exact (ordM_n hL h116 hK).symm | exact (ordM_1 hL h116 hP2).symm | exact (ordM_2 hL h116 hK hP2).symm) dX6_order_126
        · skip
          refine lv_iload_n hx hb dX6_order_54 rfl (lv_at hl 1 rfl) ?_
          refine r_bipush hx hb dX6_order_55 (by decide +kernel) ?_
          refine r_icmp_eq (tgt := 69) hx hb ⟨by omega, by omega⟩ ⟨by decide, by decide⟩ dX6_order_57 (by decide) (fun h_19 => ?_) (fun h_19 => ?_)
          · skip
            have hL : isL (ol σ) := by omega
            have hlt := ol_lt hL
            refine lv_aload_n hx hb dX6_order_69 rfl (lv_at hl 2 rfl) ?_
            refine lv_dup hx hb dX6_order_70 rfl ?_
            refine gf_X6_130 hx hb hts hown G dX6_order_71 ?_
            refine r_iconst hx hb dX6_order_74 ?_
            refine r_iadd hx hb dX6_order_75 ?_
            refine pf_X6_130 hx hb hts hown G dX6_order_76 (fun H locs G => ?_)
            have G := G.cong (τ := adv σ) (rfl)
            refine lv_iload_n hx hb dX6_order_79 rfl (lv_at hl 1 rfl) ?_
            refine r_bipush hx hb dX6_order_80 (by decide +kernel) ?_
            refine r_icmp_ne (tgt := 92) hx hb ⟨by omega, by omega⟩ ⟨by decide, by decide⟩ dX6_order_82 (by decide) (fun h_20 => ?_) (fun h_20 => ?_)
            · skip
              have h116 := h_20
              refine lv_aload_n hx hb dX6_order_92 rfl (lv_at hl 2 rfl) ?_
              refine r_callVI ⟨hx, hb, hml, hown, hts⟩ G (k_X6_takesKind l (σ := adv σ) (by rw [adv6]; omega) (hX.adv)) (kV_X6_takesKind hts qM_X6_147 ⟨by decide, by decide⟩) (rc_X6 G) rfl rfl hl.1 rfl (Nat.le_of_ble_eq_true rfl) dX6_order_93 ⟨Nat.le_refl _, Nat.le_refl _⟩ (fun H locs G => ?_)
              refine r_zeq (tgt := 114) hx hb dX6_order_96 (by decide) (fun h_21 => ?_) (fun h_21 => ?_)
              · skip
                have hK := h_21
                have hO : ¬ oOk σ := fun q => hK ((oOk_k h116).mp q).1
                refine r_iconst hx hb dX6_order_114 ?_
                refine lv_istore_n (lv' := [(3, .int (kI 0)), (2, .int (kI (bz (isP2 (ol σ))))), (1, .int (kI (ol σ))), (0, .ref (z + 133))]) hx hb dX6_order_115 rfl hl (by decide) rfl (fun ls hl => ?_)
                refine lv_iload_n hx hb dX6_order_116 rfl (lv_at hl 0 rfl) ?_
                refine r_if_eq (tgt := 124) hx hb ⟨by decide, by decide⟩ dX6_order_117 (by decide) (fun _ => ?_) (fun h_22 => absurd h_22 (by decide))
                refine r_bipush hx hb dX6_order_124 (by decide +kernel) ?_
                exact r_cret hx hb hr hlk G ⟨by omega, by omega⟩ (by first | exact ordR_y hL hO | exact ordR_n hO) (by first | exact (ordM_d hL h116).symm | exact (ordM_n hL h116 hK).symm | exact (ordM_1 hL h116 hP2).symm | exact (ordM_2 hL h116 hK hP2).symm) dX6_order_126
              · skip
                have hK := h_21
                refine lv_iload_n hx hb dX6_order_99 rfl (lv_at hl 0 rfl) ?_
                refine r_zeq (tgt := 110) hx hb dX6_order_100 (by decide) (fun _ => ?_) (fun h_23 => absurd h_23 h_3)
                have hO : oOk σ := by first | exact hO | exact (oOk_k h116).mpr ⟨hK, fun q => absurd q hP2⟩
                refine r_iconst hx hb dX6_order_110 ?_
                refine lv_goto (tgt := 115) hx hb dX6_order_111 (by decide) ?_
                refine lv_istore_n (lv' := [(3, .int (kI 1)), (2, .int (kI (bz (isP2 (ol σ))))), (1, .int (kI (ol σ))), (0, .ref (z + 133))]) hx hb dX6_order_115 rfl hl (by decide) rfl (fun ls hl => ?_)
                refine lv_iload_n hx hb dX6_order_116 rfl (lv_at hl 0 rfl) ?_
                refine r_if_eq (tgt := 124) hx hb ⟨by decide, by decide⟩ dX6_order_117 (by decide) (fun h_24 => absurd h_24 (by decide)) (fun _ => ?_)
                refine lv_iload_n hx hb dX6_order_120 rfl (lv_at hl 2 rfl) ?_
                refine lv_goto (tgt := 126) hx hb dX6_order_121 (by decide) ?_
                exact r_cret hx hb hr hlk G ⟨by omega, by omega⟩ (by first | exact ordR_y hL hO | exact ordR_n hO) (by first | exact (ordM_d hL h116).symm | exact (ordM_n hL h116 hK).symm | exact (ordM_1 hL h116 hP2).symm | exact (ordM_2 hL h116 hK hP2).symm) dX6_order_126
            · skip
              have h116 := h_20
              refine lv_aload_n hx hb dX6_order_85 rfl (lv_at hl 2 rfl) ?_
              refine r_callVI ⟨hx, hb, hml, hown, hts⟩ G (k_X6_takesDays l (σ := adv σ) (by rw [adv6]; omega) (hX.adv)) (kV_X6_takesDays hts qM_X6_143 ⟨by decide, by decide⟩) (rc_X6 G) rfl rfl hl.1 rfl (Nat.le_of_ble_eq_true rfl) dX6_order_86 ⟨Nat.le_refl _, Nat.le_refl _⟩ (fun H locs G => ?_)
              refine lv_goto (tgt := 115) hx hb dX6_order_89 (by decide) ?_
              refine lv_istore_n (lv' := [(3, .int (kI (bz (sg (adv σ) 49 57)))), (2, .int (kI (bz (isP2 (ol σ))))), (1, .int (kI (ol σ))), (0, .ref (z + 133))]) hx hb dX6_order_115 rfl hl (by decide) rfl (fun ls hl => ?_)
              refine lv_iload_n hx hb dX6_order_116 rfl (lv_at hl 0 rfl) ?_
              refine r_zeq (tgt := 124) hx hb dX6_order_117 (by decide) (fun h_25 => ?_) (fun h_25 => ?_)
              · skip
                have hO : ¬ oOk σ := fun q => h_25 ((oOk_d h116).mp q)
                refine r_bipush hx hb dX6_order_124 (by decide +kernel) ?_
                exact r_cret hx hb hr hlk G ⟨by omega, by omega⟩ (by first | exact ordR_y hL hO | exact ordR_n hO) (by first | exact (ordM_d hL h116).symm | exact (ordM_n hL h116 hK).symm | exact (ordM_1 hL h116 hP2).symm | exact (ordM_2 hL h116 hK hP2).symm) dX6_order_126
              · skip
                have hO : oOk σ := (oOk_d h116).mpr h_25
                refine lv_iload_n hx hb dX6_order_120 rfl (lv_at hl 2 rfl) ?_
                refine lv_goto (tgt := 126) hx hb dX6_order_121 (by decide) ?_
                exact r_cret hx hb hr hlk G ⟨by omega, by omega⟩ (by first | exact ordR_y hL hO | exact ordR_n hO) (by first | exact (ordM_d hL h116).symm | exact (ordM_n hL h116 hK).symm | exact (ordM_1 hL h116 hP2).symm | exact (ordM_2 hL h116 hK hP2).symm) dX6_order_126
          · skip
            refine lv_iload_n hx hb dX6_order_60 rfl (lv_at hl 1 rfl) ?_
            refine r_bipush hx hb dX6_order_61 (by decide +kernel) ?_
            refine r_icmp_eq (tgt := 69) hx hb ⟨by omega, by omega⟩ ⟨by decide, by decide⟩ dX6_order_63 (by decide) (fun h_26 => ?_) (fun h_26 => ?_)
            · skip
              have hL : isL (ol σ) := by omega
              have hlt := ol_lt hL
              refine lv_aload_n hx hb dX6_order_69 rfl (lv_at hl 2 rfl) ?_
              refine lv_dup hx hb dX6_order_70 rfl ?_
              refine gf_X6_130 hx hb hts hown G dX6_order_71 ?_
              refine r_iconst hx hb dX6_order_74 ?_
              refine r_iadd hx hb dX6_order_75 ?_
              refine pf_X6_130 hx hb hts hown G dX6_order_76 (fun H locs G => ?_)
              have G := G.cong (τ := adv σ) (rfl)
              refine lv_iload_n hx hb dX6_order_79 rfl (lv_at hl 1 rfl) ?_
              refine r_bipush hx hb dX6_order_80 (by decide +kernel) ?_
              refine r_icmp_ne (tgt := 92) hx hb ⟨by omega, by omega⟩ ⟨by decide, by decide⟩ dX6_order_82 (by decide) (fun h_27 => ?_) (fun h_27 => ?_)
              · skip
                have h116 := h_27
                refine lv_aload_n hx hb dX6_order_92 rfl (lv_at hl 2 rfl) ?_
                refine r_callVI ⟨hx, hb, hml, hown, hts⟩ G (k_X6_takesKind l (σ := adv σ) (by rw [adv6]; omega) (hX.adv)) (kV_X6_takesKind hts qM_X6_147 ⟨by decide, by decide⟩) (rc_X6 G) rfl rfl hl.1 rfl (Nat.le_of_ble_eq_true rfl) dX6_order_93 ⟨Nat.le_refl _, Nat.le_refl _⟩ (fun H locs G => ?_)
                refine r_zeq (tgt := 114) hx hb dX6_order_96 (by decide) (fun h_28 => ?_) (fun h_28 => ?_)
                · skip
                  have hK := h_28
                  have hO : ¬ oOk σ := fun q => hK ((oOk_k h116).mp q).1
                  refine r_iconst hx hb dX6_order_114 ?_
                  refine lv_istore_n (lv' := [(3, .int (kI 0)), (2, .int (kI (bz (isP2 (ol σ))))), (1, .int (kI (ol σ))), (0, .ref (z + 133))]) hx hb dX6_order_115 rfl hl (by decide) rfl (fun ls hl => ?_)
                  refine lv_iload_n hx hb dX6_order_116 rfl (lv_at hl 0 rfl) ?_
                  refine r_if_eq (tgt := 124) hx hb ⟨by decide, by decide⟩ dX6_order_117 (by decide) (fun _ => ?_) (fun h_29 => absurd h_29 (by decide))
                  refine r_bipush hx hb dX6_order_124 (by decide +kernel) ?_
                  exact r_cret hx hb hr hlk G ⟨by omega, by omega⟩ (by first | exact ordR_y hL hO | exact ordR_n hO) (by first | exact (ordM_d hL h116).symm | exact (ordM_n hL h116 hK).symm | exact (ordM_1 hL h116 hP2).symm | exact (ordM_2 hL h116 hK hP2).symm) dX6_order_126
                · skip
                  have hK := h_28
                  refine lv_iload_n hx hb dX6_order_99 rfl (lv_at hl 0 rfl) ?_
                  refine r_zeq (tgt := 110) hx hb dX6_order_100 (by decide) (fun _ => ?_) (fun h_30 => absurd h_30 h_3)
                  have hO : oOk σ := by first | exact hO | exact (oOk_k h116).mpr ⟨hK, fun q => absurd q hP2⟩
                  refine r_iconst hx hb dX6_order_110 ?_
                  refine lv_goto (tgt := 115) hx hb dX6_order_111 (by decide) ?_
                  refine lv_istore_n (lv' := [(3, .int (kI 1)), (2, .int (kI (bz (isP2 (ol σ))))), (1, .int (kI (ol σ))), (0, .ref (z + 133))]) hx hb dX6_order_115 rfl hl (by decide) rfl (fun ls hl => ?_)
                  refine lv_iload_n hx hb dX6_order_116 rfl (lv_at hl 0 rfl) ?_
                  refine r_if_eq (tgt := 124) hx hb ⟨by decide, by decide⟩ dX6_order_117 (by decide) (fun h_31 => absurd h_31 (by decide)) (fun _ => ?_)
                  refine lv_iload_n hx hb dX6_order_120 rfl (lv_at hl 2 rfl) ?_
                  refine lv_goto (tgt := 126) hx hb dX6_order_121 (by decide) ?_
                  exact r_cret hx hb hr hlk G ⟨by omega, by omega⟩ (by first | exact ordR_y hL hO | exact ordR_n hO) (by first | exact (ordM_d hL h116).symm | exact (ordM_n hL h116 hK).symm | exact (ordM_1 hL h116 hP2).symm | exact (ordM_2 hL h116 hK hP2).symm) dX6_order_126
              · skip
                have h116 := h_27
                refine lv_aload_n hx hb dX6_order_85 rfl (lv_at hl 2 rfl) ?_
                refine r_callVI ⟨hx, hb, hml, hown, hts⟩ G (k_X6_takesDays l (σ := adv σ) (by rw [adv6]; omega) (hX.adv)) (kV_X6_takesDays hts qM_X6_143 ⟨by decide, by decide⟩) (rc_X6 G) rfl rfl hl.1 rfl (Nat.le_of_ble_eq_true rfl) dX6_order_86 ⟨Nat.le_refl _, Nat.le_refl _⟩ (fun H locs G => ?_)
                refine lv_goto (tgt := 115) hx hb dX6_order_89 (by decide) ?_
                refine lv_istore_n (lv' := [(3, .int (kI (bz (sg (adv σ) 49 57)))), (2, .int (kI (bz (isP2 (ol σ))))), (1, .int (kI (ol σ))), (0, .ref (z + 133))]) hx hb dX6_order_115 rfl hl (by decide) rfl (fun ls hl => ?_)
                refine lv_iload_n hx hb dX6_order_116 rfl (lv_at hl 0 rfl) ?_
                refine r_zeq (tgt := 124) hx hb dX6_order_117 (by decide) (fun h_32 => ?_) (fun h_32 => ?_)
                · skip
                  have hO : ¬ oOk σ := fun q => h_32 ((oOk_d h116).mp q)
                  refine r_bipush hx hb dX6_order_124 (by decide +kernel) ?_
                  exact r_cret hx hb hr hlk G ⟨by omega, by omega⟩ (by first | exact ordR_y hL hO | exact ordR_n hO) (by first | exact (ordM_d hL h116).symm | exact (ordM_n hL h116 hK).symm | exact (ordM_1 hL h116 hP2).symm | exact (ordM_2 hL h116 hK hP2).symm) dX6_order_126
                · skip
                  have hO : oOk σ := (oOk_d h116).mpr h_32
                  refine lv_iload_n hx hb dX6_order_120 rfl (lv_at hl 2 rfl) ?_
                  refine lv_goto (tgt := 126) hx hb dX6_order_121 (by decide) ?_
                  exact r_cret hx hb hr hlk G ⟨by omega, by omega⟩ (by first | exact ordR_y hL hO | exact ordR_n hO) (by first | exact (ordM_d hL h116).symm | exact (ordM_n hL h116 hK).symm | exact (ordM_1 hL h116 hP2).symm | exact (ordM_2 hL h116 hK hP2).symm) dX6_order_126
            · skip
              have hL : ¬ isL (ol σ) := by omega
              refine r_bipush hx hb dX6_order_66 (by decide +kernel) ?_
              exact r_cret hx hb hr hlk G ⟨by omega, by omega⟩ (by exact ordR_x hL) (by exact (ordM_x hL).symm) dX6_order_68
    · skip
      refine lv_iload_n hx hb dX6_order_32 rfl (lv_at hl 0 rfl) ?_
      refine r_bipush hx hb dX6_order_33 (by decide +kernel) ?_
      refine r_icmp_ne (tgt := 42) hx hb ⟨by omega, by omega⟩ ⟨by decide, by decide⟩ dX6_order_35 (by decide) (fun h_33 => ?_) (fun h_33 => ?_)
      · skip
        refine r_iconst hx hb dX6_order_42 ?_
        refine r_top (b := bz (isP2 (ol σ))) (by first | exact one_bz (by omega) | exact zero_bz (by omega)) ?_
        skip
        refine lv_istore_n (lv' := [(2, .int (kI (bz (isP2 (ol σ))))), (1, .int (kI (ol σ))), (0, .ref (z + 133))]) hx hb dX6_order_43 rfl hl (by decide) rfl (fun ls hl => ?_)
        refine lv_iload_n hx hb dX6_order_44 rfl (lv_at hl 0 rfl) ?_
        refine r_zne (tgt := 69) hx hb dX6_order_45 (by decide) (fun h_34 => ?_) (fun h_34 => ?_)
        · skip
          have hP2 := h_34
          have hL : isL (ol σ) := by omega
          have hlt := ol_lt hL
          refine lv_aload_n hx hb dX6_order_69 rfl (lv_at hl 2 rfl) ?_
          refine lv_dup hx hb dX6_order_70 rfl ?_
          refine gf_X6_130 hx hb hts hown G dX6_order_71 ?_
          refine r_iconst hx hb dX6_order_74 ?_
          refine r_iadd hx hb dX6_order_75 ?_
          refine pf_X6_130 hx hb hts hown G dX6_order_76 (fun H locs G => ?_)
          have G := G.cong (τ := adv σ) (rfl)
          refine lv_iload_n hx hb dX6_order_79 rfl (lv_at hl 1 rfl) ?_
          refine r_bipush hx hb dX6_order_80 (by decide +kernel) ?_
          refine r_icmp_ne (tgt := 92) hx hb ⟨by omega, by omega⟩ ⟨by decide, by decide⟩ dX6_order_82 (by decide) (fun h_35 => ?_) (fun h_35 => ?_)
          · skip
            have h116 := h_35
            refine lv_aload_n hx hb dX6_order_92 rfl (lv_at hl 2 rfl) ?_
            refine r_callVI ⟨hx, hb, hml, hown, hts⟩ G (k_X6_takesKind l (σ := adv σ) (by rw [adv6]; omega) (hX.adv)) (kV_X6_takesKind hts qM_X6_147 ⟨by decide, by decide⟩) (rc_X6 G) rfl rfl hl.1 rfl (Nat.le_of_ble_eq_true rfl) dX6_order_93 ⟨Nat.le_refl _, Nat.le_refl _⟩ (fun H locs G => ?_)
            refine r_zeq (tgt := 114) hx hb dX6_order_96 (by decide) (fun h_36 => ?_) (fun h_36 => ?_)
            · skip
              have hK := h_36
              have hO : ¬ oOk σ := fun q => hK ((oOk_k h116).mp q).1
              refine r_iconst hx hb dX6_order_114 ?_
              refine lv_istore_n (lv' := [(3, .int (kI 0)), (2, .int (kI (bz (isP2 (ol σ))))), (1, .int (kI (ol σ))), (0, .ref (z + 133))]) hx hb dX6_order_115 rfl hl (by decide) rfl (fun ls hl => ?_)
              refine lv_iload_n hx hb dX6_order_116 rfl (lv_at hl 0 rfl) ?_
              refine r_if_eq (tgt := 124) hx hb ⟨by decide, by decide⟩ dX6_order_117 (by decide) (fun _ => ?_) (fun h_37 => absurd h_37 (by decide))
              refine r_bipush hx hb dX6_order_124 (by decide +kernel) ?_
              exact r_cret hx hb hr hlk G ⟨by omega, by omega⟩ (by first | exact ordR_y hL hO | exact ordR_n hO) (by first | exact (ordM_d hL h116).symm | exact (ordM_n hL h116 hK).symm | exact (ordM_1 hL h116 hP2).symm | exact (ordM_2 hL h116 hK hP2).symm) dX6_order_126
            · skip
              have hK := h_36
              refine lv_iload_n hx hb dX6_order_99 rfl (lv_at hl 0 rfl) ?_
              refine r_zeq (tgt := 110) hx hb dX6_order_100 (by decide) (fun h_38 => absurd h_34 h_38) (fun _ => ?_)
              refine lv_aload_n hx hb dX6_order_103 rfl (lv_at hl 2 rfl) ?_
              refine r_callVI ⟨hx, hb, hml, hown, hts⟩ G (k_X6_takesKey l (σ := tknM (adv σ)) (by rw [tkn6]; have := bz_rg (P := sg (adv σ) 48 51); have := adv6 (σ := σ); omega) (hX.adv.tkn)) (kV_X6_takesKey hts qM_X6_150 ⟨by decide, by decide⟩) (rc_X6 G) rfl rfl hl.1 rfl (Nat.le_of_ble_eq_true rfl) dX6_order_104 ⟨Nat.le_refl _, Nat.le_refl _⟩ (fun H locs G => ?_)
              refine r_zeq (tgt := 114) hx hb dX6_order_107 (by decide) (fun h_39 => ?_) (fun h_39 => ?_)
              · skip
                have hO : ¬ oOk σ := fun q => h_39 (((oOk_k h116).mp q).2 hP2)
                refine r_iconst hx hb dX6_order_114 ?_
                refine lv_istore_n (lv' := [(3, .int (kI 0)), (2, .int (kI (bz (isP2 (ol σ))))), (1, .int (kI (ol σ))), (0, .ref (z + 133))]) hx hb dX6_order_115 rfl hl (by decide) rfl (fun ls hl => ?_)
                refine lv_iload_n hx hb dX6_order_116 rfl (lv_at hl 0 rfl) ?_
                refine r_if_eq (tgt := 124) hx hb ⟨by decide, by decide⟩ dX6_order_117 (by decide) (fun _ => ?_) (fun h_40 => absurd h_40 (by decide))
                refine r_bipush hx hb dX6_order_124 (by decide +kernel) ?_
                exact r_cret hx hb hr hlk G ⟨by omega, by omega⟩ (by first | exact ordR_y hL hO | exact ordR_n hO) (by first | exact (ordM_d hL h116).symm | exact (ordM_n hL h116 hK).symm | exact (ordM_1 hL h116 hP2).symm | exact (ordM_2 hL h116 hK hP2).symm) dX6_order_126
              · skip
                have hO : oOk σ := (oOk_k h116).mpr ⟨hK, fun _ => h_39⟩
                have hO : oOk σ := by first | exact hO | exact (oOk_k h116).mpr ⟨hK, fun q => absurd q hP2⟩
                refine r_iconst hx hb dX6_order_110 ?_
                refine lv_goto (tgt := 115) hx hb dX6_order_111 (by decide) ?_
                refine lv_istore_n (lv' := [(3, .int (kI 1)), (2, .int (kI (bz (isP2 (ol σ))))), (1, .int (kI (ol σ))), (0, .ref (z + 133))]) hx hb dX6_order_115 rfl hl (by decide) rfl (fun ls hl => ?_)
                refine lv_iload_n hx hb dX6_order_116 rfl (lv_at hl 0 rfl) ?_
                refine r_if_eq (tgt := 124) hx hb ⟨by decide, by decide⟩ dX6_order_117 (by decide) (fun h_41 => absurd h_41 (by decide)) (fun _ => ?_)
                refine lv_iload_n hx hb dX6_order_120 rfl (lv_at hl 2 rfl) ?_
                refine lv_goto (tgt := 126) hx hb dX6_order_121 (by decide) ?_
                exact r_cret hx hb hr hlk G ⟨by omega, by omega⟩ (by first | exact ordR_y hL hO | exact ordR_n hO) (by first | exact (ordM_d hL h116).symm | exact (ordM_n hL h116 hK).symm | exact (ordM_1 hL h116 hP2).symm | exact (ordM_2 hL h116 hK hP2).symm) dX6_order_126
          · skip
            have h116 := h_35
            refine lv_aload_n hx hb dX6_order_85 rfl (lv_at hl 2 rfl) ?_
            refine r_callVI ⟨hx, hb, hml, hown, hts⟩ G (k_X6_takesDays l (σ := adv σ) (by rw [adv6]; omega) (hX.adv)) (kV_X6_takesDays hts qM_X6_143 ⟨by decide, by decide⟩) (rc_X6 G) rfl rfl hl.1 rfl (Nat.le_of_ble_eq_true rfl) dX6_order_86 ⟨Nat.le_refl _, Nat.le_refl _⟩ (fun H locs G => ?_)
            refine lv_goto (tgt := 115) hx hb dX6_order_89 (by decide) ?_
            refine lv_istore_n (lv' := [(3, .int (kI (bz (sg (adv σ) 49 57)))), (2, .int (kI (bz (isP2 (ol σ))))), (1, .int (kI (ol σ))), (0, .ref (z + 133))]) hx hb dX6_order_115 rfl hl (by decide) rfl (fun ls hl => ?_)
            refine lv_iload_n hx hb dX6_order_116 rfl (lv_at hl 0 rfl) ?_
            refine r_zeq (tgt := 124) hx hb dX6_order_117 (by decide) (fun h_42 => ?_) (fun h_42 => ?_)
            · skip
              have hO : ¬ oOk σ := fun q => h_42 ((oOk_d h116).mp q)
              refine r_bipush hx hb dX6_order_124 (by decide +kernel) ?_
              exact r_cret hx hb hr hlk G ⟨by omega, by omega⟩ (by first | exact ordR_y hL hO | exact ordR_n hO) (by first | exact (ordM_d hL h116).symm | exact (ordM_n hL h116 hK).symm | exact (ordM_1 hL h116 hP2).symm | exact (ordM_2 hL h116 hK hP2).symm) dX6_order_126
            · skip
              have hO : oOk σ := (oOk_d h116).mpr h_42
              refine lv_iload_n hx hb dX6_order_120 rfl (lv_at hl 2 rfl) ?_
              refine lv_goto (tgt := 126) hx hb dX6_order_121 (by decide) ?_
              exact r_cret hx hb hr hlk G ⟨by omega, by omega⟩ (by first | exact ordR_y hL hO | exact ordR_n hO) (by first | exact (ordM_d hL h116).symm | exact (ordM_n hL h116 hK).symm | exact (ordM_1 hL h116 hP2).symm | exact (ordM_2 hL h116 hK hP2).symm) dX6_order_126
        · skip
          have hP2 := h_34
          refine lv_iload_n hx hb dX6_order_48 rfl (lv_at hl 1 rfl) ?_
          refine r_bipush hx hb dX6_order_49 (by decide +kernel) ?_
          refine r_icmp_eq (tgt := 69) hx hb ⟨by omega, by omega⟩ ⟨by decide, by decide⟩ dX6_order_51 (by decide) (fun h_43 => ?_) (fun h_43 => ?_)
          · skip
            have hL : isL (ol σ) := by omega
            have hlt := ol_lt hL
            refine lv_aload_n hx hb dX6_order_69 rfl (lv_at hl 2 rfl) ?_
            refine lv_dup hx hb dX6_order_70 rfl ?_
            refine gf_X6_130 hx hb hts hown G dX6_order_71 ?_
            refine r_iconst hx hb dX6_order_74 ?_
            refine r_iadd hx hb dX6_order_75 ?_
            refine pf_X6_130 hx hb hts hown G dX6_order_76 (fun H locs G => ?_)
            have G := G.cong (τ := adv σ) (rfl)
            refine lv_iload_n hx hb dX6_order_79 rfl (lv_at hl 1 rfl) ?_
            refine r_bipush hx hb dX6_order_80 (by decide +kernel) ?_
            refine r_icmp_ne (tgt := 92) hx hb ⟨by omega, by omega⟩ ⟨by decide, by decide⟩ dX6_order_82 (by decide) (fun h_44 => ?_) (fun h_44 => ?_)
            · skip
              have h116 := h_44
              refine lv_aload_n hx hb dX6_order_92 rfl (lv_at hl 2 rfl) ?_
              refine r_callVI ⟨hx, hb, hml, hown, hts⟩ G (k_X6_takesKind l (σ := adv σ) (by rw [adv6]; omega) (hX.adv)) (kV_X6_takesKind hts qM_X6_147 ⟨by decide, by decide⟩) (rc_X6 G) rfl rfl hl.1 rfl (Nat.le_of_ble_eq_true rfl) dX6_order_93 ⟨Nat.le_refl _, Nat.le_refl _⟩ (fun H locs G => ?_)
              refine r_zeq (tgt := 114) hx hb dX6_order_96 (by decide) (fun h_45 => ?_) (fun h_45 => ?_)
              · skip
                have hK := h_45
                have hO : ¬ oOk σ := fun q => hK ((oOk_k h116).mp q).1
                refine r_iconst hx hb dX6_order_114 ?_
                refine lv_istore_n (lv' := [(3, .int (kI 0)), (2, .int (kI (bz (isP2 (ol σ))))), (1, .int (kI (ol σ))), (0, .ref (z + 133))]) hx hb dX6_order_115 rfl hl (by decide) rfl (fun ls hl => ?_)
                refine lv_iload_n hx hb dX6_order_116 rfl (lv_at hl 0 rfl) ?_
                refine r_if_eq (tgt := 124) hx hb ⟨by decide, by decide⟩ dX6_order_117 (by decide) (fun _ => ?_) (fun h_46 => absurd h_46 (by decide))
                refine r_bipush hx hb dX6_order_124 (by decide +kernel) ?_
                exact r_cret hx hb hr hlk G ⟨by omega, by omega⟩ (by first | exact ordR_y hL hO | exact ordR_n hO) (by first | exact (ordM_d hL h116).symm | exact (ordM_n hL h116 hK).symm | exact (ordM_1 hL h116 hP2).symm | exact (ordM_2 hL h116 hK hP2).symm) dX6_order_126
              · skip
                have hK := h_45
                refine lv_iload_n hx hb dX6_order_99 rfl (lv_at hl 0 rfl) ?_
                refine r_zeq (tgt := 110) hx hb dX6_order_100 (by decide) (fun _ => ?_) (fun h_47 => absurd h_47 h_34)
                have hO : oOk σ := by first | exact hO | exact (oOk_k h116).mpr ⟨hK, fun q => absurd q hP2⟩
                refine r_iconst hx hb dX6_order_110 ?_
                refine lv_goto (tgt := 115) hx hb dX6_order_111 (by decide) ?_
                refine lv_istore_n (lv' := [(3, .int (kI 1)), (2, .int (kI (bz (isP2 (ol σ))))), (1, .int (kI (ol σ))), (0, .ref (z + 133))]) hx hb dX6_order_115 rfl hl (by decide) rfl (fun ls hl => ?_)
                refine lv_iload_n hx hb dX6_order_116 rfl (lv_at hl 0 rfl) ?_
                refine r_if_eq (tgt := 124) hx hb ⟨by decide, by decide⟩ dX6_order_117 (by decide) (fun h_48 => absurd h_48 (by decide)) (fun _ => ?_)
                refine lv_iload_n hx hb dX6_order_120 rfl (lv_at hl 2 rfl) ?_
                refine lv_goto (tgt := 126) hx hb dX6_order_121 (by decide) ?_
                exact r_cret hx hb hr hlk G ⟨by omega, by omega⟩ (by first | exact ordR_y hL hO | exact ordR_n hO) (by first | exact (ordM_d hL h116).symm | exact (ordM_n hL h116 hK).symm | exact (ordM_1 hL h116 hP2).symm | exact (ordM_2 hL h116 hK hP2).symm) dX6_order_126
            · skip
              have h116 := h_44
              refine lv_aload_n hx hb dX6_order_85 rfl (lv_at hl 2 rfl) ?_
              refine r_callVI ⟨hx, hb, hml, hown, hts⟩ G (k_X6_takesDays l (σ := adv σ) (by rw [adv6]; omega) (hX.adv)) (kV_X6_takesDays hts qM_X6_143 ⟨by decide, by decide⟩) (rc_X6 G) rfl rfl hl.1 rfl (Nat.le_of_ble_eq_true rfl) dX6_order_86 ⟨Nat.le_refl _, Nat.le_refl _⟩ (fun H locs G => ?_)
              refine lv_goto (tgt := 115) hx hb dX6_order_89 (by decide) ?_
              refine lv_istore_n (lv' := [(3, .int (kI (bz (sg (adv σ) 49 57)))), (2, .int (kI (bz (isP2 (ol σ))))), (1, .int (kI (ol σ))), (0, .ref (z + 133))]) hx hb dX6_order_115 rfl hl (by decide) rfl (fun ls hl => ?_)
              refine lv_iload_n hx hb dX6_order_116 rfl (lv_at hl 0 rfl) ?_
              refine r_zeq (tgt := 124) hx hb dX6_order_117 (by decide) (fun h_49 => ?_) (fun h_49 => ?_)
              · skip
                have hO : ¬ oOk σ := fun q => h_49 ((oOk_d h116).mp q)
                refine r_bipush hx hb dX6_order_124 (by decide +kernel) ?_
                exact r_cret hx hb hr hlk G ⟨by omega, by omega⟩ (by first | exact ordR_y hL hO | exact ordR_n hO) (by first | exact (ordM_d hL h116).symm | exact (ordM_n hL h116 hK).symm | exact (ordM_1 hL h116 hP2).symm | exact (ordM_2 hL h116 hK hP2).symm) dX6_order_126
              · skip
                have hO : oOk σ := (oOk_d h116).mpr h_49
                refine lv_iload_n hx hb dX6_order_120 rfl (lv_at hl 2 rfl) ?_
                refine lv_goto (tgt := 126) hx hb dX6_order_121 (by decide) ?_
                exact r_cret hx hb hr hlk G ⟨by omega, by omega⟩ (by first | exact ordR_y hL hO | exact ordR_n hO) (by first | exact (ordM_d hL h116).symm | exact (ordM_n hL h116 hK).symm | exact (ordM_1 hL h116 hP2).symm | exact (ordM_2 hL h116 hK hP2).symm) dX6_order_126
          · skip
            refine lv_iload_n hx hb dX6_order_54 rfl (lv_at hl 1 rfl) ?_
            refine r_bipush hx hb dX6_order_55 (by decide +kernel) ?_
            refine r_icmp_eq (tgt := 69) hx hb ⟨by omega, by omega⟩ ⟨by decide, by decide⟩ dX6_order_57 (by decide) (fun h_50 => ?_) (fun h_50 => ?_)
            · skip
              have hL : isL (ol σ) := by omega
              have hlt := ol_lt hL
              refine lv_aload_n hx hb dX6_order_69 rfl (lv_at hl 2 rfl) ?_
              refine lv_dup hx hb dX6_order_70 rfl ?_
              refine gf_X6_130 hx hb hts hown G dX6_order_71 ?_
              refine r_iconst hx hb dX6_order_74 ?_
              refine r_iadd hx hb dX6_order_75 ?_
              refine pf_X6_130 hx hb hts hown G dX6_order_76 (fun H locs G => ?_)
              have G := G.cong (τ := adv σ) (rfl)
              refine lv_iload_n hx hb dX6_order_79 rfl (lv_at hl 1 rfl) ?_
              refine r_bipush hx hb dX6_order_80 (by decide +kernel) ?_
              refine r_icmp_ne (tgt := 92) hx hb ⟨by omega, by omega⟩ ⟨by decide, by decide⟩ dX6_order_82 (by decide) (fun h_51 => ?_) (fun h_51 => ?_)
              · skip
                have h116 := h_51
                refine lv_aload_n hx hb dX6_order_92 rfl (lv_at hl 2 rfl) ?_
                refine r_callVI ⟨hx, hb, hml, hown, hts⟩ G (k_X6_takesKind l (σ := adv σ) (by rw [adv6]; omega) (hX.adv)) (kV_X6_takesKind hts qM_X6_147 ⟨by decide, by decide⟩) (rc_X6 G) rfl rfl hl.1 rfl (Nat.le_of_ble_eq_true rfl) dX6_order_93 ⟨Nat.le_refl _, Nat.le_refl _⟩ (fun H locs G => ?_)
                refine r_zeq (tgt := 114) hx hb dX6_order_96 (by decide) (fun h_52 => ?_) (fun h_52 => ?_)
                · skip
                  have hK := h_52
                  have hO : ¬ oOk σ := fun q => hK ((oOk_k h116).mp q).1
                  refine r_iconst hx hb dX6_order_114 ?_
                  refine lv_istore_n (lv' := [(3, .int (kI 0)), (2, .int (kI (bz (isP2 (ol σ))))), (1, .int (kI (ol σ))), (0, .ref (z + 133))]) hx hb dX6_order_115 rfl hl (by decide) rfl (fun ls hl => ?_)
                  refine lv_iload_n hx hb dX6_order_116 rfl (lv_at hl 0 rfl) ?_
                  refine r_if_eq (tgt := 124) hx hb ⟨by decide, by decide⟩ dX6_order_117 (by decide) (fun _ => ?_) (fun h_53 => absurd h_53 (by decide))
                  refine r_bipush hx hb dX6_order_124 (by decide +kernel) ?_
                  exact r_cret hx hb hr hlk G ⟨by omega, by omega⟩ (by first | exact ordR_y hL hO | exact ordR_n hO) (by first | exact (ordM_d hL h116).symm | exact (ordM_n hL h116 hK).symm | exact (ordM_1 hL h116 hP2).symm | exact (ordM_2 hL h116 hK hP2).symm) dX6_order_126
                · skip
                  have hK := h_52
                  refine lv_iload_n hx hb dX6_order_99 rfl (lv_at hl 0 rfl) ?_
                  refine r_zeq (tgt := 110) hx hb dX6_order_100 (by decide) (fun _ => ?_) (fun h_54 => absurd h_54 h_34)
                  have hO : oOk σ := by first | exact hO | exact (oOk_k h116).mpr ⟨hK, fun q => absurd q hP2⟩
                  refine r_iconst hx hb dX6_order_110 ?_
                  refine lv_goto (tgt := 115) hx hb dX6_order_111 (by decide) ?_
                  refine lv_istore_n (lv' := [(3, .int (kI 1)), (2, .int (kI (bz (isP2 (ol σ))))), (1, .int (kI (ol σ))), (0, .ref (z + 133))]) hx hb dX6_order_115 rfl hl (by decide) rfl (fun ls hl => ?_)
                  refine lv_iload_n hx hb dX6_order_116 rfl (lv_at hl 0 rfl) ?_
                  refine r_if_eq (tgt := 124) hx hb ⟨by decide, by decide⟩ dX6_order_117 (by decide) (fun h_55 => absurd h_55 (by decide)) (fun _ => ?_)
                  refine lv_iload_n hx hb dX6_order_120 rfl (lv_at hl 2 rfl) ?_
                  refine lv_goto (tgt := 126) hx hb dX6_order_121 (by decide) ?_
                  exact r_cret hx hb hr hlk G ⟨by omega, by omega⟩ (by first | exact ordR_y hL hO | exact ordR_n hO) (by first | exact (ordM_d hL h116).symm | exact (ordM_n hL h116 hK).symm | exact (ordM_1 hL h116 hP2).symm | exact (ordM_2 hL h116 hK hP2).symm) dX6_order_126
              · skip
                have h116 := h_51
                refine lv_aload_n hx hb dX6_order_85 rfl (lv_at hl 2 rfl) ?_
                refine r_callVI ⟨hx, hb, hml, hown, hts⟩ G (k_X6_takesDays l (σ := adv σ) (by rw [adv6]; omega) (hX.adv)) (kV_X6_takesDays hts qM_X6_143 ⟨by decide, by decide⟩) (rc_X6 G) rfl rfl hl.1 rfl (Nat.le_of_ble_eq_true rfl) dX6_order_86 ⟨Nat.le_refl _, Nat.le_refl _⟩ (fun H locs G => ?_)
                refine lv_goto (tgt := 115) hx hb dX6_order_89 (by decide) ?_
                refine lv_istore_n (lv' := [(3, .int (kI (bz (sg (adv σ) 49 57)))), (2, .int (kI (bz (isP2 (ol σ))))), (1, .int (kI (ol σ))), (0, .ref (z + 133))]) hx hb dX6_order_115 rfl hl (by decide) rfl (fun ls hl => ?_)
                refine lv_iload_n hx hb dX6_order_116 rfl (lv_at hl 0 rfl) ?_
                refine r_zeq (tgt := 124) hx hb dX6_order_117 (by decide) (fun h_56 => ?_) (fun h_56 => ?_)
                · skip
                  have hO : ¬ oOk σ := fun q => h_56 ((oOk_d h116).mp q)
                  refine r_bipush hx hb dX6_order_124 (by decide +kernel) ?_
                  exact r_cret hx hb hr hlk G ⟨by omega, by omega⟩ (by first | exact ordR_y hL hO | exact ordR_n hO) (by first | exact (ordM_d hL h116).symm | exact (ordM_n hL h116 hK).symm | exact (ordM_1 hL h116 hP2).symm | exact (ordM_2 hL h116 hK hP2).symm) dX6_order_126
                · skip
                  have hO : oOk σ := (oOk_d h116).mpr h_56
                  refine lv_iload_n hx hb dX6_order_120 rfl (lv_at hl 2 rfl) ?_
                  refine lv_goto (tgt := 126) hx hb dX6_order_121 (by decide) ?_
                  exact r_cret hx hb hr hlk G ⟨by omega, by omega⟩ (by first | exact ordR_y hL hO | exact ordR_n hO) (by first | exact (ordM_d hL h116).symm | exact (ordM_n hL h116 hK).symm | exact (ordM_1 hL h116 hP2).symm | exact (ordM_2 hL h116 hK hP2).symm) dX6_order_126
            · skip
              refine lv_iload_n hx hb dX6_order_60 rfl (lv_at hl 1 rfl) ?_
              refine r_bipush hx hb dX6_order_61 (by decide +kernel) ?_
              refine r_icmp_eq (tgt := 69) hx hb ⟨by omega, by omega⟩ ⟨by decide, by decide⟩ dX6_order_63 (by decide) (fun h_57 => ?_) (fun h_57 => ?_)
              · skip
                have hL : isL (ol σ) := by omega
                have hlt := ol_lt hL
                refine lv_aload_n hx hb dX6_order_69 rfl (lv_at hl 2 rfl) ?_
                refine lv_dup hx hb dX6_order_70 rfl ?_
                refine gf_X6_130 hx hb hts hown G dX6_order_71 ?_
                refine r_iconst hx hb dX6_order_74 ?_
                refine r_iadd hx hb dX6_order_75 ?_
                refine pf_X6_130 hx hb hts hown G dX6_order_76 (fun H locs G => ?_)
                have G := G.cong (τ := adv σ) (rfl)
                refine lv_iload_n hx hb dX6_order_79 rfl (lv_at hl 1 rfl) ?_
                refine r_bipush hx hb dX6_order_80 (by decide +kernel) ?_
                refine r_icmp_ne (tgt := 92) hx hb ⟨by omega, by omega⟩ ⟨by decide, by decide⟩ dX6_order_82 (by decide) (fun h_58 => ?_) (fun h_58 => ?_)
                · skip
                  have h116 := h_58
                  refine lv_aload_n hx hb dX6_order_92 rfl (lv_at hl 2 rfl) ?_
                  refine r_callVI ⟨hx, hb, hml, hown, hts⟩ G (k_X6_takesKind l (σ := adv σ) (by rw [adv6]; omega) (hX.adv)) (kV_X6_takesKind hts qM_X6_147 ⟨by decide, by decide⟩) (rc_X6 G) rfl rfl hl.1 rfl (Nat.le_of_ble_eq_true rfl) dX6_order_93 ⟨Nat.le_refl _, Nat.le_refl _⟩ (fun H locs G => ?_)
                  refine r_zeq (tgt := 114) hx hb dX6_order_96 (by decide) (fun h_59 => ?_) (fun h_59 => ?_)
                  · skip
                    have hK := h_59
                    have hO : ¬ oOk σ := fun q => hK ((oOk_k h116).mp q).1
                    refine r_iconst hx hb dX6_order_114 ?_
                    refine lv_istore_n (lv' := [(3, .int (kI 0)), (2, .int (kI (bz (isP2 (ol σ))))), (1, .int (kI (ol σ))), (0, .ref (z + 133))]) hx hb dX6_order_115 rfl hl (by decide) rfl (fun ls hl => ?_)
                    refine lv_iload_n hx hb dX6_order_116 rfl (lv_at hl 0 rfl) ?_
                    refine r_if_eq (tgt := 124) hx hb ⟨by decide, by decide⟩ dX6_order_117 (by decide) (fun _ => ?_) (fun h_60 => absurd h_60 (by decide))
                    refine r_bipush hx hb dX6_order_124 (by decide +kernel) ?_
                    exact r_cret hx hb hr hlk G ⟨by omega, by omega⟩ (by first | exact ordR_y hL hO | exact ordR_n hO) (by first | exact (ordM_d hL h116).symm | exact (ordM_n hL h116 hK).symm | exact (ordM_1 hL h116 hP2).symm | exact (ordM_2 hL h116 hK hP2).symm) dX6_order_126
                  · skip
                    have hK := h_59
                    refine lv_iload_n hx hb dX6_order_99 rfl (lv_at hl 0 rfl) ?_
                    refine r_zeq (tgt := 110) hx hb dX6_order_100 (by decide) (fun _ => ?_) (fun h_61 => absurd h_61 h_34)
                    have hO : oOk σ := by first | exact hO | exact (oOk_k h116).mpr ⟨hK, fun q => absurd q hP2⟩
                    refine r_iconst hx hb dX6_order_110 ?_
                    refine lv_goto (tgt := 115) hx hb dX6_order_111 (by decide) ?_
                    refine lv_istore_n (lv' := [(3, .int (kI 1)), (2, .int (kI (bz (isP2 (ol σ))))), (1, .int (kI (ol σ))), (0, .ref (z + 133))]) hx hb dX6_order_115 rfl hl (by decide) rfl (fun ls hl => ?_)
                    refine lv_iload_n hx hb dX6_order_116 rfl (lv_at hl 0 rfl) ?_
                    refine r_if_eq (tgt := 124) hx hb ⟨by decide, by decide⟩ dX6_order_117 (by decide) (fun h_62 => absurd h_62 (by decide)) (fun _ => ?_)
                    refine lv_iload_n hx hb dX6_order_120 rfl (lv_at hl 2 rfl) ?_
                    refine lv_goto (tgt := 126) hx hb dX6_order_121 (by decide) ?_
                    exact r_cret hx hb hr hlk G ⟨by omega, by omega⟩ (by first | exact ordR_y hL hO | exact ordR_n hO) (by first | exact (ordM_d hL h116).symm | exact (ordM_n hL h116 hK).symm | exact (ordM_1 hL h116 hP2).symm | exact (ordM_2 hL h116 hK hP2).symm) dX6_order_126
                · skip
                  have h116 := h_58
                  refine lv_aload_n hx hb dX6_order_85 rfl (lv_at hl 2 rfl) ?_
                  refine r_callVI ⟨hx, hb, hml, hown, hts⟩ G (k_X6_takesDays l (σ := adv σ) (by rw [adv6]; omega) (hX.adv)) (kV_X6_takesDays hts qM_X6_143 ⟨by decide, by decide⟩) (rc_X6 G) rfl rfl hl.1 rfl (Nat.le_of_ble_eq_true rfl) dX6_order_86 ⟨Nat.le_refl _, Nat.le_refl _⟩ (fun H locs G => ?_)
                  refine lv_goto (tgt := 115) hx hb dX6_order_89 (by decide) ?_
                  refine lv_istore_n (lv' := [(3, .int (kI (bz (sg (adv σ) 49 57)))), (2, .int (kI (bz (isP2 (ol σ))))), (1, .int (kI (ol σ))), (0, .ref (z + 133))]) hx hb dX6_order_115 rfl hl (by decide) rfl (fun ls hl => ?_)
                  refine lv_iload_n hx hb dX6_order_116 rfl (lv_at hl 0 rfl) ?_
                  refine r_zeq (tgt := 124) hx hb dX6_order_117 (by decide) (fun h_63 => ?_) (fun h_63 => ?_)
                  · skip
                    have hO : ¬ oOk σ := fun q => h_63 ((oOk_d h116).mp q)
                    refine r_bipush hx hb dX6_order_124 (by decide +kernel) ?_
                    exact r_cret hx hb hr hlk G ⟨by omega, by omega⟩ (by first | exact ordR_y hL hO | exact ordR_n hO) (by first | exact (ordM_d hL h116).symm | exact (ordM_n hL h116 hK).symm | exact (ordM_1 hL h116 hP2).symm | exact (ordM_2 hL h116 hK hP2).symm) dX6_order_126
                  · skip
                    have hO : oOk σ := (oOk_d h116).mpr h_63
                    refine lv_iload_n hx hb dX6_order_120 rfl (lv_at hl 2 rfl) ?_
                    refine lv_goto (tgt := 126) hx hb dX6_order_121 (by decide) ?_
                    exact r_cret hx hb hr hlk G ⟨by omega, by omega⟩ (by first | exact ordR_y hL hO | exact ordR_n hO) (by first | exact (ordM_d hL h116).symm | exact (ordM_n hL h116 hK).symm | exact (ordM_1 hL h116 hP2).symm | exact (ordM_2 hL h116 hK hP2).symm) dX6_order_126
              · skip
                have hL : ¬ isL (ol σ) := by omega
                refine r_bipush hx hb dX6_order_66 (by decide +kernel) ?_
                exact r_cret hx hb hr hlk G ⟨by omega, by omega⟩ (by exact ordR_x hL) (by exact (ordM_x hL).symm) dX6_order_68
      · skip
        refine r_iconst hx hb dX6_order_38 ?_
        refine lv_goto (tgt := 43) hx hb dX6_order_39 (by decide) ?_
        refine r_top (b := bz (isP2 (ol σ))) (by first | exact one_bz (by omega) | exact zero_bz (by omega)) ?_
        skip
        refine lv_istore_n (lv' := [(2, .int (kI (bz (isP2 (ol σ))))), (1, .int (kI (ol σ))), (0, .ref (z + 133))]) hx hb dX6_order_43 rfl hl (by decide) rfl (fun ls hl => ?_)
        refine lv_iload_n hx hb dX6_order_44 rfl (lv_at hl 0 rfl) ?_
        refine r_zne (tgt := 69) hx hb dX6_order_45 (by decide) (fun h_64 => ?_) (fun h_64 => ?_)
        · skip
          have hP2 := h_64
          have hL : isL (ol σ) := by omega
          have hlt := ol_lt hL
          refine lv_aload_n hx hb dX6_order_69 rfl (lv_at hl 2 rfl) ?_
          refine lv_dup hx hb dX6_order_70 rfl ?_
          refine gf_X6_130 hx hb hts hown G dX6_order_71 ?_
          refine r_iconst hx hb dX6_order_74 ?_
          refine r_iadd hx hb dX6_order_75 ?_
          refine pf_X6_130 hx hb hts hown G dX6_order_76 (fun H locs G => ?_)
          have G := G.cong (τ := adv σ) (rfl)
          refine lv_iload_n hx hb dX6_order_79 rfl (lv_at hl 1 rfl) ?_
          refine r_bipush hx hb dX6_order_80 (by decide +kernel) ?_
          refine r_icmp_ne (tgt := 92) hx hb ⟨by omega, by omega⟩ ⟨by decide, by decide⟩ dX6_order_82 (by decide) (fun h_65 => ?_) (fun h_65 => ?_)
          · skip
            have h116 := h_65
            refine lv_aload_n hx hb dX6_order_92 rfl (lv_at hl 2 rfl) ?_
            refine r_callVI ⟨hx, hb, hml, hown, hts⟩ G (k_X6_takesKind l (σ := adv σ) (by rw [adv6]; omega) (hX.adv)) (kV_X6_takesKind hts qM_X6_147 ⟨by decide, by decide⟩) (rc_X6 G) rfl rfl hl.1 rfl (Nat.le_of_ble_eq_true rfl) dX6_order_93 ⟨Nat.le_refl _, Nat.le_refl _⟩ (fun H locs G => ?_)
            refine r_zeq (tgt := 114) hx hb dX6_order_96 (by decide) (fun h_66 => ?_) (fun h_66 => ?_)
            · skip
              have hK := h_66
              have hO : ¬ oOk σ := fun q => hK ((oOk_k h116).mp q).1
              refine r_iconst hx hb dX6_order_114 ?_
              refine lv_istore_n (lv' := [(3, .int (kI 0)), (2, .int (kI (bz (isP2 (ol σ))))), (1, .int (kI (ol σ))), (0, .ref (z + 133))]) hx hb dX6_order_115 rfl hl (by decide) rfl (fun ls hl => ?_)
              refine lv_iload_n hx hb dX6_order_116 rfl (lv_at hl 0 rfl) ?_
              refine r_if_eq (tgt := 124) hx hb ⟨by decide, by decide⟩ dX6_order_117 (by decide) (fun _ => ?_) (fun h_67 => absurd h_67 (by decide))
              refine r_bipush hx hb dX6_order_124 (by decide +kernel) ?_
              exact r_cret hx hb hr hlk G ⟨by omega, by omega⟩ (by first | exact ordR_y hL hO | exact ordR_n hO) (by first | exact (ordM_d hL h116).symm | exact (ordM_n hL h116 hK).symm | exact (ordM_1 hL h116 hP2).symm | exact (ordM_2 hL h116 hK hP2).symm) dX6_order_126
            · skip
              have hK := h_66
              refine lv_iload_n hx hb dX6_order_99 rfl (lv_at hl 0 rfl) ?_
              refine r_zeq (tgt := 110) hx hb dX6_order_100 (by decide) (fun h_68 => absurd h_64 h_68) (fun _ => ?_)
              refine lv_aload_n hx hb dX6_order_103 rfl (lv_at hl 2 rfl) ?_
              refine r_callVI ⟨hx, hb, hml, hown, hts⟩ G (k_X6_takesKey l (σ := tknM (adv σ)) (by rw [tkn6]; have := bz_rg (P := sg (adv σ) 48 51); have := adv6 (σ := σ); omega) (hX.adv.tkn)) (kV_X6_takesKey hts qM_X6_150 ⟨by decide, by decide⟩) (rc_X6 G) rfl rfl hl.1 rfl (Nat.le_of_ble_eq_true rfl) dX6_order_104 ⟨Nat.le_refl _, Nat.le_refl _⟩ (fun H locs G => ?_)
              refine r_zeq (tgt := 114) hx hb dX6_order_107 (by decide) (fun h_69 => ?_) (fun h_69 => ?_)
              · skip
                have hO : ¬ oOk σ := fun q => h_69 (((oOk_k h116).mp q).2 hP2)
                refine r_iconst hx hb dX6_order_114 ?_
                refine lv_istore_n (lv' := [(3, .int (kI 0)), (2, .int (kI (bz (isP2 (ol σ))))), (1, .int (kI (ol σ))), (0, .ref (z + 133))]) hx hb dX6_order_115 rfl hl (by decide) rfl (fun ls hl => ?_)
                refine lv_iload_n hx hb dX6_order_116 rfl (lv_at hl 0 rfl) ?_
                refine r_if_eq (tgt := 124) hx hb ⟨by decide, by decide⟩ dX6_order_117 (by decide) (fun _ => ?_) (fun h_70 => absurd h_70 (by decide))
                refine r_bipush hx hb dX6_order_124 (by decide +kernel) ?_
                exact r_cret hx hb hr hlk G ⟨by omega, by omega⟩ (by first | exact ordR_y hL hO | exact ordR_n hO) (by first | exact (ordM_d hL h116).symm | exact (ordM_n hL h116 hK).symm | exact (ordM_1 hL h116 hP2).symm | exact (ordM_2 hL h116 hK hP2).symm) dX6_order_126
              · skip
                have hO : oOk σ := (oOk_k h116).mpr ⟨hK, fun _ => h_69⟩
                have hO : oOk σ := by first | exact hO | exact (oOk_k h116).mpr ⟨hK, fun q => absurd q hP2⟩
                refine r_iconst hx hb dX6_order_110 ?_
                refine lv_goto (tgt := 115) hx hb dX6_order_111 (by decide) ?_
                refine lv_istore_n (lv' := [(3, .int (kI 1)), (2, .int (kI (bz (isP2 (ol σ))))), (1, .int (kI (ol σ))), (0, .ref (z + 133))]) hx hb dX6_order_115 rfl hl (by decide) rfl (fun ls hl => ?_)
                refine lv_iload_n hx hb dX6_order_116 rfl (lv_at hl 0 rfl) ?_
                refine r_if_eq (tgt := 124) hx hb ⟨by decide, by decide⟩ dX6_order_117 (by decide) (fun h_71 => absurd h_71 (by decide)) (fun _ => ?_)
                refine lv_iload_n hx hb dX6_order_120 rfl (lv_at hl 2 rfl) ?_
                refine lv_goto (tgt := 126) hx hb dX6_order_121 (by decide) ?_
                exact r_cret hx hb hr hlk G ⟨by omega, by omega⟩ (by first | exact ordR_y hL hO | exact ordR_n hO) (by first | exact (ordM_d hL h116).symm | exact (ordM_n hL h116 hK).symm | exact (ordM_1 hL h116 hP2).symm | exact (ordM_2 hL h116 hK hP2).symm) dX6_order_126
          · skip
            have h116 := h_65
            refine lv_aload_n hx hb dX6_order_85 rfl (lv_at hl 2 rfl) ?_
            refine r_callVI ⟨hx, hb, hml, hown, hts⟩ G (k_X6_takesDays l (σ := adv σ) (by rw [adv6]; omega) (hX.adv)) (kV_X6_takesDays hts qM_X6_143 ⟨by decide, by decide⟩) (rc_X6 G) rfl rfl hl.1 rfl (Nat.le_of_ble_eq_true rfl) dX6_order_86 ⟨Nat.le_refl _, Nat.le_refl _⟩ (fun H locs G => ?_)
            refine lv_goto (tgt := 115) hx hb dX6_order_89 (by decide) ?_
            refine lv_istore_n (lv' := [(3, .int (kI (bz (sg (adv σ) 49 57)))), (2, .int (kI (bz (isP2 (ol σ))))), (1, .int (kI (ol σ))), (0, .ref (z + 133))]) hx hb dX6_order_115 rfl hl (by decide) rfl (fun ls hl => ?_)
            refine lv_iload_n hx hb dX6_order_116 rfl (lv_at hl 0 rfl) ?_
            refine r_zeq (tgt := 124) hx hb dX6_order_117 (by decide) (fun h_72 => ?_) (fun h_72 => ?_)
            · skip
              have hO : ¬ oOk σ := fun q => h_72 ((oOk_d h116).mp q)
              refine r_bipush hx hb dX6_order_124 (by decide +kernel) ?_
              exact r_cret hx hb hr hlk G ⟨by omega, by omega⟩ (by first | exact ordR_y hL hO | exact ordR_n hO) (by first | exact (ordM_d hL h116).symm | exact (ordM_n hL h116 hK).symm | exact (ordM_1 hL h116 hP2).symm | exact (ordM_2 hL h116 hK hP2).symm) dX6_order_126
            · skip
              have hO : oOk σ := (oOk_d h116).mpr h_72
              refine lv_iload_n hx hb dX6_order_120 rfl (lv_at hl 2 rfl) ?_
              refine lv_goto (tgt := 126) hx hb dX6_order_121 (by decide) ?_
              exact r_cret hx hb hr hlk G ⟨by omega, by omega⟩ (by first | exact ordR_y hL hO | exact ordR_n hO) (by first | exact (ordM_d hL h116).symm | exact (ordM_n hL h116 hK).symm | exact (ordM_1 hL h116 hP2).symm | exact (ordM_2 hL h116 hK hP2).symm) dX6_order_126
        · skip
          have hP2 := h_64
          refine lv_iload_n hx hb dX6_order_48 rfl (lv_at hl 1 rfl) ?_
          refine r_bipush hx hb dX6_order_49 (by decide +kernel) ?_
          refine r_icmp_eq (tgt := 69) hx hb ⟨by omega, by omega⟩ ⟨by decide, by decide⟩ dX6_order_51 (by decide) (fun h_73 => ?_) (fun h_73 => ?_)
          · skip
            have hL : isL (ol σ) := by omega
            have hlt := ol_lt hL
            refine lv_aload_n hx hb dX6_order_69 rfl (lv_at hl 2 rfl) ?_
            refine lv_dup hx hb dX6_order_70 rfl ?_
            refine gf_X6_130 hx hb hts hown G dX6_order_71 ?_
            refine r_iconst hx hb dX6_order_74 ?_
            refine r_iadd hx hb dX6_order_75 ?_
            refine pf_X6_130 hx hb hts hown G dX6_order_76 (fun H locs G => ?_)
            have G := G.cong (τ := adv σ) (rfl)
            refine lv_iload_n hx hb dX6_order_79 rfl (lv_at hl 1 rfl) ?_
            refine r_bipush hx hb dX6_order_80 (by decide +kernel) ?_
            refine r_icmp_ne (tgt := 92) hx hb ⟨by omega, by omega⟩ ⟨by decide, by decide⟩ dX6_order_82 (by decide) (fun h_74 => ?_) (fun h_74 => ?_)
            · skip
              have h116 := h_74
              refine lv_aload_n hx hb dX6_order_92 rfl (lv_at hl 2 rfl) ?_
              refine r_callVI ⟨hx, hb, hml, hown, hts⟩ G (k_X6_takesKind l (σ := adv σ) (by rw [adv6]; omega) (hX.adv)) (kV_X6_takesKind hts qM_X6_147 ⟨by decide, by decide⟩) (rc_X6 G) rfl rfl hl.1 rfl (Nat.le_of_ble_eq_true rfl) dX6_order_93 ⟨Nat.le_refl _, Nat.le_refl _⟩ (fun H locs G => ?_)
              refine r_zeq (tgt := 114) hx hb dX6_order_96 (by decide) (fun h_75 => ?_) (fun h_75 => ?_)
              · skip
                have hK := h_75
                have hO : ¬ oOk σ := fun q => hK ((oOk_k h116).mp q).1
                refine r_iconst hx hb dX6_order_114 ?_
                refine lv_istore_n (lv' := [(3, .int (kI 0)), (2, .int (kI (bz (isP2 (ol σ))))), (1, .int (kI (ol σ))), (0, .ref (z + 133))]) hx hb dX6_order_115 rfl hl (by decide) rfl (fun ls hl => ?_)
                refine lv_iload_n hx hb dX6_order_116 rfl (lv_at hl 0 rfl) ?_
                refine r_if_eq (tgt := 124) hx hb ⟨by decide, by decide⟩ dX6_order_117 (by decide) (fun _ => ?_) (fun h_76 => absurd h_76 (by decide))
                refine r_bipush hx hb dX6_order_124 (by decide +kernel) ?_
                exact r_cret hx hb hr hlk G ⟨by omega, by omega⟩ (by first | exact ordR_y hL hO | exact ordR_n hO) (by first | exact (ordM_d hL h116).symm | exact (ordM_n hL h116 hK).symm | exact (ordM_1 hL h116 hP2).symm | exact (ordM_2 hL h116 hK hP2).symm) dX6_order_126
              · skip
                have hK := h_75
                refine lv_iload_n hx hb dX6_order_99 rfl (lv_at hl 0 rfl) ?_
                refine r_zeq (tgt := 110) hx hb dX6_order_100 (by decide) (fun _ => ?_) (fun h_77 => absurd h_77 h_64)
                have hO : oOk σ := by first | exact hO | exact (oOk_k h116).mpr ⟨hK, fun q => absurd q hP2⟩
                refine r_iconst hx hb dX6_order_110 ?_
                refine lv_goto (tgt := 115) hx hb dX6_order_111 (by decide) ?_
                refine lv_istore_n (lv' := [(3, .int (kI 1)), (2, .int (kI (bz (isP2 (ol σ))))), (1, .int (kI (ol σ))), (0, .ref (z + 133))]) hx hb dX6_order_115 rfl hl (by decide) rfl (fun ls hl => ?_)
                refine lv_iload_n hx hb dX6_order_116 rfl (lv_at hl 0 rfl) ?_
                refine r_if_eq (tgt := 124) hx hb ⟨by decide, by decide⟩ dX6_order_117 (by decide) (fun h_78 => absurd h_78 (by decide)) (fun _ => ?_)
                refine lv_iload_n hx hb dX6_order_120 rfl (lv_at hl 2 rfl) ?_
                refine lv_goto (tgt := 126) hx hb dX6_order_121 (by decide) ?_
                exact r_cret hx hb hr hlk G ⟨by omega, by omega⟩ (by first | exact ordR_y hL hO | exact ordR_n hO) (by first | exact (ordM_d hL h116).symm | exact (ordM_n hL h116 hK).symm | exact (ordM_1 hL h116 hP2).symm | exact (ordM_2 hL h116 hK hP2).symm) dX6_order_126
            · skip
              have h116 := h_74
              refine lv_aload_n hx hb dX6_order_85 rfl (lv_at hl 2 rfl) ?_
              refine r_callVI ⟨hx, hb, hml, hown, hts⟩ G (k_X6_takesDays l (σ := adv σ) (by rw [adv6]; omega) (hX.adv)) (kV_X6_takesDays hts qM_X6_143 ⟨by decide, by decide⟩) (rc_X6 G) rfl rfl hl.1 rfl (Nat.le_of_ble_eq_true rfl) dX6_order_86 ⟨Nat.le_refl _, Nat.le_refl _⟩ (fun H locs G => ?_)
              refine lv_goto (tgt := 115) hx hb dX6_order_89 (by decide) ?_
              refine lv_istore_n (lv' := [(3, .int (kI (bz (sg (adv σ) 49 57)))), (2, .int (kI (bz (isP2 (ol σ))))), (1, .int (kI (ol σ))), (0, .ref (z + 133))]) hx hb dX6_order_115 rfl hl (by decide) rfl (fun ls hl => ?_)
              refine lv_iload_n hx hb dX6_order_116 rfl (lv_at hl 0 rfl) ?_
              refine r_zeq (tgt := 124) hx hb dX6_order_117 (by decide) (fun h_79 => ?_) (fun h_79 => ?_)
              · skip
                have hO : ¬ oOk σ := fun q => h_79 ((oOk_d h116).mp q)
                refine r_bipush hx hb dX6_order_124 (by decide +kernel) ?_
                exact r_cret hx hb hr hlk G ⟨by omega, by omega⟩ (by first | exact ordR_y hL hO | exact ordR_n hO) (by first | exact (ordM_d hL h116).symm | exact (ordM_n hL h116 hK).symm | exact (ordM_1 hL h116 hP2).symm | exact (ordM_2 hL h116 hK hP2).symm) dX6_order_126
              · skip
                have hO : oOk σ := (oOk_d h116).mpr h_79
                refine lv_iload_n hx hb dX6_order_120 rfl (lv_at hl 2 rfl) ?_
                refine lv_goto (tgt := 126) hx hb dX6_order_121 (by decide) ?_
                exact r_cret hx hb hr hlk G ⟨by omega, by omega⟩ (by first | exact ordR_y hL hO | exact ordR_n hO) (by first | exact (ordM_d hL h116).symm | exact (ordM_n hL h116 hK).symm | exact (ordM_1 hL h116 hP2).symm | exact (ordM_2 hL h116 hK hP2).symm) dX6_order_126
          · skip
            refine lv_iload_n hx hb dX6_order_54 rfl (lv_at hl 1 rfl) ?_
            refine r_bipush hx hb dX6_order_55 (by decide +kernel) ?_
            refine r_icmp_eq (tgt := 69) hx hb ⟨by omega, by omega⟩ ⟨by decide, by decide⟩ dX6_order_57 (by decide) (fun h_80 => ?_) (fun h_80 => ?_)
            · skip
              have hL : isL (ol σ) := by omega
              have hlt := ol_lt hL
              refine lv_aload_n hx hb dX6_order_69 rfl (lv_at hl 2 rfl) ?_
              refine lv_dup hx hb dX6_order_70 rfl ?_
              refine gf_X6_130 hx hb hts hown G dX6_order_71 ?_
              refine r_iconst hx hb dX6_order_74 ?_
              refine r_iadd hx hb dX6_order_75 ?_
              refine pf_X6_130 hx hb hts hown G dX6_order_76 (fun H locs G => ?_)
              have G := G.cong (τ := adv σ) (rfl)
              refine lv_iload_n hx hb dX6_order_79 rfl (lv_at hl 1 rfl) ?_
              refine r_bipush hx hb dX6_order_80 (by decide +kernel) ?_
              refine r_icmp_ne (tgt := 92) hx hb ⟨by omega, by omega⟩ ⟨by decide, by decide⟩ dX6_order_82 (by decide) (fun h_81 => ?_) (fun h_81 => ?_)
              · skip
                have h116 := h_81
                refine lv_aload_n hx hb dX6_order_92 rfl (lv_at hl 2 rfl) ?_
                refine r_callVI ⟨hx, hb, hml, hown, hts⟩ G (k_X6_takesKind l (σ := adv σ) (by rw [adv6]; omega) (hX.adv)) (kV_X6_takesKind hts qM_X6_147 ⟨by decide, by decide⟩) (rc_X6 G) rfl rfl hl.1 rfl (Nat.le_of_ble_eq_true rfl) dX6_order_93 ⟨Nat.le_refl _, Nat.le_refl _⟩ (fun H locs G => ?_)
                refine r_zeq (tgt := 114) hx hb dX6_order_96 (by decide) (fun h_82 => ?_) (fun h_82 => ?_)
                · skip
                  have hK := h_82
                  have hO : ¬ oOk σ := fun q => hK ((oOk_k h116).mp q).1
                  refine r_iconst hx hb dX6_order_114 ?_
                  refine lv_istore_n (lv' := [(3, .int (kI 0)), (2, .int (kI (bz (isP2 (ol σ))))), (1, .int (kI (ol σ))), (0, .ref (z + 133))]) hx hb dX6_order_115 rfl hl (by decide) rfl (fun ls hl => ?_)
                  refine lv_iload_n hx hb dX6_order_116 rfl (lv_at hl 0 rfl) ?_
                  refine r_if_eq (tgt := 124) hx hb ⟨by decide, by decide⟩ dX6_order_117 (by decide) (fun _ => ?_) (fun h_83 => absurd h_83 (by decide))
                  refine r_bipush hx hb dX6_order_124 (by decide +kernel) ?_
                  exact r_cret hx hb hr hlk G ⟨by omega, by omega⟩ (by first | exact ordR_y hL hO | exact ordR_n hO) (by first | exact (ordM_d hL h116).symm | exact (ordM_n hL h116 hK).symm | exact (ordM_1 hL h116 hP2).symm | exact (ordM_2 hL h116 hK hP2).symm) dX6_order_126
                · skip
                  have hK := h_82
                  refine lv_iload_n hx hb dX6_order_99 rfl (lv_at hl 0 rfl) ?_
                  refine r_zeq (tgt := 110) hx hb dX6_order_100 (by decide) (fun _ => ?_) (fun h_84 => absurd h_84 h_64)
                  have hO : oOk σ := by first | exact hO | exact (oOk_k h116).mpr ⟨hK, fun q => absurd q hP2⟩
                  refine r_iconst hx hb dX6_order_110 ?_
                  refine lv_goto (tgt := 115) hx hb dX6_order_111 (by decide) ?_
                  refine lv_istore_n (lv' := [(3, .int (kI 1)), (2, .int (kI (bz (isP2 (ol σ))))), (1, .int (kI (ol σ))), (0, .ref (z + 133))]) hx hb dX6_order_115 rfl hl (by decide) rfl (fun ls hl => ?_)
                  refine lv_iload_n hx hb dX6_order_116 rfl (lv_at hl 0 rfl) ?_
                  refine r_if_eq (tgt := 124) hx hb ⟨by decide, by decide⟩ dX6_order_117 (by decide) (fun h_85 => absurd h_85 (by decide)) (fun _ => ?_)
                  refine lv_iload_n hx hb dX6_order_120 rfl (lv_at hl 2 rfl) ?_
                  refine lv_goto (tgt := 126) hx hb dX6_order_121 (by decide) ?_
                  exact r_cret hx hb hr hlk G ⟨by omega, by omega⟩ (by first | exact ordR_y hL hO | exact ordR_n hO) (by first | exact (ordM_d hL h116).symm | exact (ordM_n hL h116 hK).symm | exact (ordM_1 hL h116 hP2).symm | exact (ordM_2 hL h116 hK hP2).symm) dX6_order_126
              · skip
                have h116 := h_81
                refine lv_aload_n hx hb dX6_order_85 rfl (lv_at hl 2 rfl) ?_
                refine r_callVI ⟨hx, hb, hml, hown, hts⟩ G (k_X6_takesDays l (σ := adv σ) (by rw [adv6]; omega) (hX.adv)) (kV_X6_takesDays hts qM_X6_143 ⟨by decide, by decide⟩) (rc_X6 G) rfl rfl hl.1 rfl (Nat.le_of_ble_eq_true rfl) dX6_order_86 ⟨Nat.le_refl _, Nat.le_refl _⟩ (fun H locs G => ?_)
                refine lv_goto (tgt := 115) hx hb dX6_order_89 (by decide) ?_
                refine lv_istore_n (lv' := [(3, .int (kI (bz (sg (adv σ) 49 57)))), (2, .int (kI (bz (isP2 (ol σ))))), (1, .int (kI (ol σ))), (0, .ref (z + 133))]) hx hb dX6_order_115 rfl hl (by decide) rfl (fun ls hl => ?_)
                refine lv_iload_n hx hb dX6_order_116 rfl (lv_at hl 0 rfl) ?_
                refine r_zeq (tgt := 124) hx hb dX6_order_117 (by decide) (fun h_86 => ?_) (fun h_86 => ?_)
                · skip
                  have hO : ¬ oOk σ := fun q => h_86 ((oOk_d h116).mp q)
                  refine r_bipush hx hb dX6_order_124 (by decide +kernel) ?_
                  exact r_cret hx hb hr hlk G ⟨by omega, by omega⟩ (by first | exact ordR_y hL hO | exact ordR_n hO) (by first | exact (ordM_d hL h116).symm | exact (ordM_n hL h116 hK).symm | exact (ordM_1 hL h116 hP2).symm | exact (ordM_2 hL h116 hK hP2).symm) dX6_order_126
                · skip
                  have hO : oOk σ := (oOk_d h116).mpr h_86
                  refine lv_iload_n hx hb dX6_order_120 rfl (lv_at hl 2 rfl) ?_
                  refine lv_goto (tgt := 126) hx hb dX6_order_121 (by decide) ?_
                  exact r_cret hx hb hr hlk G ⟨by omega, by omega⟩ (by first | exact ordR_y hL hO | exact ordR_n hO) (by first | exact (ordM_d hL h116).symm | exact (ordM_n hL h116 hK).symm | exact (ordM_1 hL h116 hP2).symm | exact (ordM_2 hL h116 hK hP2).symm) dX6_order_126
            · skip
              refine lv_iload_n hx hb dX6_order_60 rfl (lv_at hl 1 rfl) ?_
              refine r_bipush hx hb dX6_order_61 (by decide +kernel) ?_
              refine r_icmp_eq (tgt := 69) hx hb ⟨by omega, by omega⟩ ⟨by decide, by decide⟩ dX6_order_63 (by decide) (fun h_87 => ?_) (fun h_87 => ?_)
              · skip
                have hL : isL (ol σ) := by omega
                have hlt := ol_lt hL
                refine lv_aload_n hx hb dX6_order_69 rfl (lv_at hl 2 rfl) ?_
                refine lv_dup hx hb dX6_order_70 rfl ?_
                refine gf_X6_130 hx hb hts hown G dX6_order_71 ?_
                refine r_iconst hx hb dX6_order_74 ?_
                refine r_iadd hx hb dX6_order_75 ?_
                refine pf_X6_130 hx hb hts hown G dX6_order_76 (fun H locs G => ?_)
                have G := G.cong (τ := adv σ) (rfl)
                refine lv_iload_n hx hb dX6_order_79 rfl (lv_at hl 1 rfl) ?_
                refine r_bipush hx hb dX6_order_80 (by decide +kernel) ?_
                refine r_icmp_ne (tgt := 92) hx hb ⟨by omega, by omega⟩ ⟨by decide, by decide⟩ dX6_order_82 (by decide) (fun h_88 => ?_) (fun h_88 => ?_)
                · skip
                  have h116 := h_88
                  refine lv_aload_n hx hb dX6_order_92 rfl (lv_at hl 2 rfl) ?_
                  refine r_callVI ⟨hx, hb, hml, hown, hts⟩ G (k_X6_takesKind l (σ := adv σ) (by rw [adv6]; omega) (hX.adv)) (kV_X6_takesKind hts qM_X6_147 ⟨by decide, by decide⟩) (rc_X6 G) rfl rfl hl.1 rfl (Nat.le_of_ble_eq_true rfl) dX6_order_93 ⟨Nat.le_refl _, Nat.le_refl _⟩ (fun H locs G => ?_)
                  refine r_zeq (tgt := 114) hx hb dX6_order_96 (by decide) (fun h_89 => ?_) (fun h_89 => ?_)
                  · skip
                    have hK := h_89
                    have hO : ¬ oOk σ := fun q => hK ((oOk_k h116).mp q).1
                    refine r_iconst hx hb dX6_order_114 ?_
                    refine lv_istore_n (lv' := [(3, .int (kI 0)), (2, .int (kI (bz (isP2 (ol σ))))), (1, .int (kI (ol σ))), (0, .ref (z + 133))]) hx hb dX6_order_115 rfl hl (by decide) rfl (fun ls hl => ?_)
                    refine lv_iload_n hx hb dX6_order_116 rfl (lv_at hl 0 rfl) ?_
                    refine r_if_eq (tgt := 124) hx hb ⟨by decide, by decide⟩ dX6_order_117 (by decide) (fun _ => ?_) (fun h_90 => absurd h_90 (by decide))
                    refine r_bipush hx hb dX6_order_124 (by decide +kernel) ?_
                    exact r_cret hx hb hr hlk G ⟨by omega, by omega⟩ (by first | exact ordR_y hL hO | exact ordR_n hO) (by first | exact (ordM_d hL h116).symm | exact (ordM_n hL h116 hK).symm | exact (ordM_1 hL h116 hP2).symm | exact (ordM_2 hL h116 hK hP2).symm) dX6_order_126
                  · skip
                    have hK := h_89
                    refine lv_iload_n hx hb dX6_order_99 rfl (lv_at hl 0 rfl) ?_
                    refine r_zeq (tgt := 110) hx hb dX6_order_100 (by decide) (fun _ => ?_) (fun h_91 => absurd h_91 h_64)
                    have hO : oOk σ := by first | exact hO | exact (oOk_k h116).mpr ⟨hK, fun q => absurd q hP2⟩
                    refine r_iconst hx hb dX6_order_110 ?_
                    refine lv_goto (tgt := 115) hx hb dX6_order_111 (by decide) ?_
                    refine lv_istore_n (lv' := [(3, .int (kI 1)), (2, .int (kI (bz (isP2 (ol σ))))), (1, .int (kI (ol σ))), (0, .ref (z + 133))]) hx hb dX6_order_115 rfl hl (by decide) rfl (fun ls hl => ?_)
                    refine lv_iload_n hx hb dX6_order_116 rfl (lv_at hl 0 rfl) ?_
                    refine r_if_eq (tgt := 124) hx hb ⟨by decide, by decide⟩ dX6_order_117 (by decide) (fun h_92 => absurd h_92 (by decide)) (fun _ => ?_)
                    refine lv_iload_n hx hb dX6_order_120 rfl (lv_at hl 2 rfl) ?_
                    refine lv_goto (tgt := 126) hx hb dX6_order_121 (by decide) ?_
                    exact r_cret hx hb hr hlk G ⟨by omega, by omega⟩ (by first | exact ordR_y hL hO | exact ordR_n hO) (by first | exact (ordM_d hL h116).symm | exact (ordM_n hL h116 hK).symm | exact (ordM_1 hL h116 hP2).symm | exact (ordM_2 hL h116 hK hP2).symm) dX6_order_126
                · skip
                  have h116 := h_88
                  refine lv_aload_n hx hb dX6_order_85 rfl (lv_at hl 2 rfl) ?_
                  refine r_callVI ⟨hx, hb, hml, hown, hts⟩ G (k_X6_takesDays l (σ := adv σ) (by rw [adv6]; omega) (hX.adv)) (kV_X6_takesDays hts qM_X6_143 ⟨by decide, by decide⟩) (rc_X6 G) rfl rfl hl.1 rfl (Nat.le_of_ble_eq_true rfl) dX6_order_86 ⟨Nat.le_refl _, Nat.le_refl _⟩ (fun H locs G => ?_)
                  refine lv_goto (tgt := 115) hx hb dX6_order_89 (by decide) ?_
                  refine lv_istore_n (lv' := [(3, .int (kI (bz (sg (adv σ) 49 57)))), (2, .int (kI (bz (isP2 (ol σ))))), (1, .int (kI (ol σ))), (0, .ref (z + 133))]) hx hb dX6_order_115 rfl hl (by decide) rfl (fun ls hl => ?_)
                  refine lv_iload_n hx hb dX6_order_116 rfl (lv_at hl 0 rfl) ?_
                  refine r_zeq (tgt := 124) hx hb dX6_order_117 (by decide) (fun h_93 => ?_) (fun h_93 => ?_)
                  · skip
                    have hO : ¬ oOk σ := fun q => h_93 ((oOk_d h116).mp q)
                    refine r_bipush hx hb dX6_order_124 (by decide +kernel) ?_
                    exact r_cret hx hb hr hlk G ⟨by omega, by omega⟩ (by first | exact ordR_y hL hO | exact ordR_n hO) (by first | exact (ordM_d hL h116).symm | exact (ordM_n hL h116 hK).symm | exact (ordM_1 hL h116 hP2).symm | exact (ordM_2 hL h116 hK hP2).symm) dX6_order_126
                  · skip
                    have hO : oOk σ := (oOk_d h116).mpr h_93
                    refine lv_iload_n hx hb dX6_order_120 rfl (lv_at hl 2 rfl) ?_
                    refine lv_goto (tgt := 126) hx hb dX6_order_121 (by decide) ?_
                    exact r_cret hx hb hr hlk G ⟨by omega, by omega⟩ (by first | exact ordR_y hL hO | exact ordR_n hO) (by first | exact (ordM_d hL h116).symm | exact (ordM_n hL h116 hK).symm | exact (ordM_1 hL h116 hP2).symm | exact (ordM_2 hL h116 hK hP2).symm) dX6_order_126
              · skip
                have hL : ¬ isL (ol σ) := by omega
                refine r_bipush hx hb dX6_order_66 (by decide +kernel) ?_
                exact r_cret hx hb hr hlk G ⟨by omega, by omega⟩ (by exact ordR_x hL) (by exact (ordM_x hL).symm) dX6_order_68
  · skip
    have hcr := hX.2 (σ 133 6) (by omega) (by omega)
    refine lv_aload_n hx hb dX6_order_11 rfl (lv_at hl 0 rfl) ?_
    refine gf_X6_17 hx hb hts hown G dX6_order_12 ?_
    refine lv_aload_n hx hb dX6_order_15 rfl (lv_at hl 0 rfl) ?_
    refine gf_X6_130 hx hb hts hown G dX6_order_16 ?_
    refine r_cald hx hb G 136 (by decide) (N := 60) (fun _ => rfl) (by omega) (by omega) (by decide) dX6_order_19 ?_
    refine lv_goto (tgt := 25) hx hb dX6_order_20 (by decide) ?_
    refine r_top (b := ol σ) (by unfold ol; first | rw [if_pos (by omega)] | rw [if_neg (by omega)]) ?_
    skip
    refine lv_istore_n (lv' := [(1, .int (kI (ol σ))), (0, .ref (z + 133))]) hx hb dX6_order_25 rfl hl (by decide) rfl (fun ls hl => ?_)
    refine lv_iload_n hx hb dX6_order_26 rfl (lv_at hl 0 rfl) ?_
    refine r_bipush hx hb dX6_order_27 (by decide +kernel) ?_
    refine r_icmp_eq (tgt := 38) hx hb ⟨by omega, by omega⟩ ⟨by decide, by decide⟩ dX6_order_29 (by decide) (fun h_94 => ?_) (fun h_94 => ?_)
    · skip
      refine r_iconst hx hb dX6_order_38 ?_
      refine lv_goto (tgt := 43) hx hb dX6_order_39 (by decide) ?_
      refine r_top (b := bz (isP2 (ol σ))) (by first | exact one_bz (by omega) | exact zero_bz (by omega)) ?_
      skip
      refine lv_istore_n (lv' := [(2, .int (kI (bz (isP2 (ol σ))))), (1, .int (kI (ol σ))), (0, .ref (z + 133))]) hx hb dX6_order_43 rfl hl (by decide) rfl (fun ls hl => ?_)
      refine lv_iload_n hx hb dX6_order_44 rfl (lv_at hl 0 rfl) ?_
      refine r_zne (tgt := 69) hx hb dX6_order_45 (by decide) (fun h_95 => ?_) (fun h_95 => ?_)
      · skip
        have hP2 := h_95
        have hL : isL (ol σ) := by omega
        have hlt := ol_lt hL
        refine lv_aload_n hx hb dX6_order_69 rfl (lv_at hl 2 rfl) ?_
        refine lv_dup hx hb dX6_order_70 rfl ?_
        refine gf_X6_130 hx hb hts hown G dX6_order_71 ?_
        refine r_iconst hx hb dX6_order_74 ?_
        refine r_iadd hx hb dX6_order_75 ?_
        refine pf_X6_130 hx hb hts hown G dX6_order_76 (fun H locs G => ?_)
        have G := G.cong (τ := adv σ) (rfl)
        refine lv_iload_n hx hb dX6_order_79 rfl (lv_at hl 1 rfl) ?_
        refine r_bipush hx hb dX6_order_80 (by decide +kernel) ?_
        refine r_icmp_ne (tgt := 92) hx hb ⟨by omega, by omega⟩ ⟨by decide, by decide⟩ dX6_order_82 (by decide) (fun h_96 => ?_) (fun h_96 => ?_)
        · skip
          have h116 := h_96
          refine lv_aload_n hx hb dX6_order_92 rfl (lv_at hl 2 rfl) ?_
          refine r_callVI ⟨hx, hb, hml, hown, hts⟩ G (k_X6_takesKind l (σ := adv σ) (by rw [adv6]; omega) (hX.adv)) (kV_X6_takesKind hts qM_X6_147 ⟨by decide, by decide⟩) (rc_X6 G) rfl rfl hl.1 rfl (Nat.le_of_ble_eq_true rfl) dX6_order_93 ⟨Nat.le_refl _, Nat.le_refl _⟩ (fun H locs G => ?_)
          refine r_zeq (tgt := 114) hx hb dX6_order_96 (by decide) (fun h_97 => ?_) (fun h_97 => ?_)
          · skip
            have hK := h_97
            have hO : ¬ oOk σ := fun q => hK ((oOk_k h116).mp q).1
            refine r_iconst hx hb dX6_order_114 ?_
            refine lv_istore_n (lv' := [(3, .int (kI 0)), (2, .int (kI (bz (isP2 (ol σ))))), (1, .int (kI (ol σ))), (0, .ref (z + 133))]) hx hb dX6_order_115 rfl hl (by decide) rfl (fun ls hl => ?_)
            refine lv_iload_n hx hb dX6_order_116 rfl (lv_at hl 0 rfl) ?_
            refine r_if_eq (tgt := 124) hx hb ⟨by decide, by decide⟩ dX6_order_117 (by decide) (fun _ => ?_) (fun h_98 => absurd h_98 (by decide))
            refine r_bipush hx hb dX6_order_124 (by decide +kernel) ?_
            exact r_cret hx hb hr hlk G ⟨by omega, by omega⟩ (by first | exact ordR_y hL hO | exact ordR_n hO) (by first | exact (ordM_d hL h116).symm | exact (ordM_n hL h116 hK).symm | exact (ordM_1 hL h116 hP2).symm | exact (ordM_2 hL h116 hK hP2).symm) dX6_order_126
          · skip
            have hK := h_97
            refine lv_iload_n hx hb dX6_order_99 rfl (lv_at hl 0 rfl) ?_
            refine r_zeq (tgt := 110) hx hb dX6_order_100 (by decide) (fun h_99 => absurd h_95 h_99) (fun _ => ?_)
            refine lv_aload_n hx hb dX6_order_103 rfl (lv_at hl 2 rfl) ?_
            refine r_callVI ⟨hx, hb, hml, hown, hts⟩ G (k_X6_takesKey l (σ := tknM (adv σ)) (by rw [tkn6]; have := bz_rg (P := sg (adv σ) 48 51); have := adv6 (σ := σ); omega) (hX.adv.tkn)) (kV_X6_takesKey hts qM_X6_150 ⟨by decide, by decide⟩) (rc_X6 G) rfl rfl hl.1 rfl (Nat.le_of_ble_eq_true rfl) dX6_order_104 ⟨Nat.le_refl _, Nat.le_refl _⟩ (fun H locs G => ?_)
            refine r_zeq (tgt := 114) hx hb dX6_order_107 (by decide) (fun h_100 => ?_) (fun h_100 => ?_)
            · skip
              have hO : ¬ oOk σ := fun q => h_100 (((oOk_k h116).mp q).2 hP2)
              refine r_iconst hx hb dX6_order_114 ?_
              refine lv_istore_n (lv' := [(3, .int (kI 0)), (2, .int (kI (bz (isP2 (ol σ))))), (1, .int (kI (ol σ))), (0, .ref (z + 133))]) hx hb dX6_order_115 rfl hl (by decide) rfl (fun ls hl => ?_)
              refine lv_iload_n hx hb dX6_order_116 rfl (lv_at hl 0 rfl) ?_
              refine r_if_eq (tgt := 124) hx hb ⟨by decide, by decide⟩ dX6_order_117 (by decide) (fun _ => ?_) (fun h_101 => absurd h_101 (by decide))
              refine r_bipush hx hb dX6_order_124 (by decide +kernel) ?_
              exact r_cret hx hb hr hlk G ⟨by omega, by omega⟩ (by first | exact ordR_y hL hO | exact ordR_n hO) (by first | exact (ordM_d hL h116).symm | exact (ordM_n hL h116 hK).symm | exact (ordM_1 hL h116 hP2).symm | exact (ordM_2 hL h116 hK hP2).symm) dX6_order_126
            · skip
              have hO : oOk σ := (oOk_k h116).mpr ⟨hK, fun _ => h_100⟩
              have hO : oOk σ := by first | exact hO | exact (oOk_k h116).mpr ⟨hK, fun q => absurd q hP2⟩
              refine r_iconst hx hb dX6_order_110 ?_
              refine lv_goto (tgt := 115) hx hb dX6_order_111 (by decide) ?_
              refine lv_istore_n (lv' := [(3, .int (kI 1)), (2, .int (kI (bz (isP2 (ol σ))))), (1, .int (kI (ol σ))), (0, .ref (z + 133))]) hx hb dX6_order_115 rfl hl (by decide) rfl (fun ls hl => ?_)
              refine lv_iload_n hx hb dX6_order_116 rfl (lv_at hl 0 rfl) ?_
              refine r_if_eq (tgt := 124) hx hb ⟨by decide, by decide⟩ dX6_order_117 (by decide) (fun h_102 => absurd h_102 (by decide)) (fun _ => ?_)
              refine lv_iload_n hx hb dX6_order_120 rfl (lv_at hl 2 rfl) ?_
              refine lv_goto (tgt := 126) hx hb dX6_order_121 (by decide) ?_
              exact r_cret hx hb hr hlk G ⟨by omega, by omega⟩ (by first | exact ordR_y hL hO | exact ordR_n hO) (by first | exact (ordM_d hL h116).symm | exact (ordM_n hL h116 hK).symm | exact (ordM_1 hL h116 hP2).symm | exact (ordM_2 hL h116 hK hP2).symm) dX6_order_126
        · skip
          have h116 := h_96
          refine lv_aload_n hx hb dX6_order_85 rfl (lv_at hl 2 rfl) ?_
          refine r_callVI ⟨hx, hb, hml, hown, hts⟩ G (k_X6_takesDays l (σ := adv σ) (by rw [adv6]; omega) (hX.adv)) (kV_X6_takesDays hts qM_X6_143 ⟨by decide, by decide⟩) (rc_X6 G) rfl rfl hl.1 rfl (Nat.le_of_ble_eq_true rfl) dX6_order_86 ⟨Nat.le_refl _, Nat.le_refl _⟩ (fun H locs G => ?_)
          refine lv_goto (tgt := 115) hx hb dX6_order_89 (by decide) ?_
          refine lv_istore_n (lv' := [(3, .int (kI (bz (sg (adv σ) 49 57)))), (2, .int (kI (bz (isP2 (ol σ))))), (1, .int (kI (ol σ))), (0, .ref (z + 133))]) hx hb dX6_order_115 rfl hl (by decide) rfl (fun ls hl => ?_)
          refine lv_iload_n hx hb dX6_order_116 rfl (lv_at hl 0 rfl) ?_
          refine r_zeq (tgt := 124) hx hb dX6_order_117 (by decide) (fun h_103 => ?_) (fun h_103 => ?_)
          · skip
            have hO : ¬ oOk σ := fun q => h_103 ((oOk_d h116).mp q)
            refine r_bipush hx hb dX6_order_124 (by decide +kernel) ?_
            exact r_cret hx hb hr hlk G ⟨by omega, by omega⟩ (by first | exact ordR_y hL hO | exact ordR_n hO) (by first | exact (ordM_d hL h116).symm | exact (ordM_n hL h116 hK).symm | exact (ordM_1 hL h116 hP2).symm | exact (ordM_2 hL h116 hK hP2).symm) dX6_order_126
          · skip
            have hO : oOk σ := (oOk_d h116).mpr h_103
            refine lv_iload_n hx hb dX6_order_120 rfl (lv_at hl 2 rfl) ?_
            refine lv_goto (tgt := 126) hx hb dX6_order_121 (by decide) ?_
            exact r_cret hx hb hr hlk G ⟨by omega, by omega⟩ (by first | exact ordR_y hL hO | exact ordR_n hO) (by first | exact (ordM_d hL h116).symm | exact (ordM_n hL h116 hK).symm | exact (ordM_1 hL h116 hP2).symm | exact (ordM_2 hL h116 hK hP2).symm) dX6_order_126
      · skip
        have hP2 := h_95
        refine lv_iload_n hx hb dX6_order_48 rfl (lv_at hl 1 rfl) ?_
        refine r_bipush hx hb dX6_order_49 (by decide +kernel) ?_
        refine r_icmp_eq (tgt := 69) hx hb ⟨by omega, by omega⟩ ⟨by decide, by decide⟩ dX6_order_51 (by decide) (fun h_104 => ?_) (fun h_104 => ?_)
        · skip
          have hL : isL (ol σ) := by omega
          have hlt := ol_lt hL
          refine lv_aload_n hx hb dX6_order_69 rfl (lv_at hl 2 rfl) ?_
          refine lv_dup hx hb dX6_order_70 rfl ?_
          refine gf_X6_130 hx hb hts hown G dX6_order_71 ?_
          refine r_iconst hx hb dX6_order_74 ?_
          refine r_iadd hx hb dX6_order_75 ?_
          refine pf_X6_130 hx hb hts hown G dX6_order_76 (fun H locs G => ?_)
          have G := G.cong (τ := adv σ) (rfl)
          refine lv_iload_n hx hb dX6_order_79 rfl (lv_at hl 1 rfl) ?_
          refine r_bipush hx hb dX6_order_80 (by decide +kernel) ?_
          refine r_icmp_ne (tgt := 92) hx hb ⟨by omega, by omega⟩ ⟨by decide, by decide⟩ dX6_order_82 (by decide) (fun h_105 => ?_) (fun h_105 => ?_)
          · skip
            have h116 := h_105
            refine lv_aload_n hx hb dX6_order_92 rfl (lv_at hl 2 rfl) ?_
            refine r_callVI ⟨hx, hb, hml, hown, hts⟩ G (k_X6_takesKind l (σ := adv σ) (by rw [adv6]; omega) (hX.adv)) (kV_X6_takesKind hts qM_X6_147 ⟨by decide, by decide⟩) (rc_X6 G) rfl rfl hl.1 rfl (Nat.le_of_ble_eq_true rfl) dX6_order_93 ⟨Nat.le_refl _, Nat.le_refl _⟩ (fun H locs G => ?_)
            refine r_zeq (tgt := 114) hx hb dX6_order_96 (by decide) (fun h_106 => ?_) (fun h_106 => ?_)
            · skip
              have hK := h_106
              have hO : ¬ oOk σ := fun q => hK ((oOk_k h116).mp q).1
              refine r_iconst hx hb dX6_order_114 ?_
              refine lv_istore_n (lv' := [(3, .int (kI 0)), (2, .int (kI (bz (isP2 (ol σ))))), (1, .int (kI (ol σ))), (0, .ref (z + 133))]) hx hb dX6_order_115 rfl hl (by decide) rfl (fun ls hl => ?_)
              refine lv_iload_n hx hb dX6_order_116 rfl (lv_at hl 0 rfl) ?_
              refine r_if_eq (tgt := 124) hx hb ⟨by decide, by decide⟩ dX6_order_117 (by decide) (fun _ => ?_) (fun h_107 => absurd h_107 (by decide))
              refine r_bipush hx hb dX6_order_124 (by decide +kernel) ?_
              exact r_cret hx hb hr hlk G ⟨by omega, by omega⟩ (by first | exact ordR_y hL hO | exact ordR_n hO) (by first | exact (ordM_d hL h116).symm | exact (ordM_n hL h116 hK).symm | exact (ordM_1 hL h116 hP2).symm | exact (ordM_2 hL h116 hK hP2).symm) dX6_order_126
            · skip
              have hK := h_106
              refine lv_iload_n hx hb dX6_order_99 rfl (lv_at hl 0 rfl) ?_
              refine r_zeq (tgt := 110) hx hb dX6_order_100 (by decide) (fun _ => ?_) (fun h_108 => absurd h_108 h_95)
              have hO : oOk σ := by first | exact hO | exact (oOk_k h116).mpr ⟨hK, fun q => absurd q hP2⟩
              refine r_iconst hx hb dX6_order_110 ?_
              refine lv_goto (tgt := 115) hx hb dX6_order_111 (by decide) ?_
              refine lv_istore_n (lv' := [(3, .int (kI 1)), (2, .int (kI (bz (isP2 (ol σ))))), (1, .int (kI (ol σ))), (0, .ref (z + 133))]) hx hb dX6_order_115 rfl hl (by decide) rfl (fun ls hl => ?_)
              refine lv_iload_n hx hb dX6_order_116 rfl (lv_at hl 0 rfl) ?_
              refine r_if_eq (tgt := 124) hx hb ⟨by decide, by decide⟩ dX6_order_117 (by decide) (fun h_109 => absurd h_109 (by decide)) (fun _ => ?_)
              refine lv_iload_n hx hb dX6_order_120 rfl (lv_at hl 2 rfl) ?_
              refine lv_goto (tgt := 126) hx hb dX6_order_121 (by decide) ?_
              exact r_cret hx hb hr hlk G ⟨by omega, by omega⟩ (by first | exact ordR_y hL hO | exact ordR_n hO) (by first | exact (ordM_d hL h116).symm | exact (ordM_n hL h116 hK).symm | exact (ordM_1 hL h116 hP2).symm | exact (ordM_2 hL h116 hK hP2).symm) dX6_order_126
          · skip
            have h116 := h_105
            refine lv_aload_n hx hb dX6_order_85 rfl (lv_at hl 2 rfl) ?_
            refine r_callVI ⟨hx, hb, hml, hown, hts⟩ G (k_X6_takesDays l (σ := adv σ) (by rw [adv6]; omega) (hX.adv)) (kV_X6_takesDays hts qM_X6_143 ⟨by decide, by decide⟩) (rc_X6 G) rfl rfl hl.1 rfl (Nat.le_of_ble_eq_true rfl) dX6_order_86 ⟨Nat.le_refl _, Nat.le_refl _⟩ (fun H locs G => ?_)
            refine lv_goto (tgt := 115) hx hb dX6_order_89 (by decide) ?_
            refine lv_istore_n (lv' := [(3, .int (kI (bz (sg (adv σ) 49 57)))), (2, .int (kI (bz (isP2 (ol σ))))), (1, .int (kI (ol σ))), (0, .ref (z + 133))]) hx hb dX6_order_115 rfl hl (by decide) rfl (fun ls hl => ?_)
            refine lv_iload_n hx hb dX6_order_116 rfl (lv_at hl 0 rfl) ?_
            refine r_zeq (tgt := 124) hx hb dX6_order_117 (by decide) (fun h_110 => ?_) (fun h_110 => ?_)
            · skip
              have hO : ¬ oOk σ := fun q => h_110 ((oOk_d h116).mp q)
              refine r_bipush hx hb dX6_order_124 (by decide +kernel) ?_
              exact r_cret hx hb hr hlk G ⟨by omega, by omega⟩ (by first | exact ordR_y hL hO | exact ordR_n hO) (by first | exact (ordM_d hL h116).symm | exact (ordM_n hL h116 hK).symm | exact (ordM_1 hL h116 hP2).symm | exact (ordM_2 hL h116 hK hP2).symm) dX6_order_126
            · skip
              have hO : oOk σ := (oOk_d h116).mpr h_110
              refine lv_iload_n hx hb dX6_order_120 rfl (lv_at hl 2 rfl) ?_
              refine lv_goto (tgt := 126) hx hb dX6_order_121 (by decide) ?_
              exact r_cret hx hb hr hlk G ⟨by omega, by omega⟩ (by first | exact ordR_y hL hO | exact ordR_n hO) (by first | exact (ordM_d hL h116).symm | exact (ordM_n hL h116 hK).symm | exact (ordM_1 hL h116 hP2).symm | exact (ordM_2 hL h116 hK hP2).symm) dX6_order_126
        · skip
          refine lv_iload_n hx hb dX6_order_54 rfl (lv_at hl 1 rfl) ?_
          refine r_bipush hx hb dX6_order_55 (by decide +kernel) ?_
          refine r_icmp_eq (tgt := 69) hx hb ⟨by omega, by omega⟩ ⟨by decide, by decide⟩ dX6_order_57 (by decide) (fun h_111 => ?_) (fun h_111 => ?_)
          · skip
            have hL : isL (ol σ) := by omega
            have hlt := ol_lt hL
            refine lv_aload_n hx hb dX6_order_69 rfl (lv_at hl 2 rfl) ?_
            refine lv_dup hx hb dX6_order_70 rfl ?_
            refine gf_X6_130 hx hb hts hown G dX6_order_71 ?_
            refine r_iconst hx hb dX6_order_74 ?_
            refine r_iadd hx hb dX6_order_75 ?_
            refine pf_X6_130 hx hb hts hown G dX6_order_76 (fun H locs G => ?_)
            have G := G.cong (τ := adv σ) (rfl)
            refine lv_iload_n hx hb dX6_order_79 rfl (lv_at hl 1 rfl) ?_
            refine r_bipush hx hb dX6_order_80 (by decide +kernel) ?_
            refine r_icmp_ne (tgt := 92) hx hb ⟨by omega, by omega⟩ ⟨by decide, by decide⟩ dX6_order_82 (by decide) (fun h_112 => ?_) (fun h_112 => ?_)
            · skip
              have h116 := h_112
              refine lv_aload_n hx hb dX6_order_92 rfl (lv_at hl 2 rfl) ?_
              refine r_callVI ⟨hx, hb, hml, hown, hts⟩ G (k_X6_takesKind l (σ := adv σ) (by rw [adv6]; omega) (hX.adv)) (kV_X6_takesKind hts qM_X6_147 ⟨by decide, by decide⟩) (rc_X6 G) rfl rfl hl.1 rfl (Nat.le_of_ble_eq_true rfl) dX6_order_93 ⟨Nat.le_refl _, Nat.le_refl _⟩ (fun H locs G => ?_)
              refine r_zeq (tgt := 114) hx hb dX6_order_96 (by decide) (fun h_113 => ?_) (fun h_113 => ?_)
              · skip
                have hK := h_113
                have hO : ¬ oOk σ := fun q => hK ((oOk_k h116).mp q).1
                refine r_iconst hx hb dX6_order_114 ?_
                refine lv_istore_n (lv' := [(3, .int (kI 0)), (2, .int (kI (bz (isP2 (ol σ))))), (1, .int (kI (ol σ))), (0, .ref (z + 133))]) hx hb dX6_order_115 rfl hl (by decide) rfl (fun ls hl => ?_)
                refine lv_iload_n hx hb dX6_order_116 rfl (lv_at hl 0 rfl) ?_
                refine r_if_eq (tgt := 124) hx hb ⟨by decide, by decide⟩ dX6_order_117 (by decide) (fun _ => ?_) (fun h_114 => absurd h_114 (by decide))
                refine r_bipush hx hb dX6_order_124 (by decide +kernel) ?_
                exact r_cret hx hb hr hlk G ⟨by omega, by omega⟩ (by first | exact ordR_y hL hO | exact ordR_n hO) (by first | exact (ordM_d hL h116).symm | exact (ordM_n hL h116 hK).symm | exact (ordM_1 hL h116 hP2).symm | exact (ordM_2 hL h116 hK hP2).symm) dX6_order_126
              · skip
                have hK := h_113
                refine lv_iload_n hx hb dX6_order_99 rfl (lv_at hl 0 rfl) ?_
                refine r_zeq (tgt := 110) hx hb dX6_order_100 (by decide) (fun _ => ?_) (fun h_115 => absurd h_115 h_95)
                have hO : oOk σ := by first | exact hO | exact (oOk_k h116).mpr ⟨hK, fun q => absurd q hP2⟩
                refine r_iconst hx hb dX6_order_110 ?_
                refine lv_goto (tgt := 115) hx hb dX6_order_111 (by decide) ?_
                refine lv_istore_n (lv' := [(3, .int (kI 1)), (2, .int (kI (bz (isP2 (ol σ))))), (1, .int (kI (ol σ))), (0, .ref (z + 133))]) hx hb dX6_order_115 rfl hl (by decide) rfl (fun ls hl => ?_)
                refine lv_iload_n hx hb dX6_order_116 rfl (lv_at hl 0 rfl) ?_
                refine r_if_eq (tgt := 124) hx hb ⟨by decide, by decide⟩ dX6_order_117 (by decide) (fun h_116 => absurd h_116 (by decide)) (fun _ => ?_)
                refine lv_iload_n hx hb dX6_order_120 rfl (lv_at hl 2 rfl) ?_
                refine lv_goto (tgt := 126) hx hb dX6_order_121 (by decide) ?_
                exact r_cret hx hb hr hlk G ⟨by omega, by omega⟩ (by first | exact ordR_y hL hO | exact ordR_n hO) (by first | exact (ordM_d hL h116).symm | exact (ordM_n hL h116 hK).symm | exact (ordM_1 hL h116 hP2).symm | exact (ordM_2 hL h116 hK hP2).symm) dX6_order_126
            · skip
              have h116 := h_112
              refine lv_aload_n hx hb dX6_order_85 rfl (lv_at hl 2 rfl) ?_
              refine r_callVI ⟨hx, hb, hml, hown, hts⟩ G (k_X6_takesDays l (σ := adv σ) (by rw [adv6]; omega) (hX.adv)) (kV_X6_takesDays hts qM_X6_143 ⟨by decide, by decide⟩) (rc_X6 G) rfl rfl hl.1 rfl (Nat.le_of_ble_eq_true rfl) dX6_order_86 ⟨Nat.le_refl _, Nat.le_refl _⟩ (fun H locs G => ?_)
              refine lv_goto (tgt := 115) hx hb dX6_order_89 (by decide) ?_
              refine lv_istore_n (lv' := [(3, .int (kI (bz (sg (adv σ) 49 57)))), (2, .int (kI (bz (isP2 (ol σ))))), (1, .int (kI (ol σ))), (0, .ref (z + 133))]) hx hb dX6_order_115 rfl hl (by decide) rfl (fun ls hl => ?_)
              refine lv_iload_n hx hb dX6_order_116 rfl (lv_at hl 0 rfl) ?_
              refine r_zeq (tgt := 124) hx hb dX6_order_117 (by decide) (fun h_117 => ?_) (fun h_117 => ?_)
              · skip
                have hO : ¬ oOk σ := fun q => h_117 ((oOk_d h116).mp q)
                refine r_bipush hx hb dX6_order_124 (by decide +kernel) ?_
                exact r_cret hx hb hr hlk G ⟨by omega, by omega⟩ (by first | exact ordR_y hL hO | exact ordR_n hO) (by first | exact (ordM_d hL h116).symm | exact (ordM_n hL h116 hK).symm | exact (ordM_1 hL h116 hP2).symm | exact (ordM_2 hL h116 hK hP2).symm) dX6_order_126
              · skip
                have hO : oOk σ := (oOk_d h116).mpr h_117
                refine lv_iload_n hx hb dX6_order_120 rfl (lv_at hl 2 rfl) ?_
                refine lv_goto (tgt := 126) hx hb dX6_order_121 (by decide) ?_
                exact r_cret hx hb hr hlk G ⟨by omega, by omega⟩ (by first | exact ordR_y hL hO | exact ordR_n hO) (by first | exact (ordM_d hL h116).symm | exact (ordM_n hL h116 hK).symm | exact (ordM_1 hL h116 hP2).symm | exact (ordM_2 hL h116 hK hP2).symm) dX6_order_126
          · skip
            refine lv_iload_n hx hb dX6_order_60 rfl (lv_at hl 1 rfl) ?_
            refine r_bipush hx hb dX6_order_61 (by decide +kernel) ?_
            refine r_icmp_eq (tgt := 69) hx hb ⟨by omega, by omega⟩ ⟨by decide, by decide⟩ dX6_order_63 (by decide) (fun h_118 => ?_) (fun h_118 => ?_)
            · skip
              have hL : isL (ol σ) := by omega
              have hlt := ol_lt hL
              refine lv_aload_n hx hb dX6_order_69 rfl (lv_at hl 2 rfl) ?_
              refine lv_dup hx hb dX6_order_70 rfl ?_
              refine gf_X6_130 hx hb hts hown G dX6_order_71 ?_
              refine r_iconst hx hb dX6_order_74 ?_
              refine r_iadd hx hb dX6_order_75 ?_
              refine pf_X6_130 hx hb hts hown G dX6_order_76 (fun H locs G => ?_)
              have G := G.cong (τ := adv σ) (rfl)
              refine lv_iload_n hx hb dX6_order_79 rfl (lv_at hl 1 rfl) ?_
              refine r_bipush hx hb dX6_order_80 (by decide +kernel) ?_
              refine r_icmp_ne (tgt := 92) hx hb ⟨by omega, by omega⟩ ⟨by decide, by decide⟩ dX6_order_82 (by decide) (fun h_119 => ?_) (fun h_119 => ?_)
              · skip
                have h116 := h_119
                refine lv_aload_n hx hb dX6_order_92 rfl (lv_at hl 2 rfl) ?_
                refine r_callVI ⟨hx, hb, hml, hown, hts⟩ G (k_X6_takesKind l (σ := adv σ) (by rw [adv6]; omega) (hX.adv)) (kV_X6_takesKind hts qM_X6_147 ⟨by decide, by decide⟩) (rc_X6 G) rfl rfl hl.1 rfl (Nat.le_of_ble_eq_true rfl) dX6_order_93 ⟨Nat.le_refl _, Nat.le_refl _⟩ (fun H locs G => ?_)
                refine r_zeq (tgt := 114) hx hb dX6_order_96 (by decide) (fun h_120 => ?_) (fun h_120 => ?_)
                · skip
                  have hK := h_120
                  have hO : ¬ oOk σ := fun q => hK ((oOk_k h116).mp q).1
                  refine r_iconst hx hb dX6_order_114 ?_
                  refine lv_istore_n (lv' := [(3, .int (kI 0)), (2, .int (kI (bz (isP2 (ol σ))))), (1, .int (kI (ol σ))), (0, .ref (z + 133))]) hx hb dX6_order_115 rfl hl (by decide) rfl (fun ls hl => ?_)
                  refine lv_iload_n hx hb dX6_order_116 rfl (lv_at hl 0 rfl) ?_
                  refine r_if_eq (tgt := 124) hx hb ⟨by decide, by decide⟩ dX6_order_117 (by decide) (fun _ => ?_) (fun h_121 => absurd h_121 (by decide))
                  refine r_bipush hx hb dX6_order_124 (by decide +kernel) ?_
                  exact r_cret hx hb hr hlk G ⟨by omega, by omega⟩ (by first | exact ordR_y hL hO | exact ordR_n hO) (by first | exact (ordM_d hL h116).symm | exact (ordM_n hL h116 hK).symm | exact (ordM_1 hL h116 hP2).symm | exact (ordM_2 hL h116 hK hP2).symm) dX6_order_126
                · skip
                  have hK := h_120
                  refine lv_iload_n hx hb dX6_order_99 rfl (lv_at hl 0 rfl) ?_
                  refine r_zeq (tgt := 110) hx hb dX6_order_100 (by decide) (fun _ => ?_) (fun h_122 => absurd h_122 h_95)
                  have hO : oOk σ := by first | exact hO | exact (oOk_k h116).mpr ⟨hK, fun q => absurd q hP2⟩
                  refine r_iconst hx hb dX6_order_110 ?_
                  refine lv_goto (tgt := 115) hx hb dX6_order_111 (by decide) ?_
                  refine lv_istore_n (lv' := [(3, .int (kI 1)), (2, .int (kI (bz (isP2 (ol σ))))), (1, .int (kI (ol σ))), (0, .ref (z + 133))]) hx hb dX6_order_115 rfl hl (by decide) rfl (fun ls hl => ?_)
                  refine lv_iload_n hx hb dX6_order_116 rfl (lv_at hl 0 rfl) ?_
                  refine r_if_eq (tgt := 124) hx hb ⟨by decide, by decide⟩ dX6_order_117 (by decide) (fun h_123 => absurd h_123 (by decide)) (fun _ => ?_)
                  refine lv_iload_n hx hb dX6_order_120 rfl (lv_at hl 2 rfl) ?_
                  refine lv_goto (tgt := 126) hx hb dX6_order_121 (by decide) ?_
                  exact r_cret hx hb hr hlk G ⟨by omega, by omega⟩ (by first | exact ordR_y hL hO | exact ordR_n hO) (by first | exact (ordM_d hL h116).symm | exact (ordM_n hL h116 hK).symm | exact (ordM_1 hL h116 hP2).symm | exact (ordM_2 hL h116 hK hP2).symm) dX6_order_126
              · skip
                have h116 := h_119
                refine lv_aload_n hx hb dX6_order_85 rfl (lv_at hl 2 rfl) ?_
                refine r_callVI ⟨hx, hb, hml, hown, hts⟩ G (k_X6_takesDays l (σ := adv σ) (by rw [adv6]; omega) (hX.adv)) (kV_X6_takesDays hts qM_X6_143 ⟨by decide, by decide⟩) (rc_X6 G) rfl rfl hl.1 rfl (Nat.le_of_ble_eq_true rfl) dX6_order_86 ⟨Nat.le_refl _, Nat.le_refl _⟩ (fun H locs G => ?_)
                refine lv_goto (tgt := 115) hx hb dX6_order_89 (by decide) ?_
                refine lv_istore_n (lv' := [(3, .int (kI (bz (sg (adv σ) 49 57)))), (2, .int (kI (bz (isP2 (ol σ))))), (1, .int (kI (ol σ))), (0, .ref (z + 133))]) hx hb dX6_order_115 rfl hl (by decide) rfl (fun ls hl => ?_)
                refine lv_iload_n hx hb dX6_order_116 rfl (lv_at hl 0 rfl) ?_
                refine r_zeq (tgt := 124) hx hb dX6_order_117 (by decide) (fun h_124 => ?_) (fun h_124 => ?_)
                · skip
                  have hO : ¬ oOk σ := fun q => h_124 ((oOk_d h116).mp q)
                  refine r_bipush hx hb dX6_order_124 (by decide +kernel) ?_
                  exact r_cret hx hb hr hlk G ⟨by omega, by omega⟩ (by first | exact ordR_y hL hO | exact ordR_n hO) (by first | exact (ordM_d hL h116).symm | exact (ordM_n hL h116 hK).symm | exact (ordM_1 hL h116 hP2).symm | exact (ordM_2 hL h116 hK hP2).symm) dX6_order_126
                · skip
                  have hO : oOk σ := (oOk_d h116).mpr h_124
                  refine lv_iload_n hx hb dX6_order_120 rfl (lv_at hl 2 rfl) ?_
                  refine lv_goto (tgt := 126) hx hb dX6_order_121 (by decide) ?_
                  exact r_cret hx hb hr hlk G ⟨by omega, by omega⟩ (by first | exact ordR_y hL hO | exact ordR_n hO) (by first | exact (ordM_d hL h116).symm | exact (ordM_n hL h116 hK).symm | exact (ordM_1 hL h116 hP2).symm | exact (ordM_2 hL h116 hK hP2).symm) dX6_order_126
            · skip
              have hL : ¬ isL (ol σ) := by omega
              refine r_bipush hx hb dX6_order_66 (by decide +kernel) ?_
              exact r_cret hx hb hr hlk G ⟨by omega, by omega⟩ (by exact ordR_x hL) (by exact (ordM_x hL).symm) dX6_order_68
    · skip
      refine lv_iload_n hx hb dX6_order_32 rfl (lv_at hl 0 rfl) ?_
      refine r_bipush hx hb dX6_order_33 (by decide +kernel) ?_
      refine r_icmp_ne (tgt := 42) hx hb ⟨by omega, by omega⟩ ⟨by decide, by decide⟩ dX6_order_35 (by decide) (fun h_125 => ?_) (fun h_125 => ?_)
      · skip
        refine r_iconst hx hb dX6_order_42 ?_
        refine r_top (b := bz (isP2 (ol σ))) (by first | exact one_bz (by omega) | exact zero_bz (by omega)) ?_
        skip
        refine lv_istore_n (lv' := [(2, .int (kI (bz (isP2 (ol σ))))), (1, .int (kI (ol σ))), (0, .ref (z + 133))]) hx hb dX6_order_43 rfl hl (by decide) rfl (fun ls hl => ?_)
        refine lv_iload_n hx hb dX6_order_44 rfl (lv_at hl 0 rfl) ?_
        refine r_zne (tgt := 69) hx hb dX6_order_45 (by decide) (fun h_126 => ?_) (fun h_126 => ?_)
        · skip
          have hP2 := h_126
          have hL : isL (ol σ) := by omega
          have hlt := ol_lt hL
          refine lv_aload_n hx hb dX6_order_69 rfl (lv_at hl 2 rfl) ?_
          refine lv_dup hx hb dX6_order_70 rfl ?_
          refine gf_X6_130 hx hb hts hown G dX6_order_71 ?_
          refine r_iconst hx hb dX6_order_74 ?_
          refine r_iadd hx hb dX6_order_75 ?_
          refine pf_X6_130 hx hb hts hown G dX6_order_76 (fun H locs G => ?_)
          have G := G.cong (τ := adv σ) (rfl)
          refine lv_iload_n hx hb dX6_order_79 rfl (lv_at hl 1 rfl) ?_
          refine r_bipush hx hb dX6_order_80 (by decide +kernel) ?_
          refine r_icmp_ne (tgt := 92) hx hb ⟨by omega, by omega⟩ ⟨by decide, by decide⟩ dX6_order_82 (by decide) (fun h_127 => ?_) (fun h_127 => ?_)
          · skip
            have h116 := h_127
            refine lv_aload_n hx hb dX6_order_92 rfl (lv_at hl 2 rfl) ?_
            refine r_callVI ⟨hx, hb, hml, hown, hts⟩ G (k_X6_takesKind l (σ := adv σ) (by rw [adv6]; omega) (hX.adv)) (kV_X6_takesKind hts qM_X6_147 ⟨by decide, by decide⟩) (rc_X6 G) rfl rfl hl.1 rfl (Nat.le_of_ble_eq_true rfl) dX6_order_93 ⟨Nat.le_refl _, Nat.le_refl _⟩ (fun H locs G => ?_)
            refine r_zeq (tgt := 114) hx hb dX6_order_96 (by decide) (fun h_128 => ?_) (fun h_128 => ?_)
            · skip
              have hK := h_128
              have hO : ¬ oOk σ := fun q => hK ((oOk_k h116).mp q).1
              refine r_iconst hx hb dX6_order_114 ?_
              refine lv_istore_n (lv' := [(3, .int (kI 0)), (2, .int (kI (bz (isP2 (ol σ))))), (1, .int (kI (ol σ))), (0, .ref (z + 133))]) hx hb dX6_order_115 rfl hl (by decide) rfl (fun ls hl => ?_)
              refine lv_iload_n hx hb dX6_order_116 rfl (lv_at hl 0 rfl) ?_
              refine r_if_eq (tgt := 124) hx hb ⟨by decide, by decide⟩ dX6_order_117 (by decide) (fun _ => ?_) (fun h_129 => absurd h_129 (by decide))
              refine r_bipush hx hb dX6_order_124 (by decide +kernel) ?_
              exact r_cret hx hb hr hlk G ⟨by omega, by omega⟩ (by first | exact ordR_y hL hO | exact ordR_n hO) (by first | exact (ordM_d hL h116).symm | exact (ordM_n hL h116 hK).symm | exact (ordM_1 hL h116 hP2).symm | exact (ordM_2 hL h116 hK hP2).symm) dX6_order_126
            · skip
              have hK := h_128
              refine lv_iload_n hx hb dX6_order_99 rfl (lv_at hl 0 rfl) ?_
              refine r_zeq (tgt := 110) hx hb dX6_order_100 (by decide) (fun h_130 => absurd h_126 h_130) (fun _ => ?_)
              refine lv_aload_n hx hb dX6_order_103 rfl (lv_at hl 2 rfl) ?_
              refine r_callVI ⟨hx, hb, hml, hown, hts⟩ G (k_X6_takesKey l (σ := tknM (adv σ)) (by rw [tkn6]; have := bz_rg (P := sg (adv σ) 48 51); have := adv6 (σ := σ); omega) (hX.adv.tkn)) (kV_X6_takesKey hts qM_X6_150 ⟨by decide, by decide⟩) (rc_X6 G) rfl rfl hl.1 rfl (Nat.le_of_ble_eq_true rfl) dX6_order_104 ⟨Nat.le_refl _, Nat.le_refl _⟩ (fun H locs G => ?_)
              refine r_zeq (tgt := 114) hx hb dX6_order_107 (by decide) (fun h_131 => ?_) (fun h_131 => ?_)
              · skip
                have hO : ¬ oOk σ := fun q => h_131 (((oOk_k h116).mp q).2 hP2)
                refine r_iconst hx hb dX6_order_114 ?_
                refine lv_istore_n (lv' := [(3, .int (kI 0)), (2, .int (kI (bz (isP2 (ol σ))))), (1, .int (kI (ol σ))), (0, .ref (z + 133))]) hx hb dX6_order_115 rfl hl (by decide) rfl (fun ls hl => ?_)
                refine lv_iload_n hx hb dX6_order_116 rfl (lv_at hl 0 rfl) ?_
                refine r_if_eq (tgt := 124) hx hb ⟨by decide, by decide⟩ dX6_order_117 (by decide) (fun _ => ?_) (fun h_132 => absurd h_132 (by decide))
                refine r_bipush hx hb dX6_order_124 (by decide +kernel) ?_
                exact r_cret hx hb hr hlk G ⟨by omega, by omega⟩ (by first | exact ordR_y hL hO | exact ordR_n hO) (by first | exact (ordM_d hL h116).symm | exact (ordM_n hL h116 hK).symm | exact (ordM_1 hL h116 hP2).symm | exact (ordM_2 hL h116 hK hP2).symm) dX6_order_126
              · skip
                have hO : oOk σ := (oOk_k h116).mpr ⟨hK, fun _ => h_131⟩
                have hO : oOk σ := by first | exact hO | exact (oOk_k h116).mpr ⟨hK, fun q => absurd q hP2⟩
                refine r_iconst hx hb dX6_order_110 ?_
                refine lv_goto (tgt := 115) hx hb dX6_order_111 (by decide) ?_
                refine lv_istore_n (lv' := [(3, .int (kI 1)), (2, .int (kI (bz (isP2 (ol σ))))), (1, .int (kI (ol σ))), (0, .ref (z + 133))]) hx hb dX6_order_115 rfl hl (by decide) rfl (fun ls hl => ?_)
                refine lv_iload_n hx hb dX6_order_116 rfl (lv_at hl 0 rfl) ?_
                refine r_if_eq (tgt := 124) hx hb ⟨by decide, by decide⟩ dX6_order_117 (by decide) (fun h_133 => absurd h_133 (by decide)) (fun _ => ?_)
                refine lv_iload_n hx hb dX6_order_120 rfl (lv_at hl 2 rfl) ?_
                refine lv_goto (tgt := 126) hx hb dX6_order_121 (by decide) ?_
                exact r_cret hx hb hr hlk G ⟨by omega, by omega⟩ (by first | exact ordR_y hL hO | exact ordR_n hO) (by first | exact (ordM_d hL h116).symm | exact (ordM_n hL h116 hK).symm | exact (ordM_1 hL h116 hP2).symm | exact (ordM_2 hL h116 hK hP2).symm) dX6_order_126
          · skip
            have h116 := h_127
            refine lv_aload_n hx hb dX6_order_85 rfl (lv_at hl 2 rfl) ?_
            refine r_callVI ⟨hx, hb, hml, hown, hts⟩ G (k_X6_takesDays l (σ := adv σ) (by rw [adv6]; omega) (hX.adv)) (kV_X6_takesDays hts qM_X6_143 ⟨by decide, by decide⟩) (rc_X6 G) rfl rfl hl.1 rfl (Nat.le_of_ble_eq_true rfl) dX6_order_86 ⟨Nat.le_refl _, Nat.le_refl _⟩ (fun H locs G => ?_)
            refine lv_goto (tgt := 115) hx hb dX6_order_89 (by decide) ?_
            refine lv_istore_n (lv' := [(3, .int (kI (bz (sg (adv σ) 49 57)))), (2, .int (kI (bz (isP2 (ol σ))))), (1, .int (kI (ol σ))), (0, .ref (z + 133))]) hx hb dX6_order_115 rfl hl (by decide) rfl (fun ls hl => ?_)
            refine lv_iload_n hx hb dX6_order_116 rfl (lv_at hl 0 rfl) ?_
            refine r_zeq (tgt := 124) hx hb dX6_order_117 (by decide) (fun h_134 => ?_) (fun h_134 => ?_)
            · skip
              have hO : ¬ oOk σ := fun q => h_134 ((oOk_d h116).mp q)
              refine r_bipush hx hb dX6_order_124 (by decide +kernel) ?_
              exact r_cret hx hb hr hlk G ⟨by omega, by omega⟩ (by first | exact ordR_y hL hO | exact ordR_n hO) (by first | exact (ordM_d hL h116).symm | exact (ordM_n hL h116 hK).symm | exact (ordM_1 hL h116 hP2).symm | exact (ordM_2 hL h116 hK hP2).symm) dX6_order_126
            · skip
              have hO : oOk σ := (oOk_d h116).mpr h_134
              refine lv_iload_n hx hb dX6_order_120 rfl (lv_at hl 2 rfl) ?_
              refine lv_goto (tgt := 126) hx hb dX6_order_121 (by decide) ?_
              exact r_cret hx hb hr hlk G ⟨by omega, by omega⟩ (by first | exact ordR_y hL hO | exact ordR_n hO) (by first | exact (ordM_d hL h116).symm | exact (ordM_n hL h116 hK).symm | exact (ordM_1 hL h116 hP2).symm | exact (ordM_2 hL h116 hK hP2).symm) dX6_order_126
        · skip
          have hP2 := h_126
          refine lv_iload_n hx hb dX6_order_48 rfl (lv_at hl 1 rfl) ?_
          refine r_bipush hx hb dX6_order_49 (by decide +kernel) ?_
          refine r_icmp_eq (tgt := 69) hx hb ⟨by omega, by omega⟩ ⟨by decide, by decide⟩ dX6_order_51 (by decide) (fun h_135 => ?_) (fun h_135 => ?_)
          · skip
            have hL : isL (ol σ) := by omega
            have hlt := ol_lt hL
            refine lv_aload_n hx hb dX6_order_69 rfl (lv_at hl 2 rfl) ?_
            refine lv_dup hx hb dX6_order_70 rfl ?_
            refine gf_X6_130 hx hb hts hown G dX6_order_71 ?_
            refine r_iconst hx hb dX6_order_74 ?_
            refine r_iadd hx hb dX6_order_75 ?_
            refine pf_X6_130 hx hb hts hown G dX6_order_76 (fun H locs G => ?_)
            have G := G.cong (τ := adv σ) (rfl)
            refine lv_iload_n hx hb dX6_order_79 rfl (lv_at hl 1 rfl) ?_
            refine r_bipush hx hb dX6_order_80 (by decide +kernel) ?_
            refine r_icmp_ne (tgt := 92) hx hb ⟨by omega, by omega⟩ ⟨by decide, by decide⟩ dX6_order_82 (by decide) (fun h_136 => ?_) (fun h_136 => ?_)
            · skip
              have h116 := h_136
              refine lv_aload_n hx hb dX6_order_92 rfl (lv_at hl 2 rfl) ?_
              refine r_callVI ⟨hx, hb, hml, hown, hts⟩ G (k_X6_takesKind l (σ := adv σ) (by rw [adv6]; omega) (hX.adv)) (kV_X6_takesKind hts qM_X6_147 ⟨by decide, by decide⟩) (rc_X6 G) rfl rfl hl.1 rfl (Nat.le_of_ble_eq_true rfl) dX6_order_93 ⟨Nat.le_refl _, Nat.le_refl _⟩ (fun H locs G => ?_)
              refine r_zeq (tgt := 114) hx hb dX6_order_96 (by decide) (fun h_137 => ?_) (fun h_137 => ?_)
              · skip
                have hK := h_137
                have hO : ¬ oOk σ := fun q => hK ((oOk_k h116).mp q).1
                refine r_iconst hx hb dX6_order_114 ?_
                refine lv_istore_n (lv' := [(3, .int (kI 0)), (2, .int (kI (bz (isP2 (ol σ))))), (1, .int (kI (ol σ))), (0, .ref (z + 133))]) hx hb dX6_order_115 rfl hl (by decide) rfl (fun ls hl => ?_)
                refine lv_iload_n hx hb dX6_order_116 rfl (lv_at hl 0 rfl) ?_
                refine r_if_eq (tgt := 124) hx hb ⟨by decide, by decide⟩ dX6_order_117 (by decide) (fun _ => ?_) (fun h_138 => absurd h_138 (by decide))
                refine r_bipush hx hb dX6_order_124 (by decide +kernel) ?_
                exact r_cret hx hb hr hlk G ⟨by omega, by omega⟩ (by first | exact ordR_y hL hO | exact ordR_n hO) (by first | exact (ordM_d hL h116).symm | exact (ordM_n hL h116 hK).symm | exact (ordM_1 hL h116 hP2).symm | exact (ordM_2 hL h116 hK hP2).symm) dX6_order_126
              · skip
                have hK := h_137
                refine lv_iload_n hx hb dX6_order_99 rfl (lv_at hl 0 rfl) ?_
                refine r_zeq (tgt := 110) hx hb dX6_order_100 (by decide) (fun _ => ?_) (fun h_139 => absurd h_139 h_126)
                have hO : oOk σ := by first | exact hO | exact (oOk_k h116).mpr ⟨hK, fun q => absurd q hP2⟩
                refine r_iconst hx hb dX6_order_110 ?_
                refine lv_goto (tgt := 115) hx hb dX6_order_111 (by decide) ?_
                refine lv_istore_n (lv' := [(3, .int (kI 1)), (2, .int (kI (bz (isP2 (ol σ))))), (1, .int (kI (ol σ))), (0, .ref (z + 133))]) hx hb dX6_order_115 rfl hl (by decide) rfl (fun ls hl => ?_)
                refine lv_iload_n hx hb dX6_order_116 rfl (lv_at hl 0 rfl) ?_
                refine r_if_eq (tgt := 124) hx hb ⟨by decide, by decide⟩ dX6_order_117 (by decide) (fun h_140 => absurd h_140 (by decide)) (fun _ => ?_)
                refine lv_iload_n hx hb dX6_order_120 rfl (lv_at hl 2 rfl) ?_
                refine lv_goto (tgt := 126) hx hb dX6_order_121 (by decide) ?_
                exact r_cret hx hb hr hlk G ⟨by omega, by omega⟩ (by first | exact ordR_y hL hO | exact ordR_n hO) (by first | exact (ordM_d hL h116).symm | exact (ordM_n hL h116 hK).symm | exact (ordM_1 hL h116 hP2).symm | exact (ordM_2 hL h116 hK hP2).symm) dX6_order_126
            · skip
              have h116 := h_136
              refine lv_aload_n hx hb dX6_order_85 rfl (lv_at hl 2 rfl) ?_
              refine r_callVI ⟨hx, hb, hml, hown, hts⟩ G (k_X6_takesDays l (σ := adv σ) (by rw [adv6]; omega) (hX.adv)) (kV_X6_takesDays hts qM_X6_143 ⟨by decide, by decide⟩) (rc_X6 G) rfl rfl hl.1 rfl (Nat.le_of_ble_eq_true rfl) dX6_order_86 ⟨Nat.le_refl _, Nat.le_refl _⟩ (fun H locs G => ?_)
              refine lv_goto (tgt := 115) hx hb dX6_order_89 (by decide) ?_
              refine lv_istore_n (lv' := [(3, .int (kI (bz (sg (adv σ) 49 57)))), (2, .int (kI (bz (isP2 (ol σ))))), (1, .int (kI (ol σ))), (0, .ref (z + 133))]) hx hb dX6_order_115 rfl hl (by decide) rfl (fun ls hl => ?_)
              refine lv_iload_n hx hb dX6_order_116 rfl (lv_at hl 0 rfl) ?_
              refine r_zeq (tgt := 124) hx hb dX6_order_117 (by decide) (fun h_141 => ?_) (fun h_141 => ?_)
              · skip
                have hO : ¬ oOk σ := fun q => h_141 ((oOk_d h116).mp q)
                refine r_bipush hx hb dX6_order_124 (by decide +kernel) ?_
                exact r_cret hx hb hr hlk G ⟨by omega, by omega⟩ (by first | exact ordR_y hL hO | exact ordR_n hO) (by first | exact (ordM_d hL h116).symm | exact (ordM_n hL h116 hK).symm | exact (ordM_1 hL h116 hP2).symm | exact (ordM_2 hL h116 hK hP2).symm) dX6_order_126
              · skip
                have hO : oOk σ := (oOk_d h116).mpr h_141
                refine lv_iload_n hx hb dX6_order_120 rfl (lv_at hl 2 rfl) ?_
                refine lv_goto (tgt := 126) hx hb dX6_order_121 (by decide) ?_
                exact r_cret hx hb hr hlk G ⟨by omega, by omega⟩ (by first | exact ordR_y hL hO | exact ordR_n hO) (by first | exact (ordM_d hL h116).symm | exact (ordM_n hL h116 hK).symm | exact (ordM_1 hL h116 hP2).symm | exact (ordM_2 hL h116 hK hP2).symm) dX6_order_126
          · skip
            refine lv_iload_n hx hb dX6_order_54 rfl (lv_at hl 1 rfl) ?_
            refine r_bipush hx hb dX6_order_55 (by decide +kernel) ?_
            refine r_icmp_eq (tgt := 69) hx hb ⟨by omega, by omega⟩ ⟨by decide, by decide⟩ dX6_order_57 (by decide) (fun h_142 => ?_) (fun h_142 => ?_)
            · skip
              have hL : isL (ol σ) := by omega
              have hlt := ol_lt hL
              refine lv_aload_n hx hb dX6_order_69 rfl (lv_at hl 2 rfl) ?_
              refine lv_dup hx hb dX6_order_70 rfl ?_
              refine gf_X6_130 hx hb hts hown G dX6_order_71 ?_
              refine r_iconst hx hb dX6_order_74 ?_
              refine r_iadd hx hb dX6_order_75 ?_
              refine pf_X6_130 hx hb hts hown G dX6_order_76 (fun H locs G => ?_)
              have G := G.cong (τ := adv σ) (rfl)
              refine lv_iload_n hx hb dX6_order_79 rfl (lv_at hl 1 rfl) ?_
              refine r_bipush hx hb dX6_order_80 (by decide +kernel) ?_
              refine r_icmp_ne (tgt := 92) hx hb ⟨by omega, by omega⟩ ⟨by decide, by decide⟩ dX6_order_82 (by decide) (fun h_143 => ?_) (fun h_143 => ?_)
              · skip
                have h116 := h_143
                refine lv_aload_n hx hb dX6_order_92 rfl (lv_at hl 2 rfl) ?_
                refine r_callVI ⟨hx, hb, hml, hown, hts⟩ G (k_X6_takesKind l (σ := adv σ) (by rw [adv6]; omega) (hX.adv)) (kV_X6_takesKind hts qM_X6_147 ⟨by decide, by decide⟩) (rc_X6 G) rfl rfl hl.1 rfl (Nat.le_of_ble_eq_true rfl) dX6_order_93 ⟨Nat.le_refl _, Nat.le_refl _⟩ (fun H locs G => ?_)
                refine r_zeq (tgt := 114) hx hb dX6_order_96 (by decide) (fun h_144 => ?_) (fun h_144 => ?_)
                · skip
                  have hK := h_144
                  have hO : ¬ oOk σ := fun q => hK ((oOk_k h116).mp q).1
                  refine r_iconst hx hb dX6_order_114 ?_
                  refine lv_istore_n (lv' := [(3, .int (kI 0)), (2, .int (kI (bz (isP2 (ol σ))))), (1, .int (kI (ol σ))), (0, .ref (z + 133))]) hx hb dX6_order_115 rfl hl (by decide) rfl (fun ls hl => ?_)
                  refine lv_iload_n hx hb dX6_order_116 rfl (lv_at hl 0 rfl) ?_
                  refine r_if_eq (tgt := 124) hx hb ⟨by decide, by decide⟩ dX6_order_117 (by decide) (fun _ => ?_) (fun h_145 => absurd h_145 (by decide))
                  refine r_bipush hx hb dX6_order_124 (by decide +kernel) ?_
                  exact r_cret hx hb hr hlk G ⟨by omega, by omega⟩ (by first | exact ordR_y hL hO | exact ordR_n hO) (by first | exact (ordM_d hL h116).symm | exact (ordM_n hL h116 hK).symm | exact (ordM_1 hL h116 hP2).symm | exact (ordM_2 hL h116 hK hP2).symm) dX6_order_126
                · skip
                  have hK := h_144
                  refine lv_iload_n hx hb dX6_order_99 rfl (lv_at hl 0 rfl) ?_
                  refine r_zeq (tgt := 110) hx hb dX6_order_100 (by decide) (fun _ => ?_) (fun h_146 => absurd h_146 h_126)
                  have hO : oOk σ := by first | exact hO | exact (oOk_k h116).mpr ⟨hK, fun q => absurd q hP2⟩
                  refine r_iconst hx hb dX6_order_110 ?_
                  refine lv_goto (tgt := 115) hx hb dX6_order_111 (by decide) ?_
                  refine lv_istore_n (lv' := [(3, .int (kI 1)), (2, .int (kI (bz (isP2 (ol σ))))), (1, .int (kI (ol σ))), (0, .ref (z + 133))]) hx hb dX6_order_115 rfl hl (by decide) rfl (fun ls hl => ?_)
                  refine lv_iload_n hx hb dX6_order_116 rfl (lv_at hl 0 rfl) ?_
                  refine r_if_eq (tgt := 124) hx hb ⟨by decide, by decide⟩ dX6_order_117 (by decide) (fun h_147 => absurd h_147 (by decide)) (fun _ => ?_)
                  refine lv_iload_n hx hb dX6_order_120 rfl (lv_at hl 2 rfl) ?_
                  refine lv_goto (tgt := 126) hx hb dX6_order_121 (by decide) ?_
                  exact r_cret hx hb hr hlk G ⟨by omega, by omega⟩ (by first | exact ordR_y hL hO | exact ordR_n hO) (by first | exact (ordM_d hL h116).symm | exact (ordM_n hL h116 hK).symm | exact (ordM_1 hL h116 hP2).symm | exact (ordM_2 hL h116 hK hP2).symm) dX6_order_126
              · skip
                have h116 := h_143
                refine lv_aload_n hx hb dX6_order_85 rfl (lv_at hl 2 rfl) ?_
                refine r_callVI ⟨hx, hb, hml, hown, hts⟩ G (k_X6_takesDays l (σ := adv σ) (by rw [adv6]; omega) (hX.adv)) (kV_X6_takesDays hts qM_X6_143 ⟨by decide, by decide⟩) (rc_X6 G) rfl rfl hl.1 rfl (Nat.le_of_ble_eq_true rfl) dX6_order_86 ⟨Nat.le_refl _, Nat.le_refl _⟩ (fun H locs G => ?_)
                refine lv_goto (tgt := 115) hx hb dX6_order_89 (by decide) ?_
                refine lv_istore_n (lv' := [(3, .int (kI (bz (sg (adv σ) 49 57)))), (2, .int (kI (bz (isP2 (ol σ))))), (1, .int (kI (ol σ))), (0, .ref (z + 133))]) hx hb dX6_order_115 rfl hl (by decide) rfl (fun ls hl => ?_)
                refine lv_iload_n hx hb dX6_order_116 rfl (lv_at hl 0 rfl) ?_
                refine r_zeq (tgt := 124) hx hb dX6_order_117 (by decide) (fun h_148 => ?_) (fun h_148 => ?_)
                · skip
                  have hO : ¬ oOk σ := fun q => h_148 ((oOk_d h116).mp q)
                  refine r_bipush hx hb dX6_order_124 (by decide +kernel) ?_
                  exact r_cret hx hb hr hlk G ⟨by omega, by omega⟩ (by first | exact ordR_y hL hO | exact ordR_n hO) (by first | exact (ordM_d hL h116).symm | exact (ordM_n hL h116 hK).symm | exact (ordM_1 hL h116 hP2).symm | exact (ordM_2 hL h116 hK hP2).symm) dX6_order_126
                · skip
                  have hO : oOk σ := (oOk_d h116).mpr h_148
                  refine lv_iload_n hx hb dX6_order_120 rfl (lv_at hl 2 rfl) ?_
                  refine lv_goto (tgt := 126) hx hb dX6_order_121 (by decide) ?_
                  exact r_cret hx hb hr hlk G ⟨by omega, by omega⟩ (by first | exact ordR_y hL hO | exact ordR_n hO) (by first | exact (ordM_d hL h116).symm | exact (ordM_n hL h116 hK).symm | exact (ordM_1 hL h116 hP2).symm | exact (ordM_2 hL h116 hK hP2).symm) dX6_order_126
            · skip
              refine lv_iload_n hx hb dX6_order_60 rfl (lv_at hl 1 rfl) ?_
              refine r_bipush hx hb dX6_order_61 (by decide +kernel) ?_
              refine r_icmp_eq (tgt := 69) hx hb ⟨by omega, by omega⟩ ⟨by decide, by decide⟩ dX6_order_63 (by decide) (fun h_149 => ?_) (fun h_149 => ?_)
              · skip
                have hL : isL (ol σ) := by omega
                have hlt := ol_lt hL
                refine lv_aload_n hx hb dX6_order_69 rfl (lv_at hl 2 rfl) ?_
                refine lv_dup hx hb dX6_order_70 rfl ?_
                refine gf_X6_130 hx hb hts hown G dX6_order_71 ?_
                refine r_iconst hx hb dX6_order_74 ?_
                refine r_iadd hx hb dX6_order_75 ?_
                refine pf_X6_130 hx hb hts hown G dX6_order_76 (fun H locs G => ?_)
                have G := G.cong (τ := adv σ) (rfl)
                refine lv_iload_n hx hb dX6_order_79 rfl (lv_at hl 1 rfl) ?_
                refine r_bipush hx hb dX6_order_80 (by decide +kernel) ?_
                refine r_icmp_ne (tgt := 92) hx hb ⟨by omega, by omega⟩ ⟨by decide, by decide⟩ dX6_order_82 (by decide) (fun h_150 => ?_) (fun h_150 => ?_)
                · skip
                  have h116 := h_150
                  refine lv_aload_n hx hb dX6_order_92 rfl (lv_at hl 2 rfl) ?_
                  refine r_callVI ⟨hx, hb, hml, hown, hts⟩ G (k_X6_takesKind l (σ := adv σ) (by rw [adv6]; omega) (hX.adv)) (kV_X6_takesKind hts qM_X6_147 ⟨by decide, by decide⟩) (rc_X6 G) rfl rfl hl.1 rfl (Nat.le_of_ble_eq_true rfl) dX6_order_93 ⟨Nat.le_refl _, Nat.le_refl _⟩ (fun H locs G => ?_)
                  refine r_zeq (tgt := 114) hx hb dX6_order_96 (by decide) (fun h_151 => ?_) (fun h_151 => ?_)
                  · skip
                    have hK := h_151
                    have hO : ¬ oOk σ := fun q => hK ((oOk_k h116).mp q).1
                    refine r_iconst hx hb dX6_order_114 ?_
                    refine lv_istore_n (lv' := [(3, .int (kI 0)), (2, .int (kI (bz (isP2 (ol σ))))), (1, .int (kI (ol σ))), (0, .ref (z + 133))]) hx hb dX6_order_115 rfl hl (by decide) rfl (fun ls hl => ?_)
                    refine lv_iload_n hx hb dX6_order_116 rfl (lv_at hl 0 rfl) ?_
                    refine r_if_eq (tgt := 124) hx hb ⟨by decide, by decide⟩ dX6_order_117 (by decide) (fun _ => ?_) (fun h_152 => absurd h_152 (by decide))
                    refine r_bipush hx hb dX6_order_124 (by decide +kernel) ?_
                    exact r_cret hx hb hr hlk G ⟨by omega, by omega⟩ (by first | exact ordR_y hL hO | exact ordR_n hO) (by first | exact (ordM_d hL h116).symm | exact (ordM_n hL h116 hK).symm | exact (ordM_1 hL h116 hP2).symm | exact (ordM_2 hL h116 hK hP2).symm) dX6_order_126
                  · skip
                    have hK := h_151
                    refine lv_iload_n hx hb dX6_order_99 rfl (lv_at hl 0 rfl) ?_
                    refine r_zeq (tgt := 110) hx hb dX6_order_100 (by decide) (fun _ => ?_) (fun h_153 => absurd h_153 h_126)
                    have hO : oOk σ := by first | exact hO | exact (oOk_k h116).mpr ⟨hK, fun q => absurd q hP2⟩
                    refine r_iconst hx hb dX6_order_110 ?_
                    refine lv_goto (tgt := 115) hx hb dX6_order_111 (by decide) ?_
                    refine lv_istore_n (lv' := [(3, .int (kI 1)), (2, .int (kI (bz (isP2 (ol σ))))), (1, .int (kI (ol σ))), (0, .ref (z + 133))]) hx hb dX6_order_115 rfl hl (by decide) rfl (fun ls hl => ?_)
                    refine lv_iload_n hx hb dX6_order_116 rfl (lv_at hl 0 rfl) ?_
                    refine r_if_eq (tgt := 124) hx hb ⟨by decide, by decide⟩ dX6_order_117 (by decide) (fun h_154 => absurd h_154 (by decide)) (fun _ => ?_)
                    refine lv_iload_n hx hb dX6_order_120 rfl (lv_at hl 2 rfl) ?_
                    refine lv_goto (tgt := 126) hx hb dX6_order_121 (by decide) ?_
                    exact r_cret hx hb hr hlk G ⟨by omega, by omega⟩ (by first | exact ordR_y hL hO | exact ordR_n hO) (by first | exact (ordM_d hL h116).symm | exact (ordM_n hL h116 hK).symm | exact (ordM_1 hL h116 hP2).symm | exact (ordM_2 hL h116 hK hP2).symm) dX6_order_126
                · skip
                  have h116 := h_150
                  refine lv_aload_n hx hb dX6_order_85 rfl (lv_at hl 2 rfl) ?_
                  refine r_callVI ⟨hx, hb, hml, hown, hts⟩ G (k_X6_takesDays l (σ := adv σ) (by rw [adv6]; omega) (hX.adv)) (kV_X6_takesDays hts qM_X6_143 ⟨by decide, by decide⟩) (rc_X6 G) rfl rfl hl.1 rfl (Nat.le_of_ble_eq_true rfl) dX6_order_86 ⟨Nat.le_refl _, Nat.le_refl _⟩ (fun H locs G => ?_)
                  refine lv_goto (tgt := 115) hx hb dX6_order_89 (by decide) ?_
                  refine lv_istore_n (lv' := [(3, .int (kI (bz (sg (adv σ) 49 57)))), (2, .int (kI (bz (isP2 (ol σ))))), (1, .int (kI (ol σ))), (0, .ref (z + 133))]) hx hb dX6_order_115 rfl hl (by decide) rfl (fun ls hl => ?_)
                  refine lv_iload_n hx hb dX6_order_116 rfl (lv_at hl 0 rfl) ?_
                  refine r_zeq (tgt := 124) hx hb dX6_order_117 (by decide) (fun h_155 => ?_) (fun h_155 => ?_)
                  · skip
                    have hO : ¬ oOk σ := fun q => h_155 ((oOk_d h116).mp q)
                    refine r_bipush hx hb dX6_order_124 (by decide +kernel) ?_
                    exact r_cret hx hb hr hlk G ⟨by omega, by omega⟩ (by first | exact ordR_y hL hO | exact ordR_n hO) (by first | exact (ordM_d hL h116).symm | exact (ordM_n hL h116 hK).symm | exact (ordM_1 hL h116 hP2).symm | exact (ordM_2 hL h116 hK hP2).symm) dX6_order_126
                  · skip
                    have hO : oOk σ := (oOk_d h116).mpr h_155
                    refine lv_iload_n hx hb dX6_order_120 rfl (lv_at hl 2 rfl) ?_
                    refine lv_goto (tgt := 126) hx hb dX6_order_121 (by decide) ?_
                    exact r_cret hx hb hr hlk G ⟨by omega, by omega⟩ (by first | exact ordR_y hL hO | exact ordR_n hO) (by first | exact (ordM_d hL h116).symm | exact (ordM_n hL h116 hK).symm | exact (ordM_1 hL h116 hP2).symm | exact (ordM_2 hL h116 hK hP2).symm) dX6_order_126
              · skip
                have hL : ¬ isL (ol σ) := by omega
                refine r_bipush hx hb dX6_order_66 (by decide +kernel) ?_
                exact r_cret hx hb hr hlk G ⟨by omega, by omega⟩ (by exact ordR_x hL) (by exact (ordM_x hL).symm) dX6_order_68
      · skip
        refine r_iconst hx hb dX6_order_38 ?_
        refine lv_goto (tgt := 43) hx hb dX6_order_39 (by decide) ?_
        refine r_top (b := bz (isP2 (ol σ))) (by first | exact one_bz (by omega) | exact zero_bz (by omega)) ?_
        skip
        refine lv_istore_n (lv' := [(2, .int (kI (bz (isP2 (ol σ))))), (1, .int (kI (ol σ))), (0, .ref (z + 133))]) hx hb dX6_order_43 rfl hl (by decide) rfl (fun ls hl => ?_)
        refine lv_iload_n hx hb dX6_order_44 rfl (lv_at hl 0 rfl) ?_
        refine r_zne (tgt := 69) hx hb dX6_order_45 (by decide) (fun h_156 => ?_) (fun h_156 => ?_)
        · skip
          have hP2 := h_156
          have hL : isL (ol σ) := by omega
          have hlt := ol_lt hL
          refine lv_aload_n hx hb dX6_order_69 rfl (lv_at hl 2 rfl) ?_
          refine lv_dup hx hb dX6_order_70 rfl ?_
          refine gf_X6_130 hx hb hts hown G dX6_order_71 ?_
          refine r_iconst hx hb dX6_order_74 ?_
          refine r_iadd hx hb dX6_order_75 ?_
          refine pf_X6_130 hx hb hts hown G dX6_order_76 (fun H locs G => ?_)
          have G := G.cong (τ := adv σ) (rfl)
          refine lv_iload_n hx hb dX6_order_79 rfl (lv_at hl 1 rfl) ?_
          refine r_bipush hx hb dX6_order_80 (by decide +kernel) ?_
          refine r_icmp_ne (tgt := 92) hx hb ⟨by omega, by omega⟩ ⟨by decide, by decide⟩ dX6_order_82 (by decide) (fun h_157 => ?_) (fun h_157 => ?_)
          · skip
            have h116 := h_157
            refine lv_aload_n hx hb dX6_order_92 rfl (lv_at hl 2 rfl) ?_
            refine r_callVI ⟨hx, hb, hml, hown, hts⟩ G (k_X6_takesKind l (σ := adv σ) (by rw [adv6]; omega) (hX.adv)) (kV_X6_takesKind hts qM_X6_147 ⟨by decide, by decide⟩) (rc_X6 G) rfl rfl hl.1 rfl (Nat.le_of_ble_eq_true rfl) dX6_order_93 ⟨Nat.le_refl _, Nat.le_refl _⟩ (fun H locs G => ?_)
            refine r_zeq (tgt := 114) hx hb dX6_order_96 (by decide) (fun h_158 => ?_) (fun h_158 => ?_)
            · skip
              have hK := h_158
              have hO : ¬ oOk σ := fun q => hK ((oOk_k h116).mp q).1
              refine r_iconst hx hb dX6_order_114 ?_
              refine lv_istore_n (lv' := [(3, .int (kI 0)), (2, .int (kI (bz (isP2 (ol σ))))), (1, .int (kI (ol σ))), (0, .ref (z + 133))]) hx hb dX6_order_115 rfl hl (by decide) rfl (fun ls hl => ?_)
              refine lv_iload_n hx hb dX6_order_116 rfl (lv_at hl 0 rfl) ?_
              refine r_if_eq (tgt := 124) hx hb ⟨by decide, by decide⟩ dX6_order_117 (by decide) (fun _ => ?_) (fun h_159 => absurd h_159 (by decide))
              refine r_bipush hx hb dX6_order_124 (by decide +kernel) ?_
              exact r_cret hx hb hr hlk G ⟨by omega, by omega⟩ (by first | exact ordR_y hL hO | exact ordR_n hO) (by first | exact (ordM_d hL h116).symm | exact (ordM_n hL h116 hK).symm | exact (ordM_1 hL h116 hP2).symm | exact (ordM_2 hL h116 hK hP2).symm) dX6_order_126
            · skip
              have hK := h_158
              refine lv_iload_n hx hb dX6_order_99 rfl (lv_at hl 0 rfl) ?_
              refine r_zeq (tgt := 110) hx hb dX6_order_100 (by decide) (fun h_160 => absurd h_156 h_160) (fun _ => ?_)
              refine lv_aload_n hx hb dX6_order_103 rfl (lv_at hl 2 rfl) ?_
              refine r_callVI ⟨hx, hb, hml, hown, hts⟩ G (k_X6_takesKey l (σ := tknM (adv σ)) (by rw [tkn6]; have := bz_rg (P := sg (adv σ) 48 51); have := adv6 (σ := σ); omega) (hX.adv.tkn)) (kV_X6_takesKey hts qM_X6_150 ⟨by decide, by decide⟩) (rc_X6 G) rfl rfl hl.1 rfl (Nat.le_of_ble_eq_true rfl) dX6_order_104 ⟨Nat.le_refl _, Nat.le_refl _⟩ (fun H locs G => ?_)
              refine r_zeq (tgt := 114) hx hb dX6_order_107 (by decide) (fun h_161 => ?_) (fun h_161 => ?_)
              · skip
                have hO : ¬ oOk σ := fun q => h_161 (((oOk_k h116).mp q).2 hP2)
                refine r_iconst hx hb dX6_order_114 ?_
                refine lv_istore_n (lv' := [(3, .int (kI 0)), (2, .int (kI (bz (isP2 (ol σ))))), (1, .int (kI (ol σ))), (0, .ref (z + 133))]) hx hb dX6_order_115 rfl hl (by decide) rfl (fun ls hl => ?_)
                refine lv_iload_n hx hb dX6_order_116 rfl (lv_at hl 0 rfl) ?_
                refine r_if_eq (tgt := 124) hx hb ⟨by decide, by decide⟩ dX6_order_117 (by decide) (fun _ => ?_) (fun h_162 => absurd h_162 (by decide))
                refine r_bipush hx hb dX6_order_124 (by decide +kernel) ?_
                exact r_cret hx hb hr hlk G ⟨by omega, by omega⟩ (by first | exact ordR_y hL hO | exact ordR_n hO) (by first | exact (ordM_d hL h116).symm | exact (ordM_n hL h116 hK).symm | exact (ordM_1 hL h116 hP2).symm | exact (ordM_2 hL h116 hK hP2).symm) dX6_order_126
              · skip
                have hO : oOk σ := (oOk_k h116).mpr ⟨hK, fun _ => h_161⟩
                have hO : oOk σ := by first | exact hO | exact (oOk_k h116).mpr ⟨hK, fun q => absurd q hP2⟩
                refine r_iconst hx hb dX6_order_110 ?_
                refine lv_goto (tgt := 115) hx hb dX6_order_111 (by decide) ?_
                refine lv_istore_n (lv' := [(3, .int (kI 1)), (2, .int (kI (bz (isP2 (ol σ))))), (1, .int (kI (ol σ))), (0, .ref (z + 133))]) hx hb dX6_order_115 rfl hl (by decide) rfl (fun ls hl => ?_)
                refine lv_iload_n hx hb dX6_order_116 rfl (lv_at hl 0 rfl) ?_
                refine r_if_eq (tgt := 124) hx hb ⟨by decide, by decide⟩ dX6_order_117 (by decide) (fun h_163 => absurd h_163 (by decide)) (fun _ => ?_)
                refine lv_iload_n hx hb dX6_order_120 rfl (lv_at hl 2 rfl) ?_
                refine lv_goto (tgt := 126) hx hb dX6_order_121 (by decide) ?_
                exact r_cret hx hb hr hlk G ⟨by omega, by omega⟩ (by first | exact ordR_y hL hO | exact ordR_n hO) (by first | exact (ordM_d hL h116).symm | exact (ordM_n hL h116 hK).symm | exact (ordM_1 hL h116 hP2).symm | exact (ordM_2 hL h116 hK hP2).symm) dX6_order_126
          · skip
            have h116 := h_157
            refine lv_aload_n hx hb dX6_order_85 rfl (lv_at hl 2 rfl) ?_
            refine r_callVI ⟨hx, hb, hml, hown, hts⟩ G (k_X6_takesDays l (σ := adv σ) (by rw [adv6]; omega) (hX.adv)) (kV_X6_takesDays hts qM_X6_143 ⟨by decide, by decide⟩) (rc_X6 G) rfl rfl hl.1 rfl (Nat.le_of_ble_eq_true rfl) dX6_order_86 ⟨Nat.le_refl _, Nat.le_refl _⟩ (fun H locs G => ?_)
            refine lv_goto (tgt := 115) hx hb dX6_order_89 (by decide) ?_
            refine lv_istore_n (lv' := [(3, .int (kI (bz (sg (adv σ) 49 57)))), (2, .int (kI (bz (isP2 (ol σ))))), (1, .int (kI (ol σ))), (0, .ref (z + 133))]) hx hb dX6_order_115 rfl hl (by decide) rfl (fun ls hl => ?_)
            refine lv_iload_n hx hb dX6_order_116 rfl (lv_at hl 0 rfl) ?_
            refine r_zeq (tgt := 124) hx hb dX6_order_117 (by decide) (fun h_164 => ?_) (fun h_164 => ?_)
            · skip
              have hO : ¬ oOk σ := fun q => h_164 ((oOk_d h116).mp q)
              refine r_bipush hx hb dX6_order_124 (by decide +kernel) ?_
              exact r_cret hx hb hr hlk G ⟨by omega, by omega⟩ (by first | exact ordR_y hL hO | exact ordR_n hO) (by first | exact (ordM_d hL h116).symm | exact (ordM_n hL h116 hK).symm | exact (ordM_1 hL h116 hP2).symm | exact (ordM_2 hL h116 hK hP2).symm) dX6_order_126
            · skip
              have hO : oOk σ := (oOk_d h116).mpr h_164
              refine lv_iload_n hx hb dX6_order_120 rfl (lv_at hl 2 rfl) ?_
              refine lv_goto (tgt := 126) hx hb dX6_order_121 (by decide) ?_
              exact r_cret hx hb hr hlk G ⟨by omega, by omega⟩ (by first | exact ordR_y hL hO | exact ordR_n hO) (by first | exact (ordM_d hL h116).symm | exact (ordM_n hL h116 hK).symm | exact (ordM_1 hL h116 hP2).symm | exact (ordM_2 hL h116 hK hP2).symm) dX6_order_126
        · skip
          have hP2 := h_156
          refine lv_iload_n hx hb dX6_order_48 rfl (lv_at hl 1 rfl) ?_
          refine r_bipush hx hb dX6_order_49 (by decide +kernel) ?_
          refine r_icmp_eq (tgt := 69) hx hb ⟨by omega, by omega⟩ ⟨by decide, by decide⟩ dX6_order_51 (by decide) (fun h_165 => ?_) (fun h_165 => ?_)
          · skip
            have hL : isL (ol σ) := by omega
            have hlt := ol_lt hL
            refine lv_aload_n hx hb dX6_order_69 rfl (lv_at hl 2 rfl) ?_
            refine lv_dup hx hb dX6_order_70 rfl ?_
            refine gf_X6_130 hx hb hts hown G dX6_order_71 ?_
            refine r_iconst hx hb dX6_order_74 ?_
            refine r_iadd hx hb dX6_order_75 ?_
            refine pf_X6_130 hx hb hts hown G dX6_order_76 (fun H locs G => ?_)
            have G := G.cong (τ := adv σ) (rfl)
            refine lv_iload_n hx hb dX6_order_79 rfl (lv_at hl 1 rfl) ?_
            refine r_bipush hx hb dX6_order_80 (by decide +kernel) ?_
            refine r_icmp_ne (tgt := 92) hx hb ⟨by omega, by omega⟩ ⟨by decide, by decide⟩ dX6_order_82 (by decide) (fun h_166 => ?_) (fun h_166 => ?_)
            · skip
              have h116 := h_166
              refine lv_aload_n hx hb dX6_order_92 rfl (lv_at hl 2 rfl) ?_
              refine r_callVI ⟨hx, hb, hml, hown, hts⟩ G (k_X6_takesKind l (σ := adv σ) (by rw [adv6]; omega) (hX.adv)) (kV_X6_takesKind hts qM_X6_147 ⟨by decide, by decide⟩) (rc_X6 G) rfl rfl hl.1 rfl (Nat.le_of_ble_eq_true rfl) dX6_order_93 ⟨Nat.le_refl _, Nat.le_refl _⟩ (fun H locs G => ?_)
              refine r_zeq (tgt := 114) hx hb dX6_order_96 (by decide) (fun h_167 => ?_) (fun h_167 => ?_)
              · skip
                have hK := h_167
                have hO : ¬ oOk σ := fun q => hK ((oOk_k h116).mp q).1
                refine r_iconst hx hb dX6_order_114 ?_
                refine lv_istore_n (lv' := [(3, .int (kI 0)), (2, .int (kI (bz (isP2 (ol σ))))), (1, .int (kI (ol σ))), (0, .ref (z + 133))]) hx hb dX6_order_115 rfl hl (by decide) rfl (fun ls hl => ?_)
                refine lv_iload_n hx hb dX6_order_116 rfl (lv_at hl 0 rfl) ?_
                refine r_if_eq (tgt := 124) hx hb ⟨by decide, by decide⟩ dX6_order_117 (by decide) (fun _ => ?_) (fun h_168 => absurd h_168 (by decide))
                refine r_bipush hx hb dX6_order_124 (by decide +kernel) ?_
                exact r_cret hx hb hr hlk G ⟨by omega, by omega⟩ (by first | exact ordR_y hL hO | exact ordR_n hO) (by first | exact (ordM_d hL h116).symm | exact (ordM_n hL h116 hK).symm | exact (ordM_1 hL h116 hP2).symm | exact (ordM_2 hL h116 hK hP2).symm) dX6_order_126
              · skip
                have hK := h_167
                refine lv_iload_n hx hb dX6_order_99 rfl (lv_at hl 0 rfl) ?_
                refine r_zeq (tgt := 110) hx hb dX6_order_100 (by decide) (fun _ => ?_) (fun h_169 => absurd h_169 h_156)
                have hO : oOk σ := by first | exact hO | exact (oOk_k h116).mpr ⟨hK, fun q => absurd q hP2⟩
                refine r_iconst hx hb dX6_order_110 ?_
                refine lv_goto (tgt := 115) hx hb dX6_order_111 (by decide) ?_
                refine lv_istore_n (lv' := [(3, .int (kI 1)), (2, .int (kI (bz (isP2 (ol σ))))), (1, .int (kI (ol σ))), (0, .ref (z + 133))]) hx hb dX6_order_115 rfl hl (by decide) rfl (fun ls hl => ?_)
                refine lv_iload_n hx hb dX6_order_116 rfl (lv_at hl 0 rfl) ?_
                refine r_if_eq (tgt := 124) hx hb ⟨by decide, by decide⟩ dX6_order_117 (by decide) (fun h_170 => absurd h_170 (by decide)) (fun _ => ?_)
                refine lv_iload_n hx hb dX6_order_120 rfl (lv_at hl 2 rfl) ?_
                refine lv_goto (tgt := 126) hx hb dX6_order_121 (by decide) ?_
                exact r_cret hx hb hr hlk G ⟨by omega, by omega⟩ (by first | exact ordR_y hL hO | exact ordR_n hO) (by first | exact (ordM_d hL h116).symm | exact (ordM_n hL h116 hK).symm | exact (ordM_1 hL h116 hP2).symm | exact (ordM_2 hL h116 hK hP2).symm) dX6_order_126
            · skip
              have h116 := h_166
              refine lv_aload_n hx hb dX6_order_85 rfl (lv_at hl 2 rfl) ?_
              refine r_callVI ⟨hx, hb, hml, hown, hts⟩ G (k_X6_takesDays l (σ := adv σ) (by rw [adv6]; omega) (hX.adv)) (kV_X6_takesDays hts qM_X6_143 ⟨by decide, by decide⟩) (rc_X6 G) rfl rfl hl.1 rfl (Nat.le_of_ble_eq_true rfl) dX6_order_86 ⟨Nat.le_refl _, Nat.le_refl _⟩ (fun H locs G => ?_)
              refine lv_goto (tgt := 115) hx hb dX6_order_89 (by decide) ?_
              refine lv_istore_n (lv' := [(3, .int (kI (bz (sg (adv σ) 49 57)))), (2, .int (kI (bz (isP2 (ol σ))))), (1, .int (kI (ol σ))), (0, .ref (z + 133))]) hx hb dX6_order_115 rfl hl (by decide) rfl (fun ls hl => ?_)
              refine lv_iload_n hx hb dX6_order_116 rfl (lv_at hl 0 rfl) ?_
              refine r_zeq (tgt := 124) hx hb dX6_order_117 (by decide) (fun h_171 => ?_) (fun h_171 => ?_)
              · skip
                have hO : ¬ oOk σ := fun q => h_171 ((oOk_d h116).mp q)
                refine r_bipush hx hb dX6_order_124 (by decide +kernel) ?_
                exact r_cret hx hb hr hlk G ⟨by omega, by omega⟩ (by first | exact ordR_y hL hO | exact ordR_n hO) (by first | exact (ordM_d hL h116).symm | exact (ordM_n hL h116 hK).symm | exact (ordM_1 hL h116 hP2).symm | exact (ordM_2 hL h116 hK hP2).symm) dX6_order_126
              · skip
                have hO : oOk σ := (oOk_d h116).mpr h_171
                refine lv_iload_n hx hb dX6_order_120 rfl (lv_at hl 2 rfl) ?_
                refine lv_goto (tgt := 126) hx hb dX6_order_121 (by decide) ?_
                exact r_cret hx hb hr hlk G ⟨by omega, by omega⟩ (by first | exact ordR_y hL hO | exact ordR_n hO) (by first | exact (ordM_d hL h116).symm | exact (ordM_n hL h116 hK).symm | exact (ordM_1 hL h116 hP2).symm | exact (ordM_2 hL h116 hK hP2).symm) dX6_order_126
          · skip
            refine lv_iload_n hx hb dX6_order_54 rfl (lv_at hl 1 rfl) ?_
            refine r_bipush hx hb dX6_order_55 (by decide +kernel) ?_
            refine r_icmp_eq (tgt := 69) hx hb ⟨by omega, by omega⟩ ⟨by decide, by decide⟩ dX6_order_57 (by decide) (fun h_172 => ?_) (fun h_172 => ?_)
            · skip
              have hL : isL (ol σ) := by omega
              have hlt := ol_lt hL
              refine lv_aload_n hx hb dX6_order_69 rfl (lv_at hl 2 rfl) ?_
              refine lv_dup hx hb dX6_order_70 rfl ?_
              refine gf_X6_130 hx hb hts hown G dX6_order_71 ?_
              refine r_iconst hx hb dX6_order_74 ?_
              refine r_iadd hx hb dX6_order_75 ?_
              refine pf_X6_130 hx hb hts hown G dX6_order_76 (fun H locs G => ?_)
              have G := G.cong (τ := adv σ) (rfl)
              refine lv_iload_n hx hb dX6_order_79 rfl (lv_at hl 1 rfl) ?_
              refine r_bipush hx hb dX6_order_80 (by decide +kernel) ?_
              refine r_icmp_ne (tgt := 92) hx hb ⟨by omega, by omega⟩ ⟨by decide, by decide⟩ dX6_order_82 (by decide) (fun h_173 => ?_) (fun h_173 => ?_)
              · skip
                have h116 := h_173
                refine lv_aload_n hx hb dX6_order_92 rfl (lv_at hl 2 rfl) ?_
                refine r_callVI ⟨hx, hb, hml, hown, hts⟩ G (k_X6_takesKind l (σ := adv σ) (by rw [adv6]; omega) (hX.adv)) (kV_X6_takesKind hts qM_X6_147 ⟨by decide, by decide⟩) (rc_X6 G) rfl rfl hl.1 rfl (Nat.le_of_ble_eq_true rfl) dX6_order_93 ⟨Nat.le_refl _, Nat.le_refl _⟩ (fun H locs G => ?_)
                refine r_zeq (tgt := 114) hx hb dX6_order_96 (by decide) (fun h_174 => ?_) (fun h_174 => ?_)
                · skip
                  have hK := h_174
                  have hO : ¬ oOk σ := fun q => hK ((oOk_k h116).mp q).1
                  refine r_iconst hx hb dX6_order_114 ?_
                  refine lv_istore_n (lv' := [(3, .int (kI 0)), (2, .int (kI (bz (isP2 (ol σ))))), (1, .int (kI (ol σ))), (0, .ref (z + 133))]) hx hb dX6_order_115 rfl hl (by decide) rfl (fun ls hl => ?_)
                  refine lv_iload_n hx hb dX6_order_116 rfl (lv_at hl 0 rfl) ?_
                  refine r_if_eq (tgt := 124) hx hb ⟨by decide, by decide⟩ dX6_order_117 (by decide) (fun _ => ?_) (fun h_175 => absurd h_175 (by decide))
                  refine r_bipush hx hb dX6_order_124 (by decide +kernel) ?_
                  exact r_cret hx hb hr hlk G ⟨by omega, by omega⟩ (by first | exact ordR_y hL hO | exact ordR_n hO) (by first | exact (ordM_d hL h116).symm | exact (ordM_n hL h116 hK).symm | exact (ordM_1 hL h116 hP2).symm | exact (ordM_2 hL h116 hK hP2).symm) dX6_order_126
                · skip
                  have hK := h_174
                  refine lv_iload_n hx hb dX6_order_99 rfl (lv_at hl 0 rfl) ?_
                  refine r_zeq (tgt := 110) hx hb dX6_order_100 (by decide) (fun _ => ?_) (fun h_176 => absurd h_176 h_156)
                  have hO : oOk σ := by first | exact hO | exact (oOk_k h116).mpr ⟨hK, fun q => absurd q hP2⟩
                  refine r_iconst hx hb dX6_order_110 ?_
                  refine lv_goto (tgt := 115) hx hb dX6_order_111 (by decide) ?_
                  refine lv_istore_n (lv' := [(3, .int (kI 1)), (2, .int (kI (bz (isP2 (ol σ))))), (1, .int (kI (ol σ))), (0, .ref (z + 133))]) hx hb dX6_order_115 rfl hl (by decide) rfl (fun ls hl => ?_)
                  refine lv_iload_n hx hb dX6_order_116 rfl (lv_at hl 0 rfl) ?_
                  refine r_if_eq (tgt := 124) hx hb ⟨by decide, by decide⟩ dX6_order_117 (by decide) (fun h_177 => absurd h_177 (by decide)) (fun _ => ?_)
                  refine lv_iload_n hx hb dX6_order_120 rfl (lv_at hl 2 rfl) ?_
                  refine lv_goto (tgt := 126) hx hb dX6_order_121 (by decide) ?_
                  exact r_cret hx hb hr hlk G ⟨by omega, by omega⟩ (by first | exact ordR_y hL hO | exact ordR_n hO) (by first | exact (ordM_d hL h116).symm | exact (ordM_n hL h116 hK).symm | exact (ordM_1 hL h116 hP2).symm | exact (ordM_2 hL h116 hK hP2).symm) dX6_order_126
              · skip
                have h116 := h_173
                refine lv_aload_n hx hb dX6_order_85 rfl (lv_at hl 2 rfl) ?_
                refine r_callVI ⟨hx, hb, hml, hown, hts⟩ G (k_X6_takesDays l (σ := adv σ) (by rw [adv6]; omega) (hX.adv)) (kV_X6_takesDays hts qM_X6_143 ⟨by decide, by decide⟩) (rc_X6 G) rfl rfl hl.1 rfl (Nat.le_of_ble_eq_true rfl) dX6_order_86 ⟨Nat.le_refl _, Nat.le_refl _⟩ (fun H locs G => ?_)
                refine lv_goto (tgt := 115) hx hb dX6_order_89 (by decide) ?_
                refine lv_istore_n (lv' := [(3, .int (kI (bz (sg (adv σ) 49 57)))), (2, .int (kI (bz (isP2 (ol σ))))), (1, .int (kI (ol σ))), (0, .ref (z + 133))]) hx hb dX6_order_115 rfl hl (by decide) rfl (fun ls hl => ?_)
                refine lv_iload_n hx hb dX6_order_116 rfl (lv_at hl 0 rfl) ?_
                refine r_zeq (tgt := 124) hx hb dX6_order_117 (by decide) (fun h_178 => ?_) (fun h_178 => ?_)
                · skip
                  have hO : ¬ oOk σ := fun q => h_178 ((oOk_d h116).mp q)
                  refine r_bipush hx hb dX6_order_124 (by decide +kernel) ?_
                  exact r_cret hx hb hr hlk G ⟨by omega, by omega⟩ (by first | exact ordR_y hL hO | exact ordR_n hO) (by first | exact (ordM_d hL h116).symm | exact (ordM_n hL h116 hK).symm | exact (ordM_1 hL h116 hP2).symm | exact (ordM_2 hL h116 hK hP2).symm) dX6_order_126
                · skip
                  have hO : oOk σ := (oOk_d h116).mpr h_178
                  refine lv_iload_n hx hb dX6_order_120 rfl (lv_at hl 2 rfl) ?_
                  refine lv_goto (tgt := 126) hx hb dX6_order_121 (by decide) ?_
                  exact r_cret hx hb hr hlk G ⟨by omega, by omega⟩ (by first | exact ordR_y hL hO | exact ordR_n hO) (by first | exact (ordM_d hL h116).symm | exact (ordM_n hL h116 hK).symm | exact (ordM_1 hL h116 hP2).symm | exact (ordM_2 hL h116 hK hP2).symm) dX6_order_126
            · skip
              refine lv_iload_n hx hb dX6_order_60 rfl (lv_at hl 1 rfl) ?_
              refine r_bipush hx hb dX6_order_61 (by decide +kernel) ?_
              refine r_icmp_eq (tgt := 69) hx hb ⟨by omega, by omega⟩ ⟨by decide, by decide⟩ dX6_order_63 (by decide) (fun h_179 => ?_) (fun h_179 => ?_)
              · skip
                have hL : isL (ol σ) := by omega
                have hlt := ol_lt hL
                refine lv_aload_n hx hb dX6_order_69 rfl (lv_at hl 2 rfl) ?_
                refine lv_dup hx hb dX6_order_70 rfl ?_
                refine gf_X6_130 hx hb hts hown G dX6_order_71 ?_
                refine r_iconst hx hb dX6_order_74 ?_
                refine r_iadd hx hb dX6_order_75 ?_
                refine pf_X6_130 hx hb hts hown G dX6_order_76 (fun H locs G => ?_)
                have G := G.cong (τ := adv σ) (rfl)
                refine lv_iload_n hx hb dX6_order_79 rfl (lv_at hl 1 rfl) ?_
                refine r_bipush hx hb dX6_order_80 (by decide +kernel) ?_
                refine r_icmp_ne (tgt := 92) hx hb ⟨by omega, by omega⟩ ⟨by decide, by decide⟩ dX6_order_82 (by decide) (fun h_180 => ?_) (fun h_180 => ?_)
                · skip
                  have h116 := h_180
                  refine lv_aload_n hx hb dX6_order_92 rfl (lv_at hl 2 rfl) ?_
                  refine r_callVI ⟨hx, hb, hml, hown, hts⟩ G (k_X6_takesKind l (σ := adv σ) (by rw [adv6]; omega) (hX.adv)) (kV_X6_takesKind hts qM_X6_147 ⟨by decide, by decide⟩) (rc_X6 G) rfl rfl hl.1 rfl (Nat.le_of_ble_eq_true rfl) dX6_order_93 ⟨Nat.le_refl _, Nat.le_refl _⟩ (fun H locs G => ?_)
                  refine r_zeq (tgt := 114) hx hb dX6_order_96 (by decide) (fun h_181 => ?_) (fun h_181 => ?_)
                  · skip
                    have hK := h_181
                    have hO : ¬ oOk σ := fun q => hK ((oOk_k h116).mp q).1
                    refine r_iconst hx hb dX6_order_114 ?_
                    refine lv_istore_n (lv' := [(3, .int (kI 0)), (2, .int (kI (bz (isP2 (ol σ))))), (1, .int (kI (ol σ))), (0, .ref (z + 133))]) hx hb dX6_order_115 rfl hl (by decide) rfl (fun ls hl => ?_)
                    refine lv_iload_n hx hb dX6_order_116 rfl (lv_at hl 0 rfl) ?_
                    refine r_if_eq (tgt := 124) hx hb ⟨by decide, by decide⟩ dX6_order_117 (by decide) (fun _ => ?_) (fun h_182 => absurd h_182 (by decide))
                    refine r_bipush hx hb dX6_order_124 (by decide +kernel) ?_
                    exact r_cret hx hb hr hlk G ⟨by omega, by omega⟩ (by first | exact ordR_y hL hO | exact ordR_n hO) (by first | exact (ordM_d hL h116).symm | exact (ordM_n hL h116 hK).symm | exact (ordM_1 hL h116 hP2).symm | exact (ordM_2 hL h116 hK hP2).symm) dX6_order_126
                  · skip
                    have hK := h_181
                    refine lv_iload_n hx hb dX6_order_99 rfl (lv_at hl 0 rfl) ?_
                    refine r_zeq (tgt := 110) hx hb dX6_order_100 (by decide) (fun _ => ?_) (fun h_183 => absurd h_183 h_156)
                    have hO : oOk σ := by first | exact hO | exact (oOk_k h116).mpr ⟨hK, fun q => absurd q hP2⟩
                    refine r_iconst hx hb dX6_order_110 ?_
                    refine lv_goto (tgt := 115) hx hb dX6_order_111 (by decide) ?_
                    refine lv_istore_n (lv' := [(3, .int (kI 1)), (2, .int (kI (bz (isP2 (ol σ))))), (1, .int (kI (ol σ))), (0, .ref (z + 133))]) hx hb dX6_order_115 rfl hl (by decide) rfl (fun ls hl => ?_)
                    refine lv_iload_n hx hb dX6_order_116 rfl (lv_at hl 0 rfl) ?_
                    refine r_if_eq (tgt := 124) hx hb ⟨by decide, by decide⟩ dX6_order_117 (by decide) (fun h_184 => absurd h_184 (by decide)) (fun _ => ?_)
                    refine lv_iload_n hx hb dX6_order_120 rfl (lv_at hl 2 rfl) ?_
                    refine lv_goto (tgt := 126) hx hb dX6_order_121 (by decide) ?_
                    exact r_cret hx hb hr hlk G ⟨by omega, by omega⟩ (by first | exact ordR_y hL hO | exact ordR_n hO) (by first | exact (ordM_d hL h116).symm | exact (ordM_n hL h116 hK).symm | exact (ordM_1 hL h116 hP2).symm | exact (ordM_2 hL h116 hK hP2).symm) dX6_order_126
                · skip
                  have h116 := h_180
                  refine lv_aload_n hx hb dX6_order_85 rfl (lv_at hl 2 rfl) ?_
                  refine r_callVI ⟨hx, hb, hml, hown, hts⟩ G (k_X6_takesDays l (σ := adv σ) (by rw [adv6]; omega) (hX.adv)) (kV_X6_takesDays hts qM_X6_143 ⟨by decide, by decide⟩) (rc_X6 G) rfl rfl hl.1 rfl (Nat.le_of_ble_eq_true rfl) dX6_order_86 ⟨Nat.le_refl _, Nat.le_refl _⟩ (fun H locs G => ?_)
                  refine lv_goto (tgt := 115) hx hb dX6_order_89 (by decide) ?_
                  refine lv_istore_n (lv' := [(3, .int (kI (bz (sg (adv σ) 49 57)))), (2, .int (kI (bz (isP2 (ol σ))))), (1, .int (kI (ol σ))), (0, .ref (z + 133))]) hx hb dX6_order_115 rfl hl (by decide) rfl (fun ls hl => ?_)
                  refine lv_iload_n hx hb dX6_order_116 rfl (lv_at hl 0 rfl) ?_
                  refine r_zeq (tgt := 124) hx hb dX6_order_117 (by decide) (fun h_185 => ?_) (fun h_185 => ?_)
                  · skip
                    have hO : ¬ oOk σ := fun q => h_185 ((oOk_d h116).mp q)
                    refine r_bipush hx hb dX6_order_124 (by decide +kernel) ?_
                    exact r_cret hx hb hr hlk G ⟨by omega, by omega⟩ (by first | exact ordR_y hL hO | exact ordR_n hO) (by first | exact (ordM_d hL h116).symm | exact (ordM_n hL h116 hK).symm | exact (ordM_1 hL h116 hP2).symm | exact (ordM_2 hL h116 hK hP2).symm) dX6_order_126
                  · skip
                    have hO : oOk σ := (oOk_d h116).mpr h_185
                    refine lv_iload_n hx hb dX6_order_120 rfl (lv_at hl 2 rfl) ?_
                    refine lv_goto (tgt := 126) hx hb dX6_order_121 (by decide) ?_
                    exact r_cret hx hb hr hlk G ⟨by omega, by omega⟩ (by first | exact ordR_y hL hO | exact ordR_n hO) (by first | exact (ordM_d hL h116).symm | exact (ordM_n hL h116 hK).symm | exact (ordM_1 hL h116 hP2).symm | exact (ordM_2 hL h116 hK hP2).symm) dX6_order_126
              · skip
                have hL : ¬ isL (ol σ) := by omega
                refine r_bipush hx hb dX6_order_66 (by decide +kernel) ?_
                exact r_cret hx hb hr hlk G ⟨by omega, by omega⟩ (by exact ordR_x hL) (by exact (ordM_x hL).symm) dX6_order_68
/-- errors by place: an order after the other; 1 behind the end, 2 at an error -/
def erF (_ : Int) (v : Mem × Int) : Mem × Int := if v.2 ≠ 0 then v else if ordR v.1 = 32 then (ordM v.1, 2) else if ordM v.1 133 6 = ordM v.1 133 5 then (ordM v.1, 1) else if ordM v.1 136 (ordM v.1 133 6) ≠ 59 then (ordM v.1, 2) else (adv (ordM v.1), 0)
def erI (σ : Mem) (i : Int) : Mem × Int := it erF (up σ 133 6 0, 0) i
theorem erI_s {σ : Mem} {i : Int} (h : 0 ≤ i) : erI σ (i + 1) = erF i (erI σ i) := it_s (f := erF) h
theorem er_stay {σ : Mem} {i n : Int} (h0 : 0 ≤ i) (hn : i ≤ n) (h : (erI σ i).2 ≠ 0) : erI σ n = erI σ i := by
  obtain ⟨d, rfl⟩ : ∃ d : Nat, n = i + d := ⟨(n - i).toNat, by omega⟩
  clear hn
  induction d with
  | zero => rw [show i + ((0 : Nat) : Int) = i by omega]
  | succ d ih =>
    rw [show i + ((d + 1 : Nat) : Int) = (i + d) + 1 by omega, erI_s (by omega), ih]
    unfold erF
    rw [if_pos h]
def erR (σ : Mem) : Int := if (erI σ 61).2 = 1 then -1 else (erI σ 61).1 133 6
def erM (σ : Mem) : Mem := (erI σ 61).1
theorem er_end {σ τ : Mem} {i : Int} (h0 : 0 ≤ i) (hn : i ≤ 60) (hv : (τ, 0) = erI σ i) {w : Mem × Int} (hw : erF i (τ, 0) = w) (h2 : w.2 ≠ 0) : erI σ 61 = w := by
  have h1 : erI σ (i + 1) = w := by rw [erI_s h0, ← hv, hw]
  rw [er_stay (i := i + 1) (by omega) (by omega) (by rw [h1]; exact h2), h1]
theorem erF_x {τ : Mem} {i : Int} (h : ordR τ = 32) : erF i (τ, 0) = (ordM τ, 2) := by
  unfold erF; rw [if_neg (show ¬ ((τ, (0 : Int)).2 ≠ 0) from fun q => q rfl)]; exact if_pos h
theorem erF_e {τ : Mem} {i : Int} (h : ¬ ordR τ = 32) (h1 : ordM τ 133 6 = ordM τ 133 5) : erF i (τ, 0) = (ordM τ, 1) := by
  unfold erF; rw [if_neg (show ¬ ((τ, (0 : Int)).2 ≠ 0) from fun q => q rfl)]; show (if ordR τ = 32 then _ else _) = _; rw [if_neg h]; exact if_pos h1
theorem erF_n {τ : Mem} {i : Int} (h : ¬ ordR τ = 32) (h1 : ¬ ordM τ 133 6 = ordM τ 133 5) (h2 : ¬ ordM τ 136 (ordM τ 133 6) = 59) : erF i (τ, 0) = (ordM τ, 2) := by
  unfold erF; rw [if_neg (show ¬ ((τ, (0 : Int)).2 ≠ 0) from fun q => q rfl)]; show (if ordR τ = 32 then _ else _) = _; rw [if_neg h]; show (if ordM τ 133 6 = ordM τ 133 5 then _ else _) = _; rw [if_neg h1]; exact if_pos h2
theorem erF_g {τ : Mem} {i : Int} (h : ¬ ordR τ = 32) (h1 : ¬ ordM τ 133 6 = ordM τ 133 5) (h2 : ordM τ 136 (ordM τ 133 6) = 59) : erF i (τ, 0) = (adv (ordM τ), 0) := by
  unfold erF; rw [if_neg (show ¬ ((τ, (0 : Int)).2 ≠ 0) from fun q => q rfl)]; show (if ordR τ = 32 then _ else _) = _; rw [if_neg h]; show (if ordM τ 133 6 = ordM τ 133 5 then _ else _) = _; rw [if_neg h1]; exact if_neg (fun q => q h2)
theorem ordR_rg {σ : Mem} (h : IX σ) (h0 : 0 ≤ σ 133 6) : 32 ≤ ordR σ ∧ ordR σ ≤ 126 := by
  have := ol_rg h h0
  unfold ordR; split <;> omega
set_option maxRecDepth 100000 in
set_option maxHeartbeats 4000000 in
theorem k_X6_error (l : Launch) {σ : Mem} (hX : IX σ) : CtI l yX6_error (Cond.code yX6_error cX6_error 1 (some .int)) 4 88 (fun z => [.ref (z + 133)]) σ (erR σ) (erM σ) := by
  intro D T z
  refine Ct_of (by decide) (Nat.le_of_ble_eq_true rfl) ?_
  intro p e s m below meth c ls hx hb hml hr hts hown hlk G hl
  have hown : s.vm.findClass RX6 = some m.cls := hown
  have hl : lv_has ls 1 [(0, .ref (z + 133))] := hl
  refine lv_aload_n hx hb dX6_error_0 rfl (lv_at hl 0 rfl) ?_
  refine r_iconst hx hb dX6_error_1 ?_
  refine pf_X6_130 hx hb hts hown G dX6_error_2 (fun H locs G => ?_)
  have lp5 : ∀ (d : Nat) (i : Int) (τ : Mem), (0 ≤ i) → (i ≤ τ 133 6) → (0 ≤ τ 133 6 ∧ τ 133 6 ≤ τ 133 5 ∧ τ 133 5 ≤ 60) → (IX τ) → ((τ, 0) = erI σ i) → (61 - i : Int) < (d : Int) → ∀ (H : Heap) (locs : List Loc), Wd D T z 139 τ s H locs → ∀ (ls : Array Slot), lv_has ls 1 [(0, .ref (z + 133))] → W p l e (rmN 4 88) s m ([.ref (z + 133)] : List Value).toArray below meth c H locs 0 0 (MQ below (QI D T z 139 (erR σ) (erM σ)) ([.ref (z + 133)] : List Value).toArray s 0 0 (Own z)) (F0 m 5 ls []) := by
    intro d
    induction d with
    | zero => intro i τ h0 hi ht hX2 hv hd; exact absurd hd (by omega)
    | succ d ih5 =>
      intro i τ h0 hi ht hX2 hv hd H locs G ls hl
      have hx2 := hX2.1
      have h6 := ordM_6 ht.2.1
      have h5 : ordM τ 133 5 = τ 133 5 := ordM_o (by omega)
      have hrr := ordR_rg hX2 ht.1
      refine lv_aload_n hx hb dX6_error_5 rfl (lv_at hl 0 rfl) ?_
      refine r_callVI ⟨hx, hb, hml, hown, hts⟩ G (k_X6_order l (σ := τ) (by omega) (hX2)) (kV_X6_order hts qM_X6_153 ⟨by decide, by decide⟩) (rc_X6 G) rfl rfl hl.1 rfl (Nat.le_of_ble_eq_true rfl) dX6_error_6 ⟨Nat.le_refl _, Nat.le_refl _⟩ (fun H locs G => ?_)
      refine r_bipush hx hb dX6_error_9 (by decide +kernel) ?_
      refine r_icmp_eq (tgt := 59) hx hb ⟨by omega, by omega⟩ ⟨by decide, by decide⟩ dX6_error_11 (by decide) (fun h_1 => ?_) (fun h_1 => ?_)
      · skip
        have he := er_end h0 (by omega) hv (erF_x h_1) (show (2 : Int) ≠ 0 by decide)
        refine lv_aload_n hx hb dX6_error_59 rfl (lv_at hl 0 rfl) ?_
        refine gf_X6_130 hx hb hts hown G dX6_error_60 ?_
        exact r_iret hx hb hr hlk G (by unfold erR; rw [he]; rfl) (by unfold erM; rw [he]) dX6_error_63
      · skip
        have hne := h_1
        refine lv_aload_n hx hb dX6_error_14 rfl (lv_at hl 0 rfl) ?_
        refine gf_X6_130 hx hb hts hown G dX6_error_15 ?_
        refine lv_aload_n hx hb dX6_error_18 rfl (lv_at hl 0 rfl) ?_
        refine gf_X6_127 hx hb hts hown G dX6_error_19 ?_
        refine r_icmp_ne (tgt := 27) hx hb ⟨by omega, by omega⟩ ⟨by omega, by omega⟩ dX6_error_22 (by decide) (fun h_2 => ?_) (fun h_2 => ?_)
        · skip
          have hnt := h_2
          refine lv_aload_n hx hb dX6_error_27 rfl (lv_at hl 0 rfl) ?_
          have hcr := hX2.ord.2 (ordM τ 133 6) (by omega) (by omega)
          refine gf_X6_17 hx hb hts hown G dX6_error_28 ?_
          refine lv_aload_n hx hb dX6_error_31 rfl (lv_at hl 0 rfl) ?_
          refine gf_X6_130 hx hb hts hown G dX6_error_32 ?_
          refine r_cald hx hb G 136 (by decide) (N := 60) (fun _ => rfl) (by omega) (by omega) (by decide) dX6_error_35 ?_
          refine r_bipush hx hb dX6_error_36 (by decide +kernel) ?_
          refine r_icmp_eq (tgt := 46) hx hb ⟨by omega, by omega⟩ ⟨by decide, by decide⟩ dX6_error_38 (by decide) (fun h_3 => ?_) (fun h_3 => ?_)
          · skip
            have h59 := h_3
            refine lv_aload_n hx hb dX6_error_46 rfl (lv_at hl 0 rfl) ?_
            refine lv_dup hx hb dX6_error_47 rfl ?_
            refine gf_X6_130 hx hb hts hown G dX6_error_48 ?_
            refine r_iconst hx hb dX6_error_51 ?_
            refine r_iadd hx hb dX6_error_52 ?_
            refine pf_X6_130 hx hb hts hown G dX6_error_53 (fun H locs G => ?_)
            have G := G.cong (τ := adv (ordM τ)) (rfl)
            refine lv_goto (tgt := 5) hx hb dX6_error_56 (by decide) ?_
            exact ih5 (i + 1) (adv (ordM τ)) (by omega) (by rw [adv6]; omega) (by rw [adv6, adv5]; omega) (hX2.ord.adv) (by rw [erI_s h0, ← hv]; exact (erF_g hne hnt h59).symm) (by omega) _ _ G _ (lv_sub hl [0] rfl)
          · skip
            have he := er_end h0 (by omega) hv (erF_n hne hnt h_3) (show (2 : Int) ≠ 0 by decide)
            refine lv_aload_n hx hb dX6_error_41 rfl (lv_at hl 0 rfl) ?_
            refine gf_X6_130 hx hb hts hown G dX6_error_42 ?_
            exact r_iret hx hb hr hlk G (by unfold erR; rw [he]; rfl) (by unfold erM; rw [he]) dX6_error_45
        · skip
          have he := er_end h0 (by omega) hv (erF_e hne h_2) (show (1 : Int) ≠ 0 by decide)
          refine r_iconst hx hb dX6_error_25 ?_
          exact r_iret hx hb hr hlk G (by unfold erR; rw [he]; rfl) (by unfold erM; rw [he]) dX6_error_26
  exact lp5 62 0 (up σ 133 6 0) (by omega) (by simp [up_ap]) (by simp [up_ap]; exact hX.1) (hX.f (by decide)) (rfl) (by omega) _ _ G _ (lv_sub hl [0] rfl)
