/-! orders done -/
theorem mtuR_rg {σ : Mem} {N k : Int} (hG : SG σ 0 N) (hk : 0 ≤ k ∧ k < 4) : -1 ≤ mtuR σ k ∧ mtuR σ k < 16 := by
  have hL := (hG.kd hk).2
  unfold mtuR
  split
  · omega
  · have h1 := hG.pl hk (p := mL σ 0 k - 1 - 0) (by omega) (by omega)
    rw [mtu_P hk hL hk (by omega), if_pos ⟨rfl, by omega⟩]; omega
abbrev doR (μ : Mem) (l : Int) : Prop := if l = 97 then mas μ (μ 133 7) < 100 else if l = 100 then mS μ 0 (μ 133 7) (μ 133 8) = 1 else if l = 98 then mcb μ (μ 133 7) (μ 133 8) else if l = 112 then True else μ 134 3 ≤ 9999 - μ 133 7
def doM (μ : Mem) (l : Int) : Mem := if l = 97 then masM μ (μ 133 7) else if l = 100 then (if mS μ 0 (μ 133 7) (μ 133 8) = 1 then mdl μ (μ 133 7) (μ 133 8) else μ) else if l = 98 then (if mcb μ (μ 133 7) (μ 133 8) then mbk μ (μ 133 7) (μ 133 8) else μ) else if l = 112 then mtu μ (μ 133 7) else (if μ 134 3 ≤ 9999 - μ 133 7 then mpa μ (μ 133 7) else μ)
/-- what an order tells is in range -/
def OV (μ : Mem) (l : Int) : Prop := isL l ∧ (l ≠ 116 → 0 ≤ μ 133 7 ∧ μ 133 7 < 4) ∧ (isP2 l → 0 ≤ μ 133 8 ∧ μ 133 8 < 16) ∧ (l = 116 → 1 ≤ μ 133 7 ∧ μ 133 7 ≤ 99)
theorem SG_doM {μ : Mem} {N l : Int} (hG : SG μ 0 N) (hO : OV μ l) (hN : N < 1000) : SG (doM μ l) 0 (N + 1) := by
  obtain ⟨h0, h1, h2, h3⟩ := hO
  have hle : ∀ {τ : Mem}, SG τ 0 N → SG τ 0 (N + 1) := fun h => h.le (by omega) (by omega)
  unfold doM
  split
  · exact hG.asM (h1 (by omega)) hN
  · split
    · split
      · exact hle (hG.dl (h1 (by omega)) (h2 (by omega)) (by assumption))
      · exact hle hG
    · split
      · split
        · rename_i h; exact hle (hG.bk (h1 (by omega)) (h2 (by omega)) h.1)
        · exact hle hG
      · split
        · exact hle (hG.tu (h1 (by omega)))
        · have h4 := h3 (by omega)
          split
          · exact hle (hG.pa (by omega) (by omega))
          · exact hle hG
set_option maxRecDepth 100000 in
set_option maxHeartbeats 4000000 in
theorem k_X6_does (l : Launch) {σ : Mem} {N w : Int} (hO : OV σ w) (hG : SG σ 0 N) : CtI l yX6_does (Cond.code yX6_does cX6_does 2 (some .boolean)) 6 143 (fun z => [.ref (z + 133), .int (kI w)]) σ (bz (doR σ w)) (doM σ w) := by
  intro D T z
  refine Ct_of (by decide) (Nat.le_of_ble_eq_true rfl) ?_
  intro p e s m below meth c ls hx hb hml hr hts hown hlk G hl
  have hown : s.vm.findClass RX6 = some m.cls := hown
  have hl : lv_has ls 2 [(0, .ref (z + 133)), (1, .int (kI w))] := hl
  obtain ⟨hO0, hO1, hO2, hO3⟩ := hO
  refine lv_iload_n hx hb dX6_does_0 rfl (lv_at hl 1 rfl) ?_
  by_cases hc_1 : w = 97
  · skip
    refine r_lkp (off := 43) (tgt := 44) hx hb dX6_does_1 ⟨by omega, by omega⟩ (by decide) (show (if (97 : Int) = w then (43 : Int) else if (98 : Int) = w then (98 : Int) else if (100 : Int) = w then (62 : Int) else if (112 : Int) = w then (134 : Int) else (152 : Int)) = 43 by (repeat' split) <;> omega) (by decide) ?_
    have h7 := hO1 (by omega)
    have hdr := mdr_rg hG h7
    have hrs : 0 ≤ mas σ (σ 133 7) ∧ mas σ (σ 133 7) ≤ 102 := by unfold mas rsn; (repeat' split) <;> omega
    refine lv_aload_n hx hb dX6_does_44 rfl (lv_at hl 0 rfl) ?_
    refine lv_aload_n hx hb dX6_does_45 rfl (lv_at hl 0 rfl) ?_
    refine gf_X6_137 hx hb hts hown G dX6_does_46 ?_
    refine r_callVI ⟨hx, hb, hml, hown, hts⟩ G (k_X6_asks l (k := σ 133 7) (σ := σ) (h7) (hG)) (kV_X6_asks hts qM_X6_90 ⟨by decide, by decide⟩) (rc_X6 G) rfl rfl hl.1 rfl (Nat.le_of_ble_eq_true rfl) dX6_does_49 ⟨Nat.le_refl _, Nat.le_refl _⟩ (fun H locs G => ?_)
    refine r_bipush hx hb dX6_does_52 (by decide +kernel) ?_
    refine r_icmp_ge (tgt := 61) hx hb ⟨by omega, by omega⟩ ⟨by decide, by decide⟩ dX6_does_54 (by decide) (fun h_2 => ?_) (fun h_2 => ?_)
    · skip
      refine r_iconst hx hb dX6_does_61 ?_
      exact r_zret hx hb hr hlk G (Or.inl rfl) (by first | exact one_bz (by unfold doR; rw [if_pos (by omega)]; omega) | exact zero_bz (by unfold doR; rw [if_pos (by omega)]; omega)) (by unfold doM; rw [if_pos (by omega)]) dX6_does_62
    · skip
      refine r_iconst hx hb dX6_does_57 ?_
      refine lv_goto (tgt := 62) hx hb dX6_does_58 (by decide) ?_
      exact r_zret hx hb hr hlk G (Or.inr rfl) (by first | exact one_bz (by unfold doR; rw [if_pos (by omega)]; omega) | exact zero_bz (by unfold doR; rw [if_pos (by omega)]; omega)) (by unfold doM; rw [if_pos (by omega)]) dX6_does_62
  by_cases hc_3 : w = 98
  · skip
    refine r_lkp (off := 98) (tgt := 99) hx hb dX6_does_1 ⟨by omega, by omega⟩ (by decide) (show (if (97 : Int) = w then (43 : Int) else if (98 : Int) = w then (98 : Int) else if (100 : Int) = w then (62 : Int) else if (112 : Int) = w then (134 : Int) else (152 : Int)) = 98 by (repeat' split) <;> omega) (by decide) ?_
    have h7 := hO1 (by omega)
    have h8 := hO2 (by omega)
    refine lv_aload_n hx hb dX6_does_99 rfl (lv_at hl 0 rfl) ?_
    refine lv_aload_n hx hb dX6_does_100 rfl (lv_at hl 0 rfl) ?_
    refine gf_X6_137 hx hb hts hown G dX6_does_101 ?_
    refine lv_aload_n hx hb dX6_does_104 rfl (lv_at hl 0 rfl) ?_
    refine gf_X6_140 hx hb hts hown G dX6_does_105 ?_
    refine r_callVI ⟨hx, hb, hml, hown, hts⟩ G (k_X6_canComeBack l (k := σ 133 7) (y := σ 133 8) (σ := σ) (h7) (h8) (hG)) (kV_X6_canComeBack hts qM_X6_106 ⟨by decide, by decide⟩) (rc_X6 G) rfl rfl hl.1 rfl (Nat.le_of_ble_eq_true rfl) dX6_does_108 ⟨Nat.le_refl _, Nat.le_refl _⟩ (fun H locs G => ?_)
    refine r_zeq (tgt := 133) hx hb dX6_does_111 (by decide) (fun h_4 => ?_) (fun h_4 => ?_)
    · skip
      have hcb := h_4
      refine r_iconst hx hb dX6_does_133 ?_
      exact r_zret hx hb hr hlk G (Or.inl rfl) (by first | exact one_bz (by unfold doR; rw [if_neg (by omega), if_neg (by omega), if_pos (by omega)]; exact hcb) | exact zero_bz (by unfold doR; rw [if_neg (by omega), if_neg (by omega), if_pos (by omega)]; exact hcb)) (by unfold doM; rw [if_neg (by omega), if_neg (by omega), if_pos (by omega)]; first | rw [if_pos hcb] | rw [if_neg hcb]) dX6_does_134
    · skip
      have hcb := h_4
      refine lv_aload_n hx hb dX6_does_114 rfl (lv_at hl 0 rfl) ?_
      refine lv_aload_n hx hb dX6_does_115 rfl (lv_at hl 0 rfl) ?_
      refine gf_X6_137 hx hb hts hown G dX6_does_116 ?_
      refine lv_aload_n hx hb dX6_does_119 rfl (lv_at hl 0 rfl) ?_
      refine gf_X6_140 hx hb hts hown G dX6_does_120 ?_
      refine r_callVI ⟨hx, hb, hml, hown, hts⟩ G (k_X6_comesBack l (k := σ 133 7) (y := σ 133 8) (σ := σ) (h7) (h8) (hG)) (kV_X6_comesBack hts qM_X6_109 ⟨by decide, by decide⟩) (rc_X6 G) rfl rfl hl.1 rfl (Nat.le_of_ble_eq_true rfl) dX6_does_123 ⟨Nat.le_refl _, Nat.le_refl _⟩ (fun H locs G => ?_)
      have hky := hG.ky h7 h8
      have hNN := hG.1
      refine r_if_lt (tgt := 133) hx hb ⟨by omega, by omega⟩ dX6_does_126 (by decide) (fun h_5 => absurd h_5 (by omega)) (fun h_5 => ?_)
      refine r_iconst hx hb dX6_does_129 ?_
      refine lv_goto (tgt := 134) hx hb dX6_does_130 (by decide) ?_
      exact r_zret hx hb hr hlk G (Or.inr rfl) (by first | exact one_bz (by unfold doR; rw [if_neg (by omega), if_neg (by omega), if_pos (by omega)]; exact hcb) | exact zero_bz (by unfold doR; rw [if_neg (by omega), if_neg (by omega), if_pos (by omega)]; exact hcb)) (by unfold doM; rw [if_neg (by omega), if_neg (by omega), if_pos (by omega)]; first | rw [if_pos hcb] | rw [if_neg hcb]) dX6_does_134
  by_cases hc_6 : w = 100
  · skip
    refine r_lkp (off := 62) (tgt := 63) hx hb dX6_does_1 ⟨by omega, by omega⟩ (by decide) (show (if (97 : Int) = w then (43 : Int) else if (98 : Int) = w then (98 : Int) else if (100 : Int) = w then (62 : Int) else if (112 : Int) = w then (134 : Int) else (152 : Int)) = 62 by (repeat' split) <;> omega) (by decide) ?_
    have h7 := hO1 (by omega)
    have h8 := hO2 (by omega)
    refine lv_aload_n hx hb dX6_does_63 rfl (lv_at hl 0 rfl) ?_
    refine lv_aload_n hx hb dX6_does_64 rfl (lv_at hl 0 rfl) ?_
    refine gf_X6_137 hx hb hts hown G dX6_does_65 ?_
    refine lv_aload_n hx hb dX6_does_68 rfl (lv_at hl 0 rfl) ?_
    refine gf_X6_140 hx hb hts hown G dX6_does_69 ?_
    refine r_callVI ⟨hx, hb, hml, hown, hts⟩ G (k_X6_isAlive l (k := σ 133 7) (y := σ 133 8) (σ := σ) (h7) (h8) (hG)) (kV_X6_isAlive hts qM_X6_100 ⟨by decide, by decide⟩) (rc_X6 G) rfl rfl hl.1 rfl (Nat.le_of_ble_eq_true rfl) dX6_does_72 ⟨Nat.le_refl _, Nat.le_refl _⟩ (fun H locs G => ?_)
    refine r_zeq (tgt := 97) hx hb dX6_does_75 (by decide) (fun h_7 => ?_) (fun h_7 => ?_)
    · skip
      have hal := h_7
      refine r_iconst hx hb dX6_does_97 ?_
      exact r_zret hx hb hr hlk G (Or.inl rfl) (by first | exact one_bz (by unfold doR; rw [if_neg (by omega), if_pos (by omega)]; exact hal) | exact zero_bz (by unfold doR; rw [if_neg (by omega), if_pos (by omega)]; exact hal)) (by unfold doM; rw [if_neg (by omega), if_pos (by omega)]; first | rw [if_pos hal] | rw [if_neg hal]) dX6_does_98
    · skip
      have hal := h_7
      refine lv_aload_n hx hb dX6_does_78 rfl (lv_at hl 0 rfl) ?_
      refine lv_aload_n hx hb dX6_does_79 rfl (lv_at hl 0 rfl) ?_
      refine gf_X6_137 hx hb hts hown G dX6_does_80 ?_
      refine lv_aload_n hx hb dX6_does_83 rfl (lv_at hl 0 rfl) ?_
      refine gf_X6_140 hx hb hts hown G dX6_does_84 ?_
      refine r_callVI ⟨hx, hb, hml, hown, hts⟩ G (k_X6_deletes l (k := σ 133 7) (y := σ 133 8) (σ := σ) (h7) (h8) (hal) (hG)) (kV_X6_deletes hts qM_X6_103 ⟨by decide, by decide⟩) (rc_X6 G) rfl rfl hl.1 rfl (Nat.le_of_ble_eq_true rfl) dX6_does_87 ⟨Nat.le_refl _, Nat.le_refl _⟩ (fun H locs G => ?_)
      have hbz := bz_rg (P := mX σ 0 1 ≤ mR σ 0 (σ 133 7) (σ 133 8))
      refine r_if_lt (tgt := 97) hx hb ⟨by omega, by omega⟩ dX6_does_90 (by decide) (fun h_8 => absurd h_8 (by omega)) (fun h_8 => ?_)
      refine r_iconst hx hb dX6_does_93 ?_
      refine lv_goto (tgt := 98) hx hb dX6_does_94 (by decide) ?_
      exact r_zret hx hb hr hlk G (Or.inr rfl) (by first | exact one_bz (by unfold doR; rw [if_neg (by omega), if_pos (by omega)]; exact hal) | exact zero_bz (by unfold doR; rw [if_neg (by omega), if_pos (by omega)]; exact hal)) (by unfold doM; rw [if_neg (by omega), if_pos (by omega)]; first | rw [if_pos hal] | rw [if_neg hal]) dX6_does_98
  by_cases hc_9 : w = 112
  · skip
    refine r_lkp (off := 134) (tgt := 135) hx hb dX6_does_1 ⟨by omega, by omega⟩ (by decide) (show (if (97 : Int) = w then (43 : Int) else if (98 : Int) = w then (98 : Int) else if (100 : Int) = w then (62 : Int) else if (112 : Int) = w then (134 : Int) else (152 : Int)) = 134 by (repeat' split) <;> omega) (by decide) ?_
    have h7 := hO1 (by omega)
    have hmt := mtuR_rg hG h7
    refine lv_aload_n hx hb dX6_does_135 rfl (lv_at hl 0 rfl) ?_
    refine lv_aload_n hx hb dX6_does_136 rfl (lv_at hl 0 rfl) ?_
    refine gf_X6_137 hx hb hts hown G dX6_does_137 ?_
    refine r_callVI ⟨hx, hb, hml, hown, hts⟩ G (k_X6_turns l (k := σ 133 7) (σ := σ) (h7) (hG)) (kV_X6_turns hts qM_X6_112 ⟨by decide, by decide⟩) (rc_X6 G) rfl rfl hl.1 rfl (Nat.le_of_ble_eq_true rfl) dX6_does_140 ⟨Nat.le_refl _, Nat.le_refl _⟩ (fun H locs G => ?_)
    refine r_iconst hx hb dX6_does_143 ?_
    refine r_icmp_lt (tgt := 151) hx hb ⟨by omega, by omega⟩ ⟨by decide, by decide⟩ dX6_does_144 (by decide) (fun h_10 => absurd h_10 (by omega)) (fun h_10 => ?_)
    refine r_iconst hx hb dX6_does_147 ?_
    refine lv_goto (tgt := 152) hx hb dX6_does_148 (by decide) ?_
    exact r_zret hx hb hr hlk G (Or.inr rfl) (by exact one_bz (by unfold doR; rw [if_neg (by omega), if_neg (by omega), if_neg (by omega), if_pos (by omega)]; trivial)) (by unfold doM; rw [if_neg (by omega), if_neg (by omega), if_neg (by omega), if_pos (by omega)]) dX6_does_152
  refine r_lkp (off := 152) (tgt := 153) hx hb dX6_does_1 ⟨by omega, by omega⟩ (by decide) (show (if (97 : Int) = w then (43 : Int) else if (98 : Int) = w then (98 : Int) else if (100 : Int) = w then (62 : Int) else if (112 : Int) = w then (134 : Int) else (152 : Int)) = 152 by (repeat' split) <;> omega) (by decide) ?_
  have h7 := hO3 (by omega)
  have hdd : 0 ≤ σ 134 3 ∧ σ 134 3 ≤ 9999 := hG.d
  refine lv_aload_n hx hb dX6_does_153 rfl (lv_at hl 0 rfl) ?_
  refine gf_X6_7 hx hb hts hown G dX6_does_154 ?_
  refine r_iconst hx hb dX6_does_157 ?_
  refine r_iald hx hb G 134 (by decide) (N := 2910) (fun _ => rfl) (by omega) (by omega) (by decide) dX6_does_158 ?_
  refine r_sipush hx hb dX6_does_159 (by decide +kernel) ?_
  refine lv_aload_n hx hb dX6_does_162 rfl (lv_at hl 0 rfl) ?_
  refine gf_X6_137 hx hb hts hown G dX6_does_163 ?_
  refine r_isub hx hb dX6_does_166 ?_
  refine r_icmp_gt (tgt := 185) hx hb ⟨by omega, by omega⟩ ⟨by omega, by omega⟩ dX6_does_167 (by decide) (fun h_11 => ?_) (fun h_11 => ?_)
  · skip
    refine r_iconst hx hb dX6_does_185 ?_
    exact r_zret hx hb hr hlk G (Or.inl rfl) (by first | exact one_bz (by unfold doR; rw [if_neg (by omega), if_neg (by omega), if_neg (by omega), if_neg (by omega)]; omega) | exact zero_bz (by unfold doR; rw [if_neg (by omega), if_neg (by omega), if_neg (by omega), if_neg (by omega)]; omega)) (by unfold doM; rw [if_neg (by omega), if_neg (by omega), if_neg (by omega), if_neg (by omega)]; first | rw [if_pos (by omega)] | rw [if_neg (by omega)]) dX6_does_186
  · skip
    refine lv_aload_n hx hb dX6_does_170 rfl (lv_at hl 0 rfl) ?_
    refine lv_aload_n hx hb dX6_does_171 rfl (lv_at hl 0 rfl) ?_
    refine gf_X6_137 hx hb hts hown G dX6_does_172 ?_
    refine r_callVI ⟨hx, hb, hml, hown, hts⟩ G (k_X6_passes l (d := σ 133 7) (σ := σ) (by omega) (by omega) (hG)) (kV_X6_passes hts qM_X6_121 ⟨by decide, by decide⟩) (rc_X6 G) rfl rfl hl.1 rfl (Nat.le_of_ble_eq_true rfl) dX6_does_175 ⟨Nat.le_refl _, Nat.le_refl _⟩ (fun H locs G => ?_)
    have hkn := kin_rg (σ := mpa σ (σ 133 7)) (kd := -1) (w := 4)
    refine r_if_lt (tgt := 185) hx hb ⟨by omega, by omega⟩ dX6_does_178 (by decide) (fun h_12 => absurd h_12 (by omega)) (fun h_12 => ?_)
    refine r_iconst hx hb dX6_does_181 ?_
    refine lv_goto (tgt := 186) hx hb dX6_does_182 (by decide) ?_
    exact r_zret hx hb hr hlk G (Or.inr rfl) (by first | exact one_bz (by unfold doR; rw [if_neg (by omega), if_neg (by omega), if_neg (by omega), if_neg (by omega)]; omega) | exact zero_bz (by unfold doR; rw [if_neg (by omega), if_neg (by omega), if_neg (by omega), if_neg (by omega)]; omega)) (by unfold doM; rw [if_neg (by omega), if_neg (by omega), if_neg (by omega), if_neg (by omega)]; first | rw [if_pos (by omega)] | rw [if_neg (by omega)]) dX6_does_186
/-- the same place in the same text -/
def TQ (τ μ : Mem) : Prop := τ 133 5 = μ 133 5 ∧ τ 133 6 = μ 133 6 ∧ ∀ j, τ 136 j = μ 136 j
theorem TQ_sg {τ μ : Mem} (h : TQ τ μ) (lo hi : Int) : sg τ lo hi ↔ sg μ lo hi := by
  have e : ct τ (τ 133 6) = ct μ (μ 133 6) := by unfold ct; rw [h.1, h.2.1, h.2.2]
  show (lo ≤ ct τ (τ 133 6) ∧ ct τ (τ 133 6) ≤ hi) ↔ _
  rw [e]
theorem TQ_adv {τ μ : Mem} (h : TQ τ μ) : TQ (adv τ) (adv μ) := ⟨by rw [adv5, adv5]; exact h.1, by rw [adv6, adv6, h.2.1], fun j => by rw [adv136, adv136]; exact h.2.2 j⟩
theorem TQ_bz {τ μ : Mem} (h : TQ τ μ) (lo hi : Int) : bz (sg τ lo hi) = bz (sg μ lo hi) := by
  have e := TQ_sg h lo hi
  by_cases q : sg τ lo hi
  · rw [bz_t q, bz_t (e.mp q)]
  · rw [bz_f q, bz_f (fun r => q (e.mpr r))]
theorem TQ_tkn {τ μ : Mem} (h : TQ τ μ) : TQ (tknM τ) (tknM μ) := ⟨by rw [tkn5, tkn5]; exact h.1, by rw [tkn6, tkn6]; have := h.2.1; have := TQ_bz h 48 51; omega, fun j => by rw [tkn136, tkn136]; exact h.2.2 j⟩
theorem TQ_tky2 {τ μ : Mem} (h : TQ τ μ) : TQ (tky2 τ) (tky2 μ) := ⟨by rw [tky2_5, tky2_5]; exact h.1, by rw [tky2_6, tky2_6, h.2.1], fun j => by rw [tky2_136, tky2_136]; exact h.2.2 j⟩
theorem TQ_tdy1 {τ μ : Mem} (h : TQ τ μ) : TQ (tdy1 τ) (tdy1 μ) := ⟨by rw [tdy1_5, tdy1_5]; exact h.1, by rw [tdy1_6, tdy1_6, h.2.1], fun j => by rw [tdy1_136, tdy1_136]; exact h.2.2 j⟩
theorem TQ_ol {τ μ : Mem} (h : TQ τ μ) : ol τ = ol μ := by unfold ol; rw [h.1, h.2.1, h.2.2]
theorem TQ_tky {τ μ : Mem} (h : TQ τ μ) : TQ (tkyM τ) (tkyM μ) := by
  have e1 := TQ_sg h 46 46
  have e2 := TQ_sg (TQ_adv h) 48 57
  have e3 := TQ_sg (TQ_tky2 h) 48 53
  have e4 : τ 136 (τ 133 6 + 1) = μ 136 (μ 133 6 + 1) := by rw [h.2.1, h.2.2]
  unfold tkyM
  by_cases q1 : sg τ 46 46
  · rw [if_pos q1, if_pos (e1.mp q1)]
    by_cases q2 : sg (adv τ) 48 57
    · rw [if_pos q2, if_pos (e2.mp q2)]
      by_cases q3 : τ 136 (τ 133 6 + 1) - 48 = 1 ∧ sg (tky2 τ) 48 53
      · have q4 : μ 136 (μ 133 6 + 1) - 48 = 1 ∧ sg (tky2 μ) 48 53 := ⟨by rw [← e4]; exact q3.1, e3.mp q3.2⟩
        rw [if_pos q3, if_pos q4]
        have g := TQ_tky2 h
        exact TQ_adv ⟨by rw [up_ap, up_ap, if_neg (by omega), if_neg (by omega)]; exact g.1, by rw [up_ap, up_ap, if_neg (by omega), if_neg (by omega)]; exact g.2.1, fun j => by rw [up_ap, up_ap, if_neg (by omega), if_neg (by omega)]; exact g.2.2 j⟩
      · have q4 : ¬ (μ 136 (μ 133 6 + 1) - 48 = 1 ∧ sg (tky2 μ) 48 53) := fun r => q3 ⟨by rw [e4]; exact r.1, e3.mpr r.2⟩
        rw [if_neg q3, if_neg q4]; exact TQ_tky2 h
    · rw [if_neg q2, if_neg (fun r => q2 (e2.mpr r))]; exact TQ_adv h
  · rw [if_neg q1, if_neg (fun r => q1 (e1.mpr r))]; exact h
theorem TQ_tdy {τ μ : Mem} (h : TQ τ μ) : TQ (tdyM τ) (tdyM μ) := by
  have e1 := TQ_sg h 49 57
  have e2 := TQ_sg (TQ_tdy1 h) 48 57
  unfold tdyM
  by_cases q1 : sg τ 49 57
  · rw [if_pos q1, if_pos (e1.mp q1)]
    by_cases q2 : sg (tdy1 τ) 48 57
    · rw [if_pos q2, if_pos (e2.mp q2)]
      have g := TQ_tdy1 h
      exact TQ_adv ⟨by rw [up_ap, up_ap, if_neg (by omega), if_neg (by omega)]; exact g.1, by rw [up_ap, up_ap, if_neg (by omega), if_neg (by omega)]; exact g.2.1, fun j => by rw [up_ap, up_ap, if_neg (by omega), if_neg (by omega)]; exact g.2.2 j⟩
    · rw [if_neg q2, if_neg (fun r => q2 (e2.mpr r))]; exact TQ_tdy1 h
  · rw [if_neg q1, if_neg (fun r => q1 (e1.mpr r))]; exact h
theorem TQ_ok {τ μ : Mem} (h : TQ τ μ) : oOk τ ↔ oOk μ := by
  have e0 := TQ_ol h
  have e1 := TQ_sg (TQ_adv h) 49 57
  have e2 := TQ_sg (TQ_adv h) 48 51
  have e3 := TQ_sg (TQ_tkn (TQ_adv h)) 46 46
  have e4 := TQ_sg (TQ_adv (TQ_tkn (TQ_adv h))) 48 57
  unfold oOk
  rw [e0]
  by_cases q : ol μ = 116
  · rw [if_pos q, if_pos q]; exact e1
  · rw [if_neg q, if_neg q]
    exact ⟨fun r => ⟨e2.mp r.1, fun w => ⟨e3.mp (r.2 w).1, e4.mp (r.2 w).2⟩⟩, fun r => ⟨e2.mpr r.1, fun w => ⟨e3.mpr (r.2 w).1, e4.mpr (r.2 w).2⟩⟩⟩
theorem TQ_ordR {τ μ : Mem} (h : TQ τ μ) : ordR τ = ordR μ := by
  have e0 := TQ_ol h
  have e1 := TQ_ok h
  unfold ordR
  by_cases q : isL (ol μ) ∧ oOk μ
  · have q2 : isL (ol τ) ∧ oOk τ := ⟨by rw [e0]; exact q.1, e1.mpr q.2⟩
    rw [if_pos q, if_pos q2]; exact e0
  · have q2 : ¬ (isL (ol τ) ∧ oOk τ) := fun r => q ⟨by rw [← e0]; exact r.1, e1.mp r.2⟩
    rw [if_neg q, if_neg q2]
theorem TQ_ordM {τ μ : Mem} (h : TQ τ μ) : TQ (ordM τ) (ordM μ) := by
  have e0 := TQ_ol h
  have e2 := TQ_sg (TQ_adv h) 48 51
  unfold ordM
  rw [e0]
  by_cases q1 : isL (ol μ)
  · rw [if_pos q1, if_pos q1]
    by_cases q2 : ol μ = 116
    · rw [if_pos q2, if_pos q2]; exact TQ_tdy (TQ_adv h)
    · rw [if_neg q2, if_neg q2]
      by_cases q3 : sg (adv μ) 48 51 ∧ isP2 (ol μ)
      · have q4 : sg (adv τ) 48 51 ∧ isP2 (ol μ) := ⟨e2.mpr q3.1, q3.2⟩
        rw [if_pos q3, if_pos q4]; exact TQ_tky (TQ_tkn (TQ_adv h))
      · have q4 : ¬ (sg (adv τ) 48 51 ∧ isP2 (ol μ)) := fun r => q3 ⟨e2.mp r.1, r.2⟩
        rw [if_neg q3, if_neg q4]; exact TQ_tkn (TQ_adv h)
  · rw [if_neg q1, if_neg q1]; exact h
theorem tky_v {τ : Mem} (h : tkyP τ) : 0 ≤ tkyM τ 133 8 ∧ tkyM τ 133 8 < 16 := by
  have g1 := sg_lt h.1 (by omega)
  have g2 := sg_lt h.2 (by omega)
  rw [adv6, adv5, adv136] at g2
  unfold tkyM
  rw [if_pos h.1, if_pos h.2]
  split
  · rename_i q
    have g3 := sg_lt q.2 (by omega)
    rw [tky2_6, tky2_5, tky2_136] at g3
    have e : adv (up (tky2 τ) 133 8 (10 + τ 136 (τ 133 6 + 2) - 48)) 133 8 = 10 + τ 136 (τ 133 6 + 2) - 48 := by simp [adv, up_ap]
    rw [e]; omega
  · rw [tky2_8]; omega
theorem tky_7 {τ : Mem} : tkyM τ 133 7 = τ 133 7 := by
  have ea : ∀ μ : Mem, adv μ 133 7 = μ 133 7 := fun μ => by unfold adv; rw [up_ap, if_neg (by omega)]
  have eu : ∀ (μ : Mem) (v : Int), up μ 133 8 v 133 7 = μ 133 7 := fun μ v => by rw [up_ap, if_neg (by omega)]
  unfold tkyM tky2
  (repeat' split) <;> simp only [ea, eu]
theorem tkn_7 {τ : Mem} (h : sg τ 48 51) : 0 ≤ tknM τ 133 7 ∧ tknM τ 133 7 < 4 := by
  have g1 := sg_lt h (by omega)
  unfold tknM
  rw [up_ap, if_neg (by omega), up_ap, if_pos ⟨rfl, rfl⟩, if_pos h]
  omega
theorem tdy_7 {τ : Mem} (h : sg τ 49 57) : 1 ≤ tdyM τ 133 7 ∧ tdyM τ 133 7 ≤ 99 := by
  have g1 := sg_lt h (by omega)
  unfold tdyM
  rw [if_pos h]
  split
  · rename_i q
    have g2 := sg_lt q (by omega)
    rw [tdy1_6, tdy1_5, tdy1_136] at g2
    have e : adv (up (tdy1 τ) 133 7 (10 * (τ 136 (τ 133 6) - 48) + τ 136 (τ 133 6 + 1) - 48)) 133 7 = 10 * (τ 136 (τ 133 6) - 48) + τ 136 (τ 133 6 + 1) - 48 := by simp [adv, up_ap]
    rw [e]; omega
  · rw [tdy1_7]; omega
theorem ord_ov {τ : Mem} (h : ordR τ ≠ 32) : OV (ordM τ) (ordR τ) := by
  have q : isL (ol τ) ∧ oOk τ := by
    by_cases q : isL (ol τ) ∧ oOk τ
    · exact q
    · exact absurd (if_neg q) h
  have e : ordR τ = ol τ := if_pos q
  rw [e]
  refine ⟨q.1, fun h1 => ?_, fun h1 => ?_, fun h1 => ?_⟩
  · have h2 := (oOk_k h1).mp q.2
    by_cases h3 : isP2 (ol τ)
    · rw [ordM_2 q.1 h1 h2.1 h3, tky_7]; exact tkn_7 h2.1
    · rw [ordM_1 q.1 h1 h3]; exact tkn_7 h2.1
  · have h4 : ¬ ol τ = 116 := by omega
    have h2 := (oOk_k h4).mp q.2
    rw [ordM_2 q.1 h4 h2.1 h1]; exact tky_v (h2.2 h1)
  · rw [ordM_d q.1 h1]; exact tdy_7 ((oOk_d h1).mp q.2)
/-- orders done, one after the other: the state, how many, whether the last was done -/
def rnF (_ : Int) (v : Mem × Int × Int) : Mem × Int × Int := if v.2.2 = 0 ∨ ¬ v.1 133 6 < v.1 133 5 then v else (adv (doM (ordM v.1) (ordR v.1)), v.2.1 + bz (doR (ordM v.1) (ordR v.1)), bz (doR (ordM v.1) (ordR v.1)))
def rnI (σ : Mem) (i : Int) : Mem × Int × Int := it rnF (up (goM (erM σ)) 133 6 0, 0, 1) i
theorem rnI_s {σ : Mem} {i : Int} (h : 0 ≤ i) : rnI σ (i + 1) = rnF i (rnI σ i) := it_s (f := rnF) h
theorem rn_stay {σ : Mem} {i n : Int} (h0 : 0 ≤ i) (hn : i ≤ n) (h : (rnI σ i).2.2 = 0 ∨ ¬ (rnI σ i).1 133 6 < (rnI σ i).1 133 5) : rnI σ n = rnI σ i := by
  obtain ⟨d, rfl⟩ : ∃ d : Nat, n = i + d := ⟨(n - i).toNat, by omega⟩
  clear hn
  induction d with
  | zero => rw [show i + ((0 : Nat) : Int) = i by omega]
  | succ d ih =>
    rw [show i + ((d + 1 : Nat) : Int) = (i + d) + 1 by omega, rnI_s (by omega), ih]
    unfold rnF; rw [if_pos h]
/-- along the errors' walk -/
def RL2 (σ τ : Mem) (i : Int) : Prop := τ 133 6 < τ 133 5 → ∃ μ : Mem, (μ, 0) = erI σ i ∧ TQ τ μ
theorem rl_ok {σ τ : Mem} {i : Int} (h0 : 0 ≤ i) (hi : i ≤ 60) (hE : erR σ < 0) (hX : IX σ) (hL : RL2 σ τ i) (hlt : τ 133 6 < τ 133 5) : ordR τ ≠ 32 := by
  obtain ⟨μ, h1, h2⟩ := hL hlt
  intro h
  rw [TQ_ordR h2] at h
  have h3 := er_end h0 hi h1 (erF_x h) (show (2 : Int) ≠ 0 by decide)
  have h4 := er_6 hX (i := 61) (by decide)
  unfold erR at hE
  rw [h3] at hE h4
  rw [if_neg (show ¬ (2 : Int) = 1 by decide)] at hE
  exact absurd hE (by omega)
theorem rl_next {σ τ τ' : Mem} {i : Int} (h0 : 0 ≤ i) (hi : i ≤ 60) (hE : erR σ < 0) (hX : IX σ) (hL : RL2 σ τ i) (hlt : τ 133 6 < τ 133 5) (hT : TQ τ' (adv (ordM τ))) : RL2 σ τ' (i + 1) := by
  intro hlt2
  have ho := rl_ok h0 hi hE hX hL hlt
  obtain ⟨μ, h1, h2⟩ := hL hlt
  have h3 := TQ_ordM h2
  rw [TQ_ordR h2] at ho
  have h4 := er_6 hX (i := 61) (by decide)
  have g1 := hT.1
  have g2 := hT.2.1
  rw [adv5] at g1
  rw [adv6] at g2
  have hne : ¬ ordM μ 133 6 = ordM μ 133 5 := by rw [← h3.1, ← h3.2.1]; omega
  by_cases h59 : ordM μ 136 (ordM μ 133 6) = 59
  · refine ⟨adv (ordM μ), by rw [erI_s h0, ← h1]; exact (erF_g ho hne h59).symm, ?_⟩
    have h5 := TQ_adv h3
    exact ⟨hT.1.trans h5.1, hT.2.1.trans h5.2.1, fun j => (hT.2.2 j).trans (h5.2.2 j)⟩
  · exfalso
    have h5 := er_end h0 hi h1 (erF_n ho hne h59) (show (2 : Int) ≠ 0 by decide)
    unfold erR at hE
    rw [h5] at hE h4
    rw [if_neg (show ¬ (2 : Int) = 1 by decide)] at hE
    exact absurd hE (by omega)
theorem doM_o {μ : Mem} {l : Int} {c : Nat} {j : Int} (h : c ≠ 134) : doM μ l c j = μ c j := by
  have eu : ∀ (ν : Mem) (i v : Int), up ν 134 i v c j = ν c j := fun ν i v => by rw [up_ap, if_neg (by omega)]
  have es : ∀ (ν : Mem) (a b d : Int), shl ν a b d c j = ν c j := fun ν a b d => by unfold shl; rw [if_neg (fun q => h q.1)]
  have er : ∀ (ν : Mem) (a b d : Int), shr ν a b d c j = ν c j := fun ν a b d => by unfold shr; rw [if_neg (fun q => h q.1)]
  have ev : ∀ (ν : Mem) (a b d : Int), rvs ν a b d c j = ν c j := fun ν a b d => by unfold rvs; rw [if_neg (fun q => h q.1)]
  unfold doM masM mgiv mgv0 mtak mwo mdl mdl1 mdl0 mbk mtak mtu mpa
  (repeat' split) <;> simp only [eu, es, er, ev]
theorem RL2_0 {σ τ : Mem} (hT : TQ τ (up σ 133 6 0)) : RL2 σ τ 0 := fun _ => ⟨up σ 133 6 0, rfl, hT⟩
theorem goM_o {σ : Mem} {c : Nat} {j : Int} (h : c ≠ 134) (h1 : c ≠ 133 ∨ (j ≠ 1 ∧ j ≠ 3)) : goM σ c j = σ c j := by
  unfold goM; rw [svM_o h (by omega), up_ap, if_neg (by omega)]
theorem erM_o {σ : Mem} {c : Nat} {j : Int} (h : c ≠ 133 ∨ (j ≠ 6 ∧ j ≠ 7 ∧ j ≠ 8)) : erM σ c j = σ c j := er_o (by decide) h
set_option maxRecDepth 100000 in
set_option maxHeartbeats 4000000 in
theorem k_X6_run (l : Launch) {σ : Mem} {N : Int} (hX : IX σ) (hs : 0 ≤ σ 133 1 ∧ σ 133 1 ≤ 6) (hN : 0 ≤ N ∧ N ≤ 100) (hG : SG σ 0 N) : CtI l yX6_run (Cond.code yX6_run cX6_run 3 (some .int)) 7 164 (fun z => [.ref (z + 133)]) σ (if erR σ < 0 then (rnI σ 61).2.1 else 0) (if erR σ < 0 then up (rnI σ 61).1 133 5 0 else up (erM σ) 133 3 1) := by
  intro D T z
  refine Ct_of (by decide) (Nat.le_of_ble_eq_true rfl) ?_
  intro p e s m below meth c ls hx hb hml hr hts hown hlk G hl
  have hown : s.vm.findClass RX6 = some m.cls := hown
  have hl : lv_has ls 3 [(0, .ref (z + 133))] := hl
  have hrr := erR_rg hX
  have hs2 : 0 ≤ (up (erM σ) 133 3 0) 133 1 ∧ (up (erM σ) 133 3 0) 133 1 ≤ 6 := by rw [up_ap, if_neg (by omega), erM_o (by omega)]; exact hs
  have hx0 := hX.1
  refine lv_aload_n hx hb dX6_run_0 rfl (lv_at hl 0 rfl) ?_
  refine lv_aload_n hx hb dX6_run_1 rfl (lv_at hl 0 rfl) ?_
  refine r_callVI ⟨hx, hb, hml, hown, hts⟩ G (k_X6_error l (σ := σ) (hX)) (kV_X6_error hts qM_X6_157 ⟨by decide, by decide⟩) (rc_X6 G) rfl rfl hl.1 rfl (Nat.le_of_ble_eq_true rfl) dX6_run_2 ⟨Nat.le_refl _, Nat.le_refl _⟩ (fun H locs G => ?_)
  refine r_if_ge (tgt := 12) hx hb ⟨by omega, by omega⟩ dX6_run_5 (by decide) (fun h_1 => ?_) (fun h_1 => ?_)
  · skip
    refine r_iconst hx hb dX6_run_12 ?_
    refine r_top (b := bz (erR σ < 0)) (by first | exact one_bz (by omega) | exact zero_bz (by omega)) ?_
    skip
    refine r_iconst hx hb dX6_run_13 ?_
    refine r_callVI ⟨hx, hb, hml, hown, hts⟩ G (k_X6_goes l (P := erR σ < 0) (Q := True) (σ := erM σ) ) (kV_X6_goes hts qM_X6_83 ⟨by decide, by decide⟩) (rc_X6 G) rfl rfl hl.1 rfl (Nat.le_of_ble_eq_true rfl) dX6_run_14 ⟨Nat.le_refl _, Nat.le_refl _⟩ (fun H locs G => ?_)
    refine r_zne (tgt := 22) hx hb dX6_run_17 (by decide) (fun h_2 => ?_) (fun h_2 => ?_)
    · skip
      have hP := (h_2).1
      have G := G.cong (τ := up (erM σ) 133 3 0) (by rw [if_pos hP, if_pos trivial])
      refine lv_aload_n hx hb dX6_run_22 rfl (lv_at hl 0 rfl) ?_
      refine r_callVV ⟨hx, hb, hml, hown, hts⟩ G (k_X6_saves l (σ := up (erM σ) 133 3 0) (hs2)) (kV_X6_saves hts qM_X6_87 ⟨by decide, by decide⟩) (rc_X6 G) rfl rfl hl.1 rfl (Nat.le_of_ble_eq_true rfl) dX6_run_23 ⟨Nat.le_refl _, Nat.le_refl _⟩ (fun H locs G => ?_)
      have G := G.cong (τ := goM (erM σ)) (rfl)
      refine lv_aload_n hx hb dX6_run_26 rfl (lv_at hl 0 rfl) ?_
      refine r_iconst hx hb dX6_run_27 ?_
      refine pf_X6_130 hx hb hts hown G dX6_run_28 (fun H locs G => ?_)
      refine r_iconst hx hb dX6_run_31 ?_
      refine lv_istore_n (lv' := [(1, .int (kI 0)), (0, .ref (z + 133))]) hx hb dX6_run_32 rfl hl (by decide) rfl (fun ls hl => ?_)
      refine r_iconst hx hb dX6_run_33 ?_
      refine lv_istore_n (lv' := [(2, .int (kI 1)), (1, .int (kI 0)), (0, .ref (z + 133))]) hx hb dX6_run_34 rfl hl (by decide) rfl (fun ls hl => ?_)
      have lp35 : ∀ (d : Nat) (v : Int) (dn : Int) (i : Int) (τ : Mem), (0 ≤ i) → (i ≤ τ 133 6) → (0 ≤ τ 133 6 ∧ τ 133 6 ≤ τ 133 5 + 1 ∧ τ 133 5 ≤ 60) → (dn = 0 ∨ dn = 1) → (IX τ) → (SG τ 0 (N + i)) → (RL2 σ τ i) → ((τ, v, dn) = rnI σ i) → (62 - i : Int) < (d : Int) → ∀ (H : Heap) (locs : List Loc), Wd D T z 139 τ s H locs → ∀ (ls : Array Slot), lv_has ls 3 [(0, .ref (z + 133)), (1, .int (kI v)), (2, .int (kI dn))] → W p l e (rmN 7 164) s m ([.ref (z + 133)] : List Value).toArray below meth c H locs 0 0 (MQ below (QI D T z 139 (if erR σ < 0 then (rnI σ 61).2.1 else 0) (if erR σ < 0 then up (rnI σ 61).1 133 5 0 else up (erM σ) 133 3 1)) ([.ref (z + 133)] : List Value).toArray s 0 0 (Own z)) (F0 m 35 ls []) := by
        intro d
        induction d with
        | zero => intro v dn i τ h0 hi ht hd0 hX2 hS hL hv hd; exact absurd hd (by omega)
        | succ d ih35 =>
          intro v dn i τ h0 hi ht hd0 hX2 hS hL hv hd H locs G ls hl
          refine lv_aload_n hx hb dX6_run_35 rfl (lv_at hl 0 rfl) ?_
          refine gf_X6_130 hx hb hts hown G dX6_run_36 ?_
          refine lv_aload_n hx hb dX6_run_39 rfl (lv_at hl 0 rfl) ?_
          refine gf_X6_127 hx hb hts hown G dX6_run_40 ?_
          refine r_icmp_ge (tgt := 84) hx hb ⟨by omega, by omega⟩ ⟨by omega, by omega⟩ dX6_run_43 (by decide) (fun h_3 => ?_) (fun h_3 => ?_)
          · skip
            have hend := rn_stay h0 (n := 61) (by omega) (by rw [← hv]; right; show ¬ τ 133 6 < τ 133 5; omega)
            refine lv_aload_n hx hb dX6_run_84 rfl (lv_at hl 0 rfl) ?_
            refine r_iconst hx hb dX6_run_85 ?_
            refine pf_X6_127 hx hb hts hown G dX6_run_86 (fun H locs G => ?_)
            refine lv_iload_n hx hb dX6_run_89 rfl (lv_at hl 1 rfl) ?_
            exact r_iret hx hb hr hlk G (by rw [if_pos hP, hend, ← hv]) (by rw [if_pos hP, hend, ← hv]) dX6_run_90
          · skip
            have hlt : τ 133 6 < τ 133 5 := by omega
            refine lv_iload_n hx hb dX6_run_46 rfl (lv_at hl 2 rfl) ?_
            refine r_if_eq (tgt := 84) hx hb ⟨by omega, by omega⟩ dX6_run_47 (by decide) (fun h_4 => ?_) (fun h_4 => ?_)
            · skip
              have hend := rn_stay h0 (n := 61) (by omega) (by rw [← hv]; left; exact h_4)
              refine lv_aload_n hx hb dX6_run_84 rfl (lv_at hl 0 rfl) ?_
              refine r_iconst hx hb dX6_run_85 ?_
              refine pf_X6_127 hx hb hts hown G dX6_run_86 (fun H locs G => ?_)
              refine lv_iload_n hx hb dX6_run_89 rfl (lv_at hl 1 rfl) ?_
              exact r_iret hx hb hr hlk G (by rw [if_pos hP, hend, ← hv]) (by rw [if_pos hP, hend, ← hv]) dX6_run_90
            · skip
              have hdn : ¬ dn = 0 := h_4
              have hok := rl_ok h0 (by omega) hP hX hL hlt
              have hov := ord_ov hok
              have h6 := ordM_6 (σ := τ) (by omega)
              have h5 : ordM τ 133 5 = τ 133 5 := ordM_o (by omega)
              have hdo6 : doM (ordM τ) (ordR τ) 133 6 = ordM τ 133 6 := doM_o (by omega)
              have hdo5 : doM (ordM τ) (ordR τ) 133 5 = ordM τ 133 5 := doM_o (by omega)
              have hdoX : ∀ j, doM (ordM τ) (ordR τ) 136 j = τ 136 j := fun j => by rw [doM_o (by omega), ordM_o (by omega)]
              have hTq : TQ (adv (doM (ordM τ) (ordR τ))) (adv (ordM τ)) := ⟨by rw [adv5, adv5]; exact hdo5, by rw [adv6, adv6, hdo6], fun j => by rw [adv136, adv136, hdoX, ordM_o (by omega)]⟩
              have hnx : (adv (doM (ordM τ) (ordR τ)), v + bz (doR (ordM τ) (ordR τ)), bz (doR (ordM τ) (ordR τ))) = rnI σ (i + 1) := by rw [rnI_s h0, ← hv]; unfold rnF; exact (if_neg (by intro q; rcases q with q | q; exact hdn q; exact q hlt)).symm
              refine lv_aload_n hx hb dX6_run_50 rfl (lv_at hl 0 rfl) ?_
              refine lv_aload_n hx hb dX6_run_51 rfl (lv_at hl 0 rfl) ?_
              refine r_callVI ⟨hx, hb, hml, hown, hts⟩ G (k_X6_order l (σ := τ) (by omega) (hX2)) (kV_X6_order hts qM_X6_153 ⟨by decide, by decide⟩) (rc_X6 G) rfl rfl hl.1 rfl (Nat.le_of_ble_eq_true rfl) dX6_run_52 ⟨Nat.le_refl _, Nat.le_refl _⟩ (fun H locs G => ?_)
              refine r_callVI ⟨hx, hb, hml, hown, hts⟩ G (k_X6_does l (w := ordR τ) (σ := ordM τ) (hov) (hS.m (fun j _ _ => ordM_o (by omega)))) (kV_X6_does hts qM_X6_161 ⟨by decide, by decide⟩) (rc_X6 G) rfl rfl hl.1 rfl (Nat.le_of_ble_eq_true rfl) dX6_run_55 ⟨Nat.le_refl _, Nat.le_refl _⟩ (fun H locs G => ?_)
              refine lv_istore_n (lv' := [(2, .int (kI (bz (doR (ordM τ) (ordR τ))))), (0, .ref (z + 133)), (1, .int (kI v))]) hx hb dX6_run_58 rfl hl (by decide) rfl (fun ls hl => ?_)
              refine lv_iload_n hx hb dX6_run_59 rfl (lv_at hl 2 rfl) ?_
              refine lv_iload_n hx hb dX6_run_60 rfl (lv_at hl 0 rfl) ?_
              refine r_zeq (tgt := 68) hx hb dX6_run_61 (by decide) (fun h_5 => ?_) (fun h_5 => ?_)
              · skip
                have hdr := h_5
                refine r_iconst hx hb dX6_run_68 ?_
                refine r_top (b := bz (doR (ordM τ) (ordR τ))) (by first | exact one_bz hdr | exact zero_bz hdr) ?_
                skip
                refine r_iadd hx hb dX6_run_69 ?_
                refine lv_istore_n (lv' := [(1, .int (kI (v + bz (doR (ordM τ) (ordR τ))))), (2, .int (kI (bz (doR (ordM τ) (ordR τ))))), (0, .ref (z + 133))]) hx hb dX6_run_70 rfl hl (by decide) rfl (fun ls hl => ?_)
                refine lv_aload_n hx hb dX6_run_71 rfl (lv_at hl 2 rfl) ?_
                refine lv_dup hx hb dX6_run_72 rfl ?_
                refine gf_X6_130 hx hb hts hown G dX6_run_73 ?_
                refine r_iconst hx hb dX6_run_76 ?_
                refine r_iadd hx hb dX6_run_77 ?_
                refine pf_X6_130 hx hb hts hown G dX6_run_78 (fun H locs G => ?_)
                have G := G.cong (τ := adv (doM (ordM τ) (ordR τ))) (by unfold adv; rfl)
                refine lv_goto (tgt := 35) hx hb dX6_run_81 (by decide) ?_
                exact ih35 (v + bz (doR (ordM τ) (ordR τ))) (bz (doR (ordM τ) (ordR τ))) (i + 1) (adv (doM (ordM τ) (ordR τ))) (by omega) (by rw [adv6, hdo6]; omega) (by rw [adv6, adv5, hdo6, hdo5]; omega) (bz_01) (hX2.m (by rw [adv5, hdo5, h5]) (fun j => by rw [adv136, hdoX])) (by rw [show N + (i + 1) = N + i + 1 by omega]; exact (SG_doM (hS.m (fun j _ _ => ordM_o (by omega))) hov (by omega)).m (fun j _ _ => by unfold adv; rw [up_ap, if_neg (by omega)])) (rl_next h0 (by omega) hP hX hL hlt hTq) (hnx) (by omega) _ _ G _ (lv_sub hl [2, 0, 1] rfl)
              · skip
                have hdr := h_5
                refine r_iconst hx hb dX6_run_64 ?_
                refine lv_goto (tgt := 69) hx hb dX6_run_65 (by decide) ?_
                refine r_top (b := bz (doR (ordM τ) (ordR τ))) (by first | exact one_bz hdr | exact zero_bz hdr) ?_
                skip
                refine r_iadd hx hb dX6_run_69 ?_
                refine lv_istore_n (lv' := [(1, .int (kI (v + bz (doR (ordM τ) (ordR τ))))), (2, .int (kI (bz (doR (ordM τ) (ordR τ))))), (0, .ref (z + 133))]) hx hb dX6_run_70 rfl hl (by decide) rfl (fun ls hl => ?_)
                refine lv_aload_n hx hb dX6_run_71 rfl (lv_at hl 2 rfl) ?_
                refine lv_dup hx hb dX6_run_72 rfl ?_
                refine gf_X6_130 hx hb hts hown G dX6_run_73 ?_
                refine r_iconst hx hb dX6_run_76 ?_
                refine r_iadd hx hb dX6_run_77 ?_
                refine pf_X6_130 hx hb hts hown G dX6_run_78 (fun H locs G => ?_)
                have G := G.cong (τ := adv (doM (ordM τ) (ordR τ))) (by unfold adv; rfl)
                refine lv_goto (tgt := 35) hx hb dX6_run_81 (by decide) ?_
                exact ih35 (v + bz (doR (ordM τ) (ordR τ))) (bz (doR (ordM τ) (ordR τ))) (i + 1) (adv (doM (ordM τ) (ordR τ))) (by omega) (by rw [adv6, hdo6]; omega) (by rw [adv6, adv5, hdo6, hdo5]; omega) (bz_01) (hX2.m (by rw [adv5, hdo5, h5]) (fun j => by rw [adv136, hdoX])) (by rw [show N + (i + 1) = N + i + 1 by omega]; exact (SG_doM (hS.m (fun j _ _ => ordM_o (by omega))) hov (by omega)).m (fun j _ _ => by unfold adv; rw [up_ap, if_neg (by omega)])) (rl_next h0 (by omega) hP hX hL hlt hTq) (hnx) (by omega) _ _ G _ (lv_sub hl [2, 0, 1] rfl)
      have e5 : (up (goM (erM σ)) 133 6 0) 133 5 = σ 133 5 := by rw [up_ap, if_neg (by omega), goM_o (by omega) (by omega), erM_o (by omega)]
      have e6 : (up (goM (erM σ)) 133 6 0) 133 6 = 0 := by simp [up_ap]
      have eX : ∀ j, (up (goM (erM σ)) 133 6 0) 136 j = σ 136 j := fun j => by rw [up_ap, if_neg (by omega), goM_o (by omega) (by omega), erM_o (by omega)]
      have hs3 : 0 ≤ erM σ 133 1 ∧ erM σ 133 1 ≤ 6 := by rw [erM_o (by omega)]; exact hs
      exact lp35 63 0 1 0 (up (goM (erM σ)) 133 6 0) (by omega) (by rw [e6]; omega) (by rw [e5, e6]; omega) (Or.inr rfl) (hX.m e5 eX) (by rw [Int.add_zero]; exact ((hG.m (fun j _ _ => erM_o (by omega))).go hs3).f) (RL2_0 ⟨by rw [e5, up_ap, if_neg (by omega)], by rw [e6]; simp [up_ap], fun j => by rw [eX, up_ap, if_neg (by omega)]⟩) (rfl) (by omega) _ _ G _ (lv_sub hl [2, 1, 0] rfl)
    · skip
      have hP : ¬ erR σ < 0 := fun q => h_2 ⟨q, trivial⟩
      refine r_iconst hx hb dX6_run_20 ?_
      exact r_iret hx hb hr hlk G (by rw [if_neg hP]) (by rw [if_neg hP, if_neg hP]) dX6_run_21
  · skip
    refine r_iconst hx hb dX6_run_8 ?_
    refine lv_goto (tgt := 13) hx hb dX6_run_9 (by decide) ?_
    refine r_top (b := bz (erR σ < 0)) (by first | exact one_bz (by omega) | exact zero_bz (by omega)) ?_
    skip
    refine r_iconst hx hb dX6_run_13 ?_
    refine r_callVI ⟨hx, hb, hml, hown, hts⟩ G (k_X6_goes l (P := erR σ < 0) (Q := True) (σ := erM σ) ) (kV_X6_goes hts qM_X6_83 ⟨by decide, by decide⟩) (rc_X6 G) rfl rfl hl.1 rfl (Nat.le_of_ble_eq_true rfl) dX6_run_14 ⟨Nat.le_refl _, Nat.le_refl _⟩ (fun H locs G => ?_)
    refine r_zne (tgt := 22) hx hb dX6_run_17 (by decide) (fun h_6 => ?_) (fun h_6 => ?_)
    · skip
      have hP := (h_6).1
      have G := G.cong (τ := up (erM σ) 133 3 0) (by rw [if_pos hP, if_pos trivial])
      refine lv_aload_n hx hb dX6_run_22 rfl (lv_at hl 0 rfl) ?_
      refine r_callVV ⟨hx, hb, hml, hown, hts⟩ G (k_X6_saves l (σ := up (erM σ) 133 3 0) (hs2)) (kV_X6_saves hts qM_X6_87 ⟨by decide, by decide⟩) (rc_X6 G) rfl rfl hl.1 rfl (Nat.le_of_ble_eq_true rfl) dX6_run_23 ⟨Nat.le_refl _, Nat.le_refl _⟩ (fun H locs G => ?_)
      have G := G.cong (τ := goM (erM σ)) (rfl)
      refine lv_aload_n hx hb dX6_run_26 rfl (lv_at hl 0 rfl) ?_
      refine r_iconst hx hb dX6_run_27 ?_
      refine pf_X6_130 hx hb hts hown G dX6_run_28 (fun H locs G => ?_)
      refine r_iconst hx hb dX6_run_31 ?_
      refine lv_istore_n (lv' := [(1, .int (kI 0)), (0, .ref (z + 133))]) hx hb dX6_run_32 rfl hl (by decide) rfl (fun ls hl => ?_)
      refine r_iconst hx hb dX6_run_33 ?_
      refine lv_istore_n (lv' := [(2, .int (kI 1)), (1, .int (kI 0)), (0, .ref (z + 133))]) hx hb dX6_run_34 rfl hl (by decide) rfl (fun ls hl => ?_)
      have lp35 : ∀ (d : Nat) (v : Int) (dn : Int) (i : Int) (τ : Mem), (0 ≤ i) → (i ≤ τ 133 6) → (0 ≤ τ 133 6 ∧ τ 133 6 ≤ τ 133 5 + 1 ∧ τ 133 5 ≤ 60) → (dn = 0 ∨ dn = 1) → (IX τ) → (SG τ 0 (N + i)) → (RL2 σ τ i) → ((τ, v, dn) = rnI σ i) → (62 - i : Int) < (d : Int) → ∀ (H : Heap) (locs : List Loc), Wd D T z 139 τ s H locs → ∀ (ls : Array Slot), lv_has ls 3 [(0, .ref (z + 133)), (1, .int (kI v)), (2, .int (kI dn))] → W p l e (rmN 7 164) s m ([.ref (z + 133)] : List Value).toArray below meth c H locs 0 0 (MQ below (QI D T z 139 (if erR σ < 0 then (rnI σ 61).2.1 else 0) (if erR σ < 0 then up (rnI σ 61).1 133 5 0 else up (erM σ) 133 3 1)) ([.ref (z + 133)] : List Value).toArray s 0 0 (Own z)) (F0 m 35 ls []) := by
        intro d
        induction d with
        | zero => intro v dn i τ h0 hi ht hd0 hX2 hS hL hv hd; exact absurd hd (by omega)
        | succ d ih35 =>
          intro v dn i τ h0 hi ht hd0 hX2 hS hL hv hd H locs G ls hl
          refine lv_aload_n hx hb dX6_run_35 rfl (lv_at hl 0 rfl) ?_
          refine gf_X6_130 hx hb hts hown G dX6_run_36 ?_
          refine lv_aload_n hx hb dX6_run_39 rfl (lv_at hl 0 rfl) ?_
          refine gf_X6_127 hx hb hts hown G dX6_run_40 ?_
          refine r_icmp_ge (tgt := 84) hx hb ⟨by omega, by omega⟩ ⟨by omega, by omega⟩ dX6_run_43 (by decide) (fun h_7 => ?_) (fun h_7 => ?_)
          · skip
            have hend := rn_stay h0 (n := 61) (by omega) (by rw [← hv]; right; show ¬ τ 133 6 < τ 133 5; omega)
            refine lv_aload_n hx hb dX6_run_84 rfl (lv_at hl 0 rfl) ?_
            refine r_iconst hx hb dX6_run_85 ?_
            refine pf_X6_127 hx hb hts hown G dX6_run_86 (fun H locs G => ?_)
            refine lv_iload_n hx hb dX6_run_89 rfl (lv_at hl 1 rfl) ?_
            exact r_iret hx hb hr hlk G (by rw [if_pos hP, hend, ← hv]) (by rw [if_pos hP, hend, ← hv]) dX6_run_90
          · skip
            have hlt : τ 133 6 < τ 133 5 := by omega
            refine lv_iload_n hx hb dX6_run_46 rfl (lv_at hl 2 rfl) ?_
            refine r_if_eq (tgt := 84) hx hb ⟨by omega, by omega⟩ dX6_run_47 (by decide) (fun h_8 => ?_) (fun h_8 => ?_)
            · skip
              have hend := rn_stay h0 (n := 61) (by omega) (by rw [← hv]; left; exact h_8)
              refine lv_aload_n hx hb dX6_run_84 rfl (lv_at hl 0 rfl) ?_
              refine r_iconst hx hb dX6_run_85 ?_
              refine pf_X6_127 hx hb hts hown G dX6_run_86 (fun H locs G => ?_)
              refine lv_iload_n hx hb dX6_run_89 rfl (lv_at hl 1 rfl) ?_
              exact r_iret hx hb hr hlk G (by rw [if_pos hP, hend, ← hv]) (by rw [if_pos hP, hend, ← hv]) dX6_run_90
            · skip
              have hdn : ¬ dn = 0 := h_8
              have hok := rl_ok h0 (by omega) hP hX hL hlt
              have hov := ord_ov hok
              have h6 := ordM_6 (σ := τ) (by omega)
              have h5 : ordM τ 133 5 = τ 133 5 := ordM_o (by omega)
              have hdo6 : doM (ordM τ) (ordR τ) 133 6 = ordM τ 133 6 := doM_o (by omega)
              have hdo5 : doM (ordM τ) (ordR τ) 133 5 = ordM τ 133 5 := doM_o (by omega)
              have hdoX : ∀ j, doM (ordM τ) (ordR τ) 136 j = τ 136 j := fun j => by rw [doM_o (by omega), ordM_o (by omega)]
              have hTq : TQ (adv (doM (ordM τ) (ordR τ))) (adv (ordM τ)) := ⟨by rw [adv5, adv5]; exact hdo5, by rw [adv6, adv6, hdo6], fun j => by rw [adv136, adv136, hdoX, ordM_o (by omega)]⟩
              have hnx : (adv (doM (ordM τ) (ordR τ)), v + bz (doR (ordM τ) (ordR τ)), bz (doR (ordM τ) (ordR τ))) = rnI σ (i + 1) := by rw [rnI_s h0, ← hv]; unfold rnF; exact (if_neg (by intro q; rcases q with q | q; exact hdn q; exact q hlt)).symm
              refine lv_aload_n hx hb dX6_run_50 rfl (lv_at hl 0 rfl) ?_
              refine lv_aload_n hx hb dX6_run_51 rfl (lv_at hl 0 rfl) ?_
              refine r_callVI ⟨hx, hb, hml, hown, hts⟩ G (k_X6_order l (σ := τ) (by omega) (hX2)) (kV_X6_order hts qM_X6_153 ⟨by decide, by decide⟩) (rc_X6 G) rfl rfl hl.1 rfl (Nat.le_of_ble_eq_true rfl) dX6_run_52 ⟨Nat.le_refl _, Nat.le_refl _⟩ (fun H locs G => ?_)
              refine r_callVI ⟨hx, hb, hml, hown, hts⟩ G (k_X6_does l (w := ordR τ) (σ := ordM τ) (hov) (hS.m (fun j _ _ => ordM_o (by omega)))) (kV_X6_does hts qM_X6_161 ⟨by decide, by decide⟩) (rc_X6 G) rfl rfl hl.1 rfl (Nat.le_of_ble_eq_true rfl) dX6_run_55 ⟨Nat.le_refl _, Nat.le_refl _⟩ (fun H locs G => ?_)
              refine lv_istore_n (lv' := [(2, .int (kI (bz (doR (ordM τ) (ordR τ))))), (0, .ref (z + 133)), (1, .int (kI v))]) hx hb dX6_run_58 rfl hl (by decide) rfl (fun ls hl => ?_)
              refine lv_iload_n hx hb dX6_run_59 rfl (lv_at hl 2 rfl) ?_
              refine lv_iload_n hx hb dX6_run_60 rfl (lv_at hl 0 rfl) ?_
              refine r_zeq (tgt := 68) hx hb dX6_run_61 (by decide) (fun h_9 => ?_) (fun h_9 => ?_)
              · skip
                have hdr := h_9
                refine r_iconst hx hb dX6_run_68 ?_
                refine r_top (b := bz (doR (ordM τ) (ordR τ))) (by first | exact one_bz hdr | exact zero_bz hdr) ?_
                skip
                refine r_iadd hx hb dX6_run_69 ?_
                refine lv_istore_n (lv' := [(1, .int (kI (v + bz (doR (ordM τ) (ordR τ))))), (2, .int (kI (bz (doR (ordM τ) (ordR τ))))), (0, .ref (z + 133))]) hx hb dX6_run_70 rfl hl (by decide) rfl (fun ls hl => ?_)
                refine lv_aload_n hx hb dX6_run_71 rfl (lv_at hl 2 rfl) ?_
                refine lv_dup hx hb dX6_run_72 rfl ?_
                refine gf_X6_130 hx hb hts hown G dX6_run_73 ?_
                refine r_iconst hx hb dX6_run_76 ?_
                refine r_iadd hx hb dX6_run_77 ?_
                refine pf_X6_130 hx hb hts hown G dX6_run_78 (fun H locs G => ?_)
                have G := G.cong (τ := adv (doM (ordM τ) (ordR τ))) (by unfold adv; rfl)
                refine lv_goto (tgt := 35) hx hb dX6_run_81 (by decide) ?_
                exact ih35 (v + bz (doR (ordM τ) (ordR τ))) (bz (doR (ordM τ) (ordR τ))) (i + 1) (adv (doM (ordM τ) (ordR τ))) (by omega) (by rw [adv6, hdo6]; omega) (by rw [adv6, adv5, hdo6, hdo5]; omega) (bz_01) (hX2.m (by rw [adv5, hdo5, h5]) (fun j => by rw [adv136, hdoX])) (by rw [show N + (i + 1) = N + i + 1 by omega]; exact (SG_doM (hS.m (fun j _ _ => ordM_o (by omega))) hov (by omega)).m (fun j _ _ => by unfold adv; rw [up_ap, if_neg (by omega)])) (rl_next h0 (by omega) hP hX hL hlt hTq) (hnx) (by omega) _ _ G _ (lv_sub hl [2, 0, 1] rfl)
              · skip
                have hdr := h_9
                refine r_iconst hx hb dX6_run_64 ?_
                refine lv_goto (tgt := 69) hx hb dX6_run_65 (by decide) ?_
                refine r_top (b := bz (doR (ordM τ) (ordR τ))) (by first | exact one_bz hdr | exact zero_bz hdr) ?_
                skip
                refine r_iadd hx hb dX6_run_69 ?_
                refine lv_istore_n (lv' := [(1, .int (kI (v + bz (doR (ordM τ) (ordR τ))))), (2, .int (kI (bz (doR (ordM τ) (ordR τ))))), (0, .ref (z + 133))]) hx hb dX6_run_70 rfl hl (by decide) rfl (fun ls hl => ?_)
                refine lv_aload_n hx hb dX6_run_71 rfl (lv_at hl 2 rfl) ?_
                refine lv_dup hx hb dX6_run_72 rfl ?_
                refine gf_X6_130 hx hb hts hown G dX6_run_73 ?_
                refine r_iconst hx hb dX6_run_76 ?_
                refine r_iadd hx hb dX6_run_77 ?_
                refine pf_X6_130 hx hb hts hown G dX6_run_78 (fun H locs G => ?_)
                have G := G.cong (τ := adv (doM (ordM τ) (ordR τ))) (by unfold adv; rfl)
                refine lv_goto (tgt := 35) hx hb dX6_run_81 (by decide) ?_
                exact ih35 (v + bz (doR (ordM τ) (ordR τ))) (bz (doR (ordM τ) (ordR τ))) (i + 1) (adv (doM (ordM τ) (ordR τ))) (by omega) (by rw [adv6, hdo6]; omega) (by rw [adv6, adv5, hdo6, hdo5]; omega) (bz_01) (hX2.m (by rw [adv5, hdo5, h5]) (fun j => by rw [adv136, hdoX])) (by rw [show N + (i + 1) = N + i + 1 by omega]; exact (SG_doM (hS.m (fun j _ _ => ordM_o (by omega))) hov (by omega)).m (fun j _ _ => by unfold adv; rw [up_ap, if_neg (by omega)])) (rl_next h0 (by omega) hP hX hL hlt hTq) (hnx) (by omega) _ _ G _ (lv_sub hl [2, 0, 1] rfl)
      have e5 : (up (goM (erM σ)) 133 6 0) 133 5 = σ 133 5 := by rw [up_ap, if_neg (by omega), goM_o (by omega) (by omega), erM_o (by omega)]
      have e6 : (up (goM (erM σ)) 133 6 0) 133 6 = 0 := by simp [up_ap]
      have eX : ∀ j, (up (goM (erM σ)) 133 6 0) 136 j = σ 136 j := fun j => by rw [up_ap, if_neg (by omega), goM_o (by omega) (by omega), erM_o (by omega)]
      have hs3 : 0 ≤ erM σ 133 1 ∧ erM σ 133 1 ≤ 6 := by rw [erM_o (by omega)]; exact hs
      exact lp35 63 0 1 0 (up (goM (erM σ)) 133 6 0) (by omega) (by rw [e6]; omega) (by rw [e5, e6]; omega) (Or.inr rfl) (hX.m e5 eX) (by rw [Int.add_zero]; exact ((hG.m (fun j _ _ => erM_o (by omega))).go hs3).f) (RL2_0 ⟨by rw [e5, up_ap, if_neg (by omega)], by rw [e6]; simp [up_ap], fun j => by rw [eX, up_ap, if_neg (by omega)]⟩) (rfl) (by omega) _ _ G _ (lv_sub hl [2, 1, 0] rfl)
    · skip
      have hP : ¬ erR σ < 0 := fun q => h_6 ⟨q, trivial⟩
      refine r_iconst hx hb dX6_run_20 ?_
      exact r_iret hx hb hr hlk G (by rw [if_neg hP]) (by rw [if_neg hP, if_neg hP]) dX6_run_21
