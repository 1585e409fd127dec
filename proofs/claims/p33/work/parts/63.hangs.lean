/-! THE LAW'S hangs: the kinds together -/
theorem cn_le {P Q : Int → Prop} [DecidablePred P] [DecidablePred Q] {n : Int} (hn : 0 ≤ n) (h : ∀ j, P j → Q j) : cn P n ≤ cn Q n := by
  obtain ⟨d, rfl⟩ := Int.eq_ofNat_of_zero_le hn
  clear hn
  induction d with
  | zero => exact Int.le_refl _
  | succ d ih =>
    have e1 : cn P ((d + 1 : Nat) : Int) = cn P d + bz (P d) := cn_s (i := (d : Int)) (by omega)
    have e2 : cn Q ((d + 1 : Nat) : Int) = cn Q d + bz (Q d) := cn_s (i := (d : Int)) (by omega)
    have hq := bz_rg (P := Q d)
    by_cases hP : P d
    · rw [bz_t (h _ hP)] at e2; rw [bz_t hP] at e1; omega
    · rw [bz_f hP] at e1; omega
theorem hrp_le {σ : Mem} {k : Int} : hrp σ k ≤ hm σ k 2 := cn_le (by decide) (fun j q => q.1)
theorem cnt_16 {σ : Mem} {k : Int} : hm σ k 0 + hrp σ k ≤ 16 := cn_disj (P := fun y => σ 4 (k * 16 + y) = 0) (Q := fun y => ripe σ k y) (by decide) (fun j a b => by have := b.1; omega)
theorem hra_le {σ : Mem} : hra σ ≤ hma σ 2 := by
  unfold hra hma
  rw [it_4, it_4]
  have h0 := hrp_le (σ := σ) (k := 0)
  have h1 := hrp_le (σ := σ) (k := 1)
  have h2 := hrp_le (σ := σ) (k := 2)
  have h3 := hrp_le (σ := σ) (k := 3)
  omega
theorem aba_eq {n : Int} {σ : Mem} (h : Inv n σ) : aba σ = hma σ 1 := by
  unfold aba hma
  rw [it_4, it_4]
  have h0 := h.ac (k := 0) (by decide)
  have h1 := h.ac (k := 1) (by decide)
  have h2 := h.ac (k := 2) (by decide)
  have h3 := h.ac (k := 3) (by decide)
  unfold ACk at h0 h1 h2 h3
  omega
def ScI (σ : Mem) (i s : Int) : Prop := (i = 0 ∧ s = 0) ∨ (0 < i ∧ (0 ≤ s ∧ s < 4) ∧ it (sczF σ) (0, 17) i = (s, hm σ s 0 + hrp σ s))
theorem ScI.rg {σ : Mem} {i s : Int} (h : ScI σ i s) : 0 ≤ s ∧ s < 4 := by
  rcases h with h | h
  · omega
  · exact h.2.1
theorem ScI.keep {σ : Mem} {i s : Int} (h : ScI σ i s) (h0 : 0 ≤ i) (hc : hm σ s 0 + hrp σ s ≤ hm σ i 0 + hrp σ i) : ScI σ (i + 1) s := by
  have c := cnt_16 (σ := σ) (k := i)
  rcases h with ⟨h1, h2⟩ | ⟨h1, h2, h3⟩
  · subst h1; subst h2
    refine Or.inr ⟨by decide, by decide, ?_⟩
    have e : it (sczF σ) (0, 17) (0 + 1) = sczF σ 0 (0, 17) := rfl
    rw [e]; unfold sczF
    exact if_pos (show hm σ 0 0 + hrp σ 0 < 17 by omega)
  · refine Or.inr ⟨by omega, h2, ?_⟩
    rw [it_s h0, h3]; unfold sczF
    exact if_neg (show ¬ hm σ i 0 + hrp σ i < hm σ s 0 + hrp σ s by omega)
theorem ScI.take {σ : Mem} {i s : Int} (h : ScI σ i s) (h0 : 0 ≤ i) (h4 : i < 4) (hc : hm σ i 0 + hrp σ i < hm σ s 0 + hrp σ s) : ScI σ (i + 1) i := by
  rcases h with ⟨h1, h2⟩ | ⟨h1, h2, h3⟩
  · rw [h1, h2] at hc; omega
  · refine Or.inr ⟨by omega, ⟨h0, h4⟩, ?_⟩
    rw [it_s h0, h3]; unfold sczF
    exact if_pos (show hm σ i 0 + hrp σ i < hm σ s 0 + hrp σ s from hc)
theorem ScI.all {σ : Mem} {s : Int} (h : ScI σ 4 s) : s = scz σ := by
  rcases h with h | h
  · omega
  · unfold scz; rw [h.2.2]
set_option maxRecDepth 100000 in
set_option maxHeartbeats 4000000 in
theorem k_L_hangs (l : Launch) (hst0 : l.stackTraces = false) {σ : Mem} {n : Int} (hI : Inv n σ) (hn : n ≤ 1000) : CtK l yL_hangs (Cond.code yL_hangs cL_hangs 7 (some .boolean)) 9 149 120 720 (fun z => [.ref (z + 0)]) σ 1 σ := by
  intro D T z hT
  refine CtK_of (by decide) (Nat.le_of_ble_eq_true rfl) ?_
  intro p e s m below meth c ls hx hb hml hr hts hown hlk G hl hv
  have hown : s.vm.findClass RL = some m.cls := hown
  have hl : lv_has ls 7 [(0, .ref (z + 0))] := hl
  have hC : ∀ {a b : Nat}, a ≤ 120 → b ≤ 720 → a ≤ (rmX 9 149 120 720).cells ∧ b ≤ (rmX 9 149 120 720).slots := fun h1 h2 => ⟨h1, h2⟩
  have hS := hI.is
  have hm1 := hma_rg (σ := σ) (w := 1)
  have hm2 := hma_rg (σ := σ) (w := 2)
  have hr1 := hra_rg (σ := σ)
  have hab := aba_eq hI
  have hfi := hI.2.2.2.2
  refine r_iconst hx hb dL_hangs_0 ?_
  refine lv_istore_n (lv' := [(1, .int (kI 0)), (0, .ref (z + 0))]) hx hb dL_hangs_1 rfl hl (by decide) rfl (fun ls hl => ?_)
  refine r_iconst hx hb dL_hangs_2 ?_
  refine lv_istore_n (lv' := [(2, .int (kI 0)), (1, .int (kI 0)), (0, .ref (z + 0))]) hx hb dL_hangs_3 rfl hl (by decide) rfl (fun ls hl => ?_)
  refine r_iconst hx hb dL_hangs_4 ?_
  refine lv_istore_n (lv' := [(3, .int (kI 0)), (2, .int (kI 0)), (1, .int (kI 0)), (0, .ref (z + 0))]) hx hb dL_hangs_5 rfl hl (by decide) rfl (fun ls hl => ?_)
  refine r_iconst hx hb dL_hangs_6 ?_
  refine lv_istore (lv' := [(4, .int (kI 0)), (3, .int (kI 0)), (2, .int (kI 0)), (1, .int (kI 0)), (0, .ref (z + 0))]) hx hb dL_hangs_7 hl (by decide) rfl (fun ls hl => ?_)
  refine lv_aload_n hx hb dL_hangs_9 rfl (lv_at hl 4 rfl) ?_
  refine r_iconst hx hb dL_hangs_10 ?_
  refine r_iconst hx hb dL_hangs_11 ?_
  refine r_callW (na := 3) (own := RL) ⟨hx, hb, hml, hown, hts⟩ G hv (k_L_kindOf_1 l hst0 (σ := σ) (k := 4) (w := 0) ⟨by omega, by omega⟩ ⟨by omega, by omega⟩ (hS) (by first | omega | decide)) qC_L_kindOf qM_L_122 qS_L_kindOf qN_L (by decide +kernel) ⟨Nat.le_of_ble_eq_true rfl, Nat.le_of_ble_eq_true rfl⟩ rfl rfl hl.1 rfl (Nat.le_of_ble_eq_true rfl) dL_hangs_12 (hC (by omega) (by omega)) (fun H locs G => ?_)
  refine r_ldc (n := -2000001) hx hb hts hown qCon_L_17 (by decide) dL_hangs_15 ?_
  refine r_icmp_ne (tgt := 24) hx hb ⟨by decide, by decide⟩ ⟨by decide, by decide⟩ dL_hangs_17 (by decide) (fun h_1 => absurd h_1 (by decide)) (fun _ => ?_)
  refine r_iconst hx hb dL_hangs_20 ?_
  refine lv_goto (tgt := 25) hx hb dL_hangs_21 (by decide) ?_
  refine lv_istore (lv' := [(5, .int (kI 1)), (4, .int (kI 0)), (3, .int (kI 0)), (2, .int (kI 0)), (1, .int (kI 0)), (0, .ref (z + 0))]) hx hb dL_hangs_25 hl (by decide) rfl (fun ls hl => ?_)
  refine r_iconst hx hb dL_hangs_27 ?_
  refine lv_istore (lv' := [(6, .int (kI 0)), (5, .int (kI 1)), (4, .int (kI 0)), (3, .int (kI 0)), (2, .int (kI 0)), (1, .int (kI 0)), (0, .ref (z + 0))]) hx hb dL_hangs_28 hl (by decide) rfl (fun ls hl => ?_)
  have lp30 : ∀ (d : Nat) (kk : Int) (al : Int) (pi : Int) (ri : Int) (sc : Int), (0 ≤ kk) → (kk ≤ 4) → (al = it (fun k v => v + hm σ k 1) 0 kk) → (pi = it (fun k v => v + hm σ k 2) 0 kk) → (ri = it (fun k v => v + hrp σ k) 0 kk) → (ScI σ kk sc) → ((0 ≤ al ∧ al ≤ 16 * kk) ∧ (0 ≤ pi ∧ pi ≤ 16 * kk) ∧ (0 ≤ ri ∧ ri ≤ 16 * kk)) → (4 - kk : Int) < (d : Int) → ∀ (H : Heap) (locs : List Loc) (k1 n1 : Nat), (k1 : Int) ≤ 2 + 14 * kk → (n1 : Int) ≤ 12 + 84 * kk → Wd D T z 133 σ s H locs → ∀ (ls : Array Slot), lv_has ls 7 [(0, .ref (z + 0)), (1, .int (kI al)), (2, .int (kI pi)), (3, .int (kI ri)), (4, .int (kI sc)), (5, .int (kI 1)), (6, .int (kI kk))] → W p l e (rmX 9 149 120 720) s m ([.ref (z + 0)] : List Value).toArray below meth c H locs k1 n1 (MQ below (QI D T z 133 1 σ) ([.ref (z + 0)] : List Value).toArray s 120 720 (Own T z)) (F0 m 30 ls []) := by
    intro d
    induction d with
    | zero => intro kk al pi ri sc h0 h1 hal hpi hri hsc hrg hd; exact absurd hd (by omega)
    | succ d ih30 =>
      intro kk al pi ri sc h0 h1 hal hpi hri hsc hrg hd H locs k1 n1 hk1 hn1 G ls hl
      have hsr := hsc.rg
      have q1 := hm_rg (σ := σ) (k := kk) (w := 1)
      have q2 := hm_rg (σ := σ) (k := kk) (w := 2)
      have q3 := hrp_rg (σ := σ) (k := kk)
      have q4 := hm_rg (σ := σ) (k := kk) (w := 0)
      have q5 := hm_rg (σ := σ) (k := sc) (w := 0)
      have q6 := hrp_rg (σ := σ) (k := sc)
      refine lv_iload hx hb dL_hangs_30 (lv_at hl 6 rfl) ?_
      refine r_iconst hx hb dL_hangs_32 ?_
      refine r_icmp_ge (tgt := 119) hx hb ⟨by omega, by omega⟩ ⟨by decide, by decide⟩ dL_hangs_33 (by decide) (fun h_2 => ?_) (fun h_2 => ?_)
      · skip
        have e4 : kk = 4 := by omega
        subst e4
        have a1 : al = hma σ 1 := hal
        have a2 : pi = hma σ 2 := hpi
        have a3 : ri = hra σ := hri
        have a4 := hsc.all
        refine lv_iload hx hb dL_hangs_119 (lv_at hl 5 rfl) ?_
        refine r_if_eq (tgt := 245) hx hb ⟨by decide, by decide⟩ dL_hangs_121 (by decide) (fun h_3 => absurd h_3 (by decide)) (fun _ => ?_)
        refine lv_iload_n hx hb dL_hangs_124 rfl (lv_at hl 1 rfl) ?_
        refine lv_aload_n hx hb dL_hangs_125 rfl (lv_at hl 0 rfl) ?_
        refine r_iconst hx hb dL_hangs_126 ?_
        refine r_callW (na := 2) (own := RL) ⟨hx, hb, hml, hown, hts⟩ G hv (k_L_count_y l hst0 (σ := σ) (w := 1) ⟨by omega, by omega⟩ (hS) (by omega)) qC_L_count qM_L_138 qS_L_count qN_L (by decide +kernel) ⟨Nat.le_of_ble_eq_true rfl, Nat.le_of_ble_eq_true rfl⟩ rfl rfl hl.1 rfl (Nat.le_of_ble_eq_true rfl) dL_hangs_127 (hC (by omega) (by omega)) (fun H locs G => ?_)
        refine r_top (b := hma σ 1) (rfl) ?_
        refine r_icmp_ne (tgt := 245) hx hb ⟨by omega, by omega⟩ ⟨by omega, by omega⟩ dL_hangs_130 (by decide) (fun h_4 => absurd h_4 (by omega)) (fun h_4 => ?_)
        refine lv_iload_n hx hb dL_hangs_133 rfl (lv_at hl 1 rfl) ?_
        refine lv_aload_n hx hb dL_hangs_134 rfl (lv_at hl 0 rfl) ?_
        refine r_iconst hx hb dL_hangs_135 ?_
        refine r_callW (na := 2) (own := RL) ⟨hx, hb, hml, hown, hts⟩ G hv (k_L_count_y l hst0 (σ := σ) (w := 2) ⟨by omega, by omega⟩ (hS) (by omega)) qC_L_count qM_L_138 qS_L_count qN_L (by decide +kernel) ⟨Nat.le_of_ble_eq_true rfl, Nat.le_of_ble_eq_true rfl⟩ rfl rfl hl.1 rfl (Nat.le_of_ble_eq_true rfl) dL_hangs_136 (hC (by omega) (by omega)) (fun H locs G => ?_)
        refine r_top (b := hma σ 1) (hab) ?_
        refine r_icmp_ne (tgt := 245) hx hb ⟨by omega, by omega⟩ ⟨by omega, by omega⟩ dL_hangs_139 (by decide) (fun h_5 => absurd h_5 (by omega)) (fun h_5 => ?_)
        refine lv_iload_n hx hb dL_hangs_142 rfl (lv_at hl 2 rfl) ?_
        refine lv_aload_n hx hb dL_hangs_143 rfl (lv_at hl 0 rfl) ?_
        refine r_iconst hx hb dL_hangs_144 ?_
        refine r_callW (na := 2) (own := RL) ⟨hx, hb, hml, hown, hts⟩ G hv (k_L_count_y l hst0 (σ := σ) (w := 3) ⟨by omega, by omega⟩ (hS) (by omega)) qC_L_count qM_L_138 qS_L_count qN_L (by decide +kernel) ⟨Nat.le_of_ble_eq_true rfl, Nat.le_of_ble_eq_true rfl⟩ rfl rfl hl.1 rfl (Nat.le_of_ble_eq_true rfl) dL_hangs_145 (hC (by omega) (by omega)) (fun H locs G => ?_)
        refine r_top (b := hma σ 2) (rfl) ?_
        refine r_icmp_ne (tgt := 245) hx hb ⟨by omega, by omega⟩ ⟨by omega, by omega⟩ dL_hangs_148 (by decide) (fun h_6 => absurd h_6 (by omega)) (fun h_6 => ?_)
        refine lv_iload_n hx hb dL_hangs_151 rfl (lv_at hl 3 rfl) ?_
        refine lv_aload_n hx hb dL_hangs_152 rfl (lv_at hl 0 rfl) ?_
        refine r_iconst hx hb dL_hangs_153 ?_
        refine r_callW (na := 2) (own := RL) ⟨hx, hb, hml, hown, hts⟩ G hv (k_L_count_y l hst0 (σ := σ) (w := 4) ⟨by omega, by omega⟩ (hS) (by omega)) qC_L_count qM_L_138 qS_L_count qN_L (by decide +kernel) ⟨Nat.le_of_ble_eq_true rfl, Nat.le_of_ble_eq_true rfl⟩ rfl rfl hl.1 rfl (Nat.le_of_ble_eq_true rfl) dL_hangs_154 (hC (by omega) (by omega)) (fun H locs G => ?_)
        refine r_top (b := hra σ) (rfl) ?_
        refine r_icmp_ne (tgt := 245) hx hb ⟨by omega, by omega⟩ ⟨by omega, by omega⟩ dL_hangs_157 (by decide) (fun h_7 => absurd h_7 (by omega)) (fun h_7 => ?_)
        refine lv_iload hx hb dL_hangs_160 (lv_at hl 4 rfl) ?_
        refine lv_aload_n hx hb dL_hangs_162 rfl (lv_at hl 0 rfl) ?_
        refine r_callVI ⟨hx, hb, hml, hown, hts⟩ G (k_X5_scarcest l (σ := σ) hS) (kVp_X5_scarcest hts qM_L_140 ⟨Nat.le_of_ble_eq_true rfl, Nat.le_of_ble_eq_true rfl⟩) (rc_X5 G) rfl rfl hl.1 rfl (Nat.le_of_ble_eq_true rfl) dL_hangs_163 (hC (by omega) (by omega)) (fun H locs G => ?_)
        refine r_top (b := sc) (a4.symm) ?_
        refine r_icmp_ne (tgt := 245) hx hb ⟨by omega, by omega⟩ ⟨by omega, by omega⟩ dL_hangs_166 (by decide) (fun h_8 => absurd h_8 (by omega)) (fun h_8 => ?_)
        refine lv_aload_n hx hb dL_hangs_169 rfl (lv_at hl 0 rfl) ?_
        refine r_bipush hx hb dL_hangs_170 (by decide +kernel) ?_
        refine r_callW (na := 2) (own := RL) ⟨hx, hb, hml, hown, hts⟩ G hv (k_L_count_y l hst0 (σ := σ) (w := 6) ⟨by omega, by omega⟩ (hS) (by omega)) qC_L_count qM_L_138 qS_L_count qN_L (by decide +kernel) ⟨Nat.le_of_ble_eq_true rfl, Nat.le_of_ble_eq_true rfl⟩ rfl rfl hl.1 rfl (Nat.le_of_ble_eq_true rfl) dL_hangs_172 (hC (by omega) (by omega)) (fun H locs G => ?_)
        refine r_top (b := σ 8 6) (rfl) ?_
        refine lv_aload_n hx hb dL_hangs_175 rfl (lv_at hl 0 rfl) ?_
        refine r_bipush hx hb dL_hangs_176 (by decide +kernel) ?_
        refine r_callW (na := 2) (own := RL) ⟨hx, hb, hml, hown, hts⟩ G hv (k_L_count_y l hst0 (σ := σ) (w := 7) ⟨by omega, by omega⟩ (hS) (by omega)) qC_L_count qM_L_138 qS_L_count qN_L (by decide +kernel) ⟨Nat.le_of_ble_eq_true rfl, Nat.le_of_ble_eq_true rfl⟩ rfl rfl hl.1 rfl (Nat.le_of_ble_eq_true rfl) dL_hangs_178 (hC (by omega) (by omega)) (fun H locs G => ?_)
        refine r_top (b := σ 8 7) (rfl) ?_
        refine r_iadd hx hb dL_hangs_181 ?_
        refine lv_aload_n hx hb dL_hangs_182 rfl (lv_at hl 0 rfl) ?_
        refine r_iconst hx hb dL_hangs_183 ?_
        refine r_callW (na := 2) (own := RL) ⟨hx, hb, hml, hown, hts⟩ G hv (k_L_count_y l hst0 (σ := σ) (w := 5) ⟨by omega, by omega⟩ (hS) (by omega)) qC_L_count qM_L_138 qS_L_count qN_L (by decide +kernel) ⟨Nat.le_of_ble_eq_true rfl, Nat.le_of_ble_eq_true rfl⟩ rfl rfl hl.1 rfl (Nat.le_of_ble_eq_true rfl) dL_hangs_184 (hC (by omega) (by omega)) (fun H locs G => ?_)
        refine r_top (b := σ 8 5) (rfl) ?_
        refine r_icmp_gt (tgt := 245) hx hb ⟨by omega, by omega⟩ ⟨by omega, by omega⟩ dL_hangs_187 (by decide) (fun h_9 => absurd h_9 (by omega)) (fun h_9 => ?_)
        refine lv_iload_n hx hb dL_hangs_190 rfl (lv_at hl 2 rfl) ?_
        refine r_if_ne (tgt := 206) hx hb ⟨by omega, by omega⟩ dL_hangs_191 (by decide) (fun h_10 => ?_) (fun h_10 => ?_)
        · skip
          have hsh := sh_ok (a := hra σ) (b := hma σ 2) (by omega) (by omega)
          have jn232 : ∀ (_ : Unit), ∀ (H : Heap) (locs : List Loc) (k1 n1 : Nat), (k1 : Int) ≤ 80 → (n1 : Int) ≤ 500 → Wd D T z 133 σ s H locs → ∀ (ls : Array Slot), lv_has ls 7 [(0, .ref (z + 0)), (1, .int (kI al)), (2, .int (kI pi)), (3, .int (kI ri)), (4, .int (kI sc)), (5, .int (kI 1))] → W p l e (rmX 9 149 120 720) s m ([.ref (z + 0)] : List Value).toArray below meth c H locs k1 n1 (MQ below (QI D T z 133 1 σ) ([.ref (z + 0)] : List Value).toArray s 120 720 (Own T z)) (F0 m 232 ls []) := by
            intro _  H locs k1 n1 hk1 hn1 G ls hl
            refine lv_aload_n hx hb dL_hangs_232 rfl (lv_at hl 0 rfl) ?_
            refine r_callVD ⟨hx, hb, hml, hown, hts⟩ G (k_X5_ripeShare l (σ := σ) hS) (kVp_X5_ripeShare hts qM_L_143 ⟨Nat.le_of_ble_eq_true rfl, Nat.le_of_ble_eq_true rfl⟩) (rc_X5 G) rfl rfl hl.1 rfl (Nat.le_of_ble_eq_true rfl) dL_hangs_233 (hC (by omega) (by omega)) (fun H locs G => ?_)
            refine r_topD (if_neg (by omega)) ?_
            refine lv_dconst1 hx hb dL_hangs_236 ?_
            refine lv_dcmp hx hb dL_hangs_237 ?_
            refine lv_if_gt (tgt := 245) hx hb dL_hangs_238 (by decide) (fun h => absurd h (hsh.2.2 hra_le)) (fun _ => ?_)
            refine r_iconst hx hb dL_hangs_241 ?_
            refine lv_goto (tgt := 246) hx hb dL_hangs_242 (by decide) ?_
            exact r_kzret hx hb hr hlk G ⟨by omega, by omega⟩ (by omega) (by first | rfl | omega) rfl dL_hangs_246
          refine lv_aload_n hx hb dL_hangs_206 rfl (lv_at hl 0 rfl) ?_
          refine r_callVD ⟨hx, hb, hml, hown, hts⟩ G (k_X5_ripeShare l (σ := σ) hS) (kVp_X5_ripeShare hts qM_L_143 ⟨Nat.le_of_ble_eq_true rfl, Nat.le_of_ble_eq_true rfl⟩) (rc_X5 G) rfl rfl hl.1 rfl (Nat.le_of_ble_eq_true rfl) dL_hangs_207 (hC (by omega) (by omega)) (fun H locs G => ?_)
          refine r_topD (if_neg (by omega)) ?_
          refine lv_dconst0 hx hb dL_hangs_210 ?_
          refine lv_dcmp hx hb dL_hangs_211 ?_
          refine lv_if_le (tgt := 219) hx hb dL_hangs_212 (by decide) (fun hq => ?_) (fun hq => ?_)
          · skip
            have hq2 : hra σ ≤ 0 := hsh.2.1.mp hq
            refine r_iconst hx hb dL_hangs_219 ?_
            refine lv_iload_n hx hb dL_hangs_220 rfl (lv_at hl 3 rfl) ?_
            refine r_if_le (tgt := 228) hx hb ⟨by omega, by omega⟩ dL_hangs_221 (by decide) (fun h_11 => ?_) (fun h_11 => absurd h_11 (by omega))
            refine r_iconst hx hb dL_hangs_228 ?_
            refine r_icmp_ne (tgt := 245) hx hb ⟨by decide, by decide⟩ ⟨by decide, by decide⟩ dL_hangs_229 (by decide) (fun h_12 => absurd h_12 (by decide)) (fun _ => ?_)
            exact jn232 ()  _ _ _ _ (by omega) (by omega) G _ (lv_sub hl [0, 1, 2, 3, 4, 5] rfl)
          · skip
            have hq2 : ¬ hra σ ≤ 0 := fun w => hq (hsh.2.1.mpr w)
            refine r_iconst hx hb dL_hangs_215 ?_
            refine lv_goto (tgt := 220) hx hb dL_hangs_216 (by decide) ?_
            refine lv_iload_n hx hb dL_hangs_220 rfl (lv_at hl 3 rfl) ?_
            refine r_if_le (tgt := 228) hx hb ⟨by omega, by omega⟩ dL_hangs_221 (by decide) (fun h_13 => absurd h_13 (by omega)) (fun h_13 => ?_)
            refine r_iconst hx hb dL_hangs_224 ?_
            refine lv_goto (tgt := 229) hx hb dL_hangs_225 (by decide) ?_
            refine r_icmp_ne (tgt := 245) hx hb ⟨by decide, by decide⟩ ⟨by decide, by decide⟩ dL_hangs_229 (by decide) (fun h_14 => absurd h_14 (by decide)) (fun _ => ?_)
            exact jn232 ()  _ _ _ _ (by omega) (by omega) G _ (lv_sub hl [0, 1, 2, 3, 4, 5] rfl)
        · skip
          refine lv_aload_n hx hb dL_hangs_194 rfl (lv_at hl 0 rfl) ?_
          refine r_callVD ⟨hx, hb, hml, hown, hts⟩ G (k_X5_ripeShare l (σ := σ) hS) (kVp_X5_ripeShare hts qM_L_143 ⟨Nat.le_of_ble_eq_true rfl, Nat.le_of_ble_eq_true rfl⟩) (rc_X5 G) rfl rfl hl.1 rfl (Nat.le_of_ble_eq_true rfl) dL_hangs_195 (hC (by omega) (by omega)) (fun H locs G => ?_)
          refine r_topD (if_pos (by omega)) ?_
          refine lv_dconst1 hx hb dL_hangs_198 ?_
          refine lv_dcmp hx hb dL_hangs_199 ?_
          refine lv_if_ne (tgt := 245) hx hb dL_hangs_200 (by decide) (fun h => absurd sh_11.1 h) (fun _ => ?_)
          refine lv_goto (tgt := 241) hx hb dL_hangs_203 (by decide) ?_
          refine r_iconst hx hb dL_hangs_241 ?_
          refine lv_goto (tgt := 246) hx hb dL_hangs_242 (by decide) ?_
          exact r_kzret hx hb hr hlk G ⟨by omega, by omega⟩ (by omega) (by first | rfl | omega) rfl dL_hangs_246
      · skip
        refine lv_iload hx hb dL_hangs_36 (lv_at hl 5 rfl) ?_
        refine r_if_eq (tgt := 119) hx hb ⟨by decide, by decide⟩ dL_hangs_38 (by decide) (fun h_15 => absurd h_15 (by decide)) (fun _ => ?_)
        refine lv_iload_n hx hb dL_hangs_41 rfl (lv_at hl 1 rfl) ?_
        refine lv_aload_n hx hb dL_hangs_42 rfl (lv_at hl 0 rfl) ?_
        refine lv_iload hx hb dL_hangs_43 (lv_at hl 6 rfl) ?_
        refine r_iconst hx hb dL_hangs_45 ?_
        refine r_callW (na := 3) (own := RL) ⟨hx, hb, hml, hown, hts⟩ G hv (k_L_kindOf_y l hst0 (σ := σ) (k := kk) (w := 2) ⟨by omega, by omega⟩ ⟨by omega, by omega⟩ (hS) ⟨by omega, by omega⟩ (by omega)) qC_L_kindOf qM_L_122 qS_L_kindOf qN_L (by decide +kernel) ⟨Nat.le_of_ble_eq_true rfl, Nat.le_of_ble_eq_true rfl⟩ rfl rfl hl.1 rfl (Nat.le_of_ble_eq_true rfl) dL_hangs_46 (hC (by omega) (by omega)) (fun H locs G => ?_)
        refine r_top (b := hm σ kk 1) (rfl) ?_
        refine r_iadd hx hb dL_hangs_49 ?_
        refine lv_istore_n (lv' := [(1, .int (kI (al + hm σ kk 1))), (0, .ref (z + 0)), (2, .int (kI pi)), (3, .int (kI ri)), (4, .int (kI sc)), (5, .int (kI 1)), (6, .int (kI kk))]) hx hb dL_hangs_50 rfl hl (by decide) rfl (fun ls hl => ?_)
        refine lv_iload_n hx hb dL_hangs_51 rfl (lv_at hl 2 rfl) ?_
        refine lv_aload_n hx hb dL_hangs_52 rfl (lv_at hl 1 rfl) ?_
        refine lv_iload hx hb dL_hangs_53 (lv_at hl 6 rfl) ?_
        refine r_iconst hx hb dL_hangs_55 ?_
        refine r_callW (na := 3) (own := RL) ⟨hx, hb, hml, hown, hts⟩ G hv (k_L_kindOf_y l hst0 (σ := σ) (k := kk) (w := 3) ⟨by omega, by omega⟩ ⟨by omega, by omega⟩ (hS) ⟨by omega, by omega⟩ (by omega)) qC_L_kindOf qM_L_122 qS_L_kindOf qN_L (by decide +kernel) ⟨Nat.le_of_ble_eq_true rfl, Nat.le_of_ble_eq_true rfl⟩ rfl rfl hl.1 rfl (Nat.le_of_ble_eq_true rfl) dL_hangs_56 (hC (by omega) (by omega)) (fun H locs G => ?_)
        refine r_top (b := hm σ kk 2) (rfl) ?_
        refine r_iadd hx hb dL_hangs_59 ?_
        refine lv_istore_n (lv' := [(2, .int (kI (pi + hm σ kk 2))), (1, .int (kI (al + hm σ kk 1))), (0, .ref (z + 0)), (3, .int (kI ri)), (4, .int (kI sc)), (5, .int (kI 1)), (6, .int (kI kk))]) hx hb dL_hangs_60 rfl hl (by decide) rfl (fun ls hl => ?_)
        refine lv_iload_n hx hb dL_hangs_61 rfl (lv_at hl 3 rfl) ?_
        refine lv_aload_n hx hb dL_hangs_62 rfl (lv_at hl 2 rfl) ?_
        refine lv_iload hx hb dL_hangs_63 (lv_at hl 6 rfl) ?_
        refine r_iconst hx hb dL_hangs_65 ?_
        refine r_callW (na := 3) (own := RL) ⟨hx, hb, hml, hown, hts⟩ G hv (k_L_kindOf_y l hst0 (σ := σ) (k := kk) (w := 4) ⟨by omega, by omega⟩ ⟨by omega, by omega⟩ (hS) ⟨by omega, by omega⟩ (by omega)) qC_L_kindOf qM_L_122 qS_L_kindOf qN_L (by decide +kernel) ⟨Nat.le_of_ble_eq_true rfl, Nat.le_of_ble_eq_true rfl⟩ rfl rfl hl.1 rfl (Nat.le_of_ble_eq_true rfl) dL_hangs_66 (hC (by omega) (by omega)) (fun H locs G => ?_)
        refine r_top (b := hrp σ kk) (rfl) ?_
        refine r_iadd hx hb dL_hangs_69 ?_
        refine lv_istore_n (lv' := [(3, .int (kI (ri + hrp σ kk))), (2, .int (kI (pi + hm σ kk 2))), (1, .int (kI (al + hm σ kk 1))), (0, .ref (z + 0)), (4, .int (kI sc)), (5, .int (kI 1)), (6, .int (kI kk))]) hx hb dL_hangs_70 rfl hl (by decide) rfl (fun ls hl => ?_)
        refine lv_aload_n hx hb dL_hangs_71 rfl (lv_at hl 3 rfl) ?_
        refine lv_iload hx hb dL_hangs_72 (lv_at hl 6 rfl) ?_
        refine r_iconst hx hb dL_hangs_74 ?_
        refine r_callW (na := 3) (own := RL) ⟨hx, hb, hml, hown, hts⟩ G hv (k_L_kindOf_y l hst0 (σ := σ) (k := kk) (w := 1) ⟨by omega, by omega⟩ ⟨by omega, by omega⟩ (hS) ⟨by omega, by omega⟩ (by omega)) qC_L_kindOf qM_L_122 qS_L_kindOf qN_L (by decide +kernel) ⟨Nat.le_of_ble_eq_true rfl, Nat.le_of_ble_eq_true rfl⟩ rfl rfl hl.1 rfl (Nat.le_of_ble_eq_true rfl) dL_hangs_75 (hC (by omega) (by omega)) (fun H locs G => ?_)
        refine r_top (b := hm σ kk 0) (rfl) ?_
        refine lv_aload_n hx hb dL_hangs_78 rfl (lv_at hl 3 rfl) ?_
        refine lv_iload hx hb dL_hangs_79 (lv_at hl 6 rfl) ?_
        refine r_iconst hx hb dL_hangs_81 ?_
        refine r_callW (na := 3) (own := RL) ⟨hx, hb, hml, hown, hts⟩ G hv (k_L_kindOf_y l hst0 (σ := σ) (k := kk) (w := 4) ⟨by omega, by omega⟩ ⟨by omega, by omega⟩ (hS) ⟨by omega, by omega⟩ (by omega)) qC_L_kindOf qM_L_122 qS_L_kindOf qN_L (by decide +kernel) ⟨Nat.le_of_ble_eq_true rfl, Nat.le_of_ble_eq_true rfl⟩ rfl rfl hl.1 rfl (Nat.le_of_ble_eq_true rfl) dL_hangs_82 (hC (by omega) (by omega)) (fun H locs G => ?_)
        refine r_top (b := hrp σ kk) (rfl) ?_
        refine r_iadd hx hb dL_hangs_85 ?_
        refine lv_aload_n hx hb dL_hangs_86 rfl (lv_at hl 3 rfl) ?_
        refine lv_iload hx hb dL_hangs_87 (lv_at hl 4 rfl) ?_
        refine r_iconst hx hb dL_hangs_89 ?_
        refine r_callW (na := 3) (own := RL) ⟨hx, hb, hml, hown, hts⟩ G hv (k_L_kindOf_y l hst0 (σ := σ) (k := sc) (w := 1) ⟨by omega, by omega⟩ ⟨by omega, by omega⟩ (hS) ⟨by omega, by omega⟩ (by omega)) qC_L_kindOf qM_L_122 qS_L_kindOf qN_L (by decide +kernel) ⟨Nat.le_of_ble_eq_true rfl, Nat.le_of_ble_eq_true rfl⟩ rfl rfl hl.1 rfl (Nat.le_of_ble_eq_true rfl) dL_hangs_90 (hC (by omega) (by omega)) (fun H locs G => ?_)
        refine r_top (b := hm σ sc 0) (rfl) ?_
        refine lv_aload_n hx hb dL_hangs_93 rfl (lv_at hl 3 rfl) ?_
        refine lv_iload hx hb dL_hangs_94 (lv_at hl 4 rfl) ?_
        refine r_iconst hx hb dL_hangs_96 ?_
        refine r_callW (na := 3) (own := RL) ⟨hx, hb, hml, hown, hts⟩ G hv (k_L_kindOf_y l hst0 (σ := σ) (k := sc) (w := 4) ⟨by omega, by omega⟩ ⟨by omega, by omega⟩ (hS) ⟨by omega, by omega⟩ (by omega)) qC_L_kindOf qM_L_122 qS_L_kindOf qN_L (by decide +kernel) ⟨Nat.le_of_ble_eq_true rfl, Nat.le_of_ble_eq_true rfl⟩ rfl rfl hl.1 rfl (Nat.le_of_ble_eq_true rfl) dL_hangs_97 (hC (by omega) (by omega)) (fun H locs G => ?_)
        refine r_top (b := hrp σ sc) (rfl) ?_
        refine r_iadd hx hb dL_hangs_100 ?_
        refine r_icmp_ge (tgt := 109) hx hb ⟨by omega, by omega⟩ ⟨by omega, by omega⟩ dL_hangs_101 (by decide) (fun h_16 => ?_) (fun h_16 => ?_)
        · skip
          have hs2 := hsc.keep h0 (by omega)
          refine lv_iload hx hb dL_hangs_109 (lv_at hl 4 rfl) ?_
          refine lv_istore (lv' := [(4, .int (kI sc)), (3, .int (kI (ri + hrp σ kk))), (2, .int (kI (pi + hm σ kk 2))), (1, .int (kI (al + hm σ kk 1))), (0, .ref (z + 0)), (5, .int (kI 1)), (6, .int (kI kk))]) hx hb dL_hangs_111 hl (by decide) rfl (fun ls hl => ?_)
          refine r_iinc (lv' := [(6, .int (kI (kk + 1))), (4, .int (kI sc)), (3, .int (kI (ri + hrp σ kk))), (2, .int (kI (pi + hm σ kk 2))), (1, .int (kI (al + hm σ kk 1))), (0, .ref (z + 0)), (5, .int (kI 1))]) hx hb dL_hangs_113 hl (k := 6) rfl (by decide) rfl (fun ls hl => ?_)
          refine lv_goto (tgt := 30) hx hb dL_hangs_116 (by decide) ?_
          exact ih30 (kk + 1) (al + hm σ kk 1) (pi + hm σ kk 2) (ri + hrp σ kk) sc (by omega) (by omega) (by rw [hal]; exact (it_s (f := fun k v => v + hm σ k 1) (a := (0 : Int)) h0).symm) (by rw [hpi]; exact (it_s (f := fun k v => v + hm σ k 2) (a := (0 : Int)) h0).symm) (by rw [hri]; exact (it_s (f := fun k v => v + hrp σ k) (a := (0 : Int)) h0).symm) (hs2) (by omega) (by omega) _ _ _ _ (by omega) (by omega) G _ (lv_sub hl [5, 4, 3, 2, 1, 6, 0] rfl)
        · skip
          have hs2 := hsc.take h0 (by omega) (by omega)
          refine lv_iload hx hb dL_hangs_104 (lv_at hl 6 rfl) ?_
          refine lv_goto (tgt := 111) hx hb dL_hangs_106 (by decide) ?_
          refine lv_istore (lv' := [(4, .int (kI kk)), (3, .int (kI (ri + hrp σ kk))), (2, .int (kI (pi + hm σ kk 2))), (1, .int (kI (al + hm σ kk 1))), (0, .ref (z + 0)), (5, .int (kI 1)), (6, .int (kI kk))]) hx hb dL_hangs_111 hl (by decide) rfl (fun ls hl => ?_)
          refine r_iinc (lv' := [(6, .int (kI (kk + 1))), (4, .int (kI kk)), (3, .int (kI (ri + hrp σ kk))), (2, .int (kI (pi + hm σ kk 2))), (1, .int (kI (al + hm σ kk 1))), (0, .ref (z + 0)), (5, .int (kI 1))]) hx hb dL_hangs_113 hl (k := 6) rfl (by decide) rfl (fun ls hl => ?_)
          refine lv_goto (tgt := 30) hx hb dL_hangs_116 (by decide) ?_
          exact ih30 (kk + 1) (al + hm σ kk 1) (pi + hm σ kk 2) (ri + hrp σ kk) kk (by omega) (by omega) (by rw [hal]; exact (it_s (f := fun k v => v + hm σ k 1) (a := (0 : Int)) h0).symm) (by rw [hpi]; exact (it_s (f := fun k v => v + hm σ k 2) (a := (0 : Int)) h0).symm) (by rw [hri]; exact (it_s (f := fun k v => v + hrp σ k) (a := (0 : Int)) h0).symm) (hs2) (by omega) (by omega) _ _ _ _ (by omega) (by omega) G _ (lv_sub hl [5, 4, 3, 2, 1, 6, 0] rfl)
  exact lp30 5 0 0 0 0 0 (by omega) (by omega) (rfl) (rfl) (rfl) (Or.inl ⟨rfl, rfl⟩) (by omega) (by omega) _ _ _ _ (by omega) (by omega) G _ (lv_sub hl [6, 5, 4, 3, 2, 1, 0] rfl)
