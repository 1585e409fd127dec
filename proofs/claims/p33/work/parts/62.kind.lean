/-! THE LAW'S kind: all looks at a kind agree -/
theorem pok_0 {σ : Mem} {k y : Int} : pok σ k y 0 = σ 4 (k * 16 + y) := by unfold pok; rw [if_pos rfl]
theorem pok_1 {σ : Mem} {k y : Int} : pok σ k y 1 = σ 5 (k * 16 + y) := by unfold pok; rw [if_neg (by decide), if_pos rfl]
theorem pok_c {σ : Mem} {k y : Int} : (σ 4 (k * 16 + y) = 2 ∧ pok σ k y 2 = σ 6 (k * 16 + y) ∧ pok σ k y 3 = σ 2 0 - σ 7 (k * 16 + y) ∧ pok σ k y 4 = dtr σ k y) ∨ (σ 4 (k * 16 + y) ≠ 2 ∧ pok σ k y 2 = -1 ∧ pok σ k y 3 = -1 ∧ pok σ k y 4 = -1) := by
  by_cases h : σ 4 (k * 16 + y) = 2
  · left
    refine ⟨h, ?_, ?_, ?_⟩ <;> (unfold pok; simp [h])
  · right
    refine ⟨h, ?_, ?_, ?_⟩ <;> (unfold pok; simp [h])
theorem dtr_c {σ : Mem} {k y : Int} : (σ 2 0 - σ 7 (k * 16 + y) < σ 3 k ∧ dtr σ k y = σ 3 k - (σ 2 0 - σ 7 (k * 16 + y))) ∨ (σ 3 k ≤ σ 2 0 - σ 7 (k * 16 + y) ∧ dtr σ k y = 0) := by
  unfold dtr; split <;> omega
theorem dtr_0 {σ : Mem} {k y : Int} : 0 ≤ dtr σ k y := by unfold dtr; split <;> omega
theorem pkd_w {σ : Mem} {k w : Int} (h0 : 0 ≤ w) (h1 : w < 3) : pkd σ k (1 + w) = hm σ k w := by
  obtain rfl | rfl | rfl : w = 0 ∨ w = 1 ∨ w = 2 := by omega
  all_goals rfl
theorem kf_step {f : Int → Int} {σ : Mem} {k x st : Int} (hf : ∀ w, 0 ≤ w → w < 4 → f w = hm σ k w - cn (fun y => σ 4 (k * 16 + y) = w) (x + 1)) (h0 : 0 ≤ x) (hst : st = σ 4 (k * 16 + x)) (hs : 0 ≤ st ∧ st < 4) : ∀ w, 0 ≤ w → w < 4 → (fun j => if j = st then f st + 1 else f j) w = hm σ k w - cn (fun y => σ 4 (k * 16 + y) = w) (x - 1 + 1) := by
  intro w a b
  have g := hf w a b
  show (if w = st then f st + 1 else f w) = _
  rw [show x - 1 + 1 = x by omega]
  by_cases e : w = st
  · have c := cn_t (P := fun y => σ 4 (k * 16 + y) = w) (i := x) h0 rfl (show σ 4 (k * 16 + x) = w by rw [e, hst])
    rw [if_pos e, ← e]
    omega
  · have c := cn_f (P := fun y => σ 4 (k * 16 + y) = w) (i := x) h0 rfl (show ¬ σ 4 (k * 16 + x) = w from fun q => e (by rw [hst, q]))
    rw [if_neg e]
    omega
theorem TP_skip2 {n : Int} {σ : Mem} {k p v w : Int} (h : Inv n σ) (hk : 0 ≤ k ∧ k < 4) (ht : TP σ k p v) (hw : 0 ≤ w ∧ w < 16) (h2 : σ 4 (k * 16 + w) = 2) (h6 : σ 6 (k * 16 + w) = p) (hn : dtr σ k w ≠ 0) : TP σ k (p - 1) v := ht.skip (fun y a b q e => by
  have ey : y = w := h.pi hk y w ⟨a, b⟩ hw q.1 h2 (by omega)
  rw [ey] at q
  have := q.2
  have := dtr_c (σ := σ) (k := k) (y := w)
  omega)
theorem TP_take2 {n : Int} {σ : Mem} {k p v w : Int} (h : Inv n σ) (hk : 0 ≤ k ∧ k < 4) (ht : TP σ k p v) (hw : 0 ≤ w ∧ w < 16) (h2 : σ 4 (k * 16 + w) = 2) (h6 : σ 6 (k * 16 + w) = p) (hn : dtr σ k w = 0) : TP σ k (p - 1) w := TP.take h hk ht hw ⟨h2, by have := dtr_c (σ := σ) (k := k) (y := w); omega⟩ h6
theorem kor_rg {σ : Mem} {k n : Int} (h0 : 0 ≤ n) : -1 ≤ kor σ k n ∧ kor σ k n < 16 := by
  have key := it_inv (f := korF σ k) (a := (0, -1)) (n := n) (i := n) (fun _ v => -2 ≤ v.2 ∧ v.2 < 16) ⟨by decide, by decide⟩ (fun j v _ _ h => ?_) h0 (Int.le_refl _)
  · unfold kor
    split <;> omega
  · unfold korF
    split
    · exact h
    · split
      · exact ⟨by show (-2 : Int) ≤ -2; decide, by show (-2 : Int) < 16; decide⟩
      · have := drw_rg (σ := σ) (k := k) (r := σ 14 0) (t := v.1)
        exact ⟨by show -2 ≤ drw σ k (σ 14 0) v.1; omega, by show drw σ k (σ 14 0) v.1 < 16; omega⟩
set_option maxRecDepth 100000 in
set_option maxHeartbeats 4000000 in
theorem k_L_kind (l : Launch) (hst0 : l.stackTraces = false) {σ : Mem} {k n : Int} (hk : 0 ≤ k ∧ k < 4) (hI : Inv n σ) (hn : n ≤ 1000) : CtK l yL_kind (Cond.code yL_kind cL_kind 19 (some .boolean)) 9 151 400 2400 (fun z => [.ref (z + 0), .int (kI k)]) σ 1 σ := by
  intro D T z hT
  refine CtK_of (by decide) (Nat.le_of_ble_eq_true rfl) ?_
  intro p e s m below meth c ls hx hb hml hr hts hown hlk G hl hv
  have hown : s.vm.findClass RL = some m.cls := hown
  have hl : lv_has ls 19 [(0, .ref (z + 0)), (1, .int (kI k))] := hl
  have hC : ∀ {a b : Nat}, a ≤ 400 → b ≤ 2400 → a ≤ (rmX 9 151 400 2400).cells ∧ b ≤ (rmX 9 151 400 2400).slots := fun h1 h2 => ⟨h1, h2⟩
  have hS := hI.is
  have hd := hI.ic.1
  have hac := hI.ac hk
  unfold ACk at hac
  have hs3 := hI.ic.2.1 k hk.1 hk.2
  refine r_iconst hx hb dL_kind_0 ?_
  refine r_knew hx hb hts hT G (hC (by omega) (by omega)) dL_kind_1 (fun q0 H G => ?_)
  refine lv_astore_n (lv' := [(2, .ref q0), (0, .ref (z + 0)), (1, .int (kI k))]) hx hb dL_kind_3 rfl hl (by decide) rfl (fun ls hl => ?_)
  refine r_iconst hx hb dL_kind_4 ?_
  refine lv_istore_n (lv' := [(3, .int (kI 0)), (2, .ref q0), (0, .ref (z + 0)), (1, .int (kI k))]) hx hb dL_kind_5 rfl hl (by decide) rfl (fun ls hl => ?_)
  refine r_iconst hx hb dL_kind_6 ?_
  refine lv_istore (lv' := [(4, .int (kI 0)), (3, .int (kI 0)), (2, .ref q0), (0, .ref (z + 0)), (1, .int (kI k))]) hx hb dL_kind_7 hl (by decide) rfl (fun ls hl => ?_)
  refine r_iconst hx hb dL_kind_9 ?_
  refine lv_istore (lv' := [(5, .int (kI (-1))), (4, .int (kI 0)), (3, .int (kI 0)), (2, .ref q0), (0, .ref (z + 0)), (1, .int (kI k))]) hx hb dL_kind_10 hl (by decide) rfl (fun ls hl => ?_)
  refine r_iconst hx hb dL_kind_12 ?_
  refine lv_istore (lv' := [(6, .int (kI (-1))), (5, .int (kI (-1))), (4, .int (kI 0)), (3, .int (kI 0)), (2, .ref q0), (0, .ref (z + 0)), (1, .int (kI k))]) hx hb dL_kind_13 hl (by decide) rfl (fun ls hl => ?_)
  refine r_iconst hx hb dL_kind_15 ?_
  refine lv_istore (lv' := [(7, .int (kI (-1))), (6, .int (kI (-1))), (5, .int (kI (-1))), (4, .int (kI 0)), (3, .int (kI 0)), (2, .ref q0), (0, .ref (z + 0)), (1, .int (kI k))]) hx hb dL_kind_16 hl (by decide) rfl (fun ls hl => ?_)
  refine r_iconst hx hb dL_kind_18 ?_
  refine lv_istore (lv' := [(8, .int (kI (-1))), (7, .int (kI (-1))), (6, .int (kI (-1))), (5, .int (kI (-1))), (4, .int (kI 0)), (3, .int (kI 0)), (2, .ref q0), (0, .ref (z + 0)), (1, .int (kI k))]) hx hb dL_kind_19 hl (by decide) rfl (fun ls hl => ?_)
  refine r_iconst hx hb dL_kind_21 ?_
  refine lv_istore (lv' := [(9, .int (kI (-1))), (8, .int (kI (-1))), (7, .int (kI (-1))), (6, .int (kI (-1))), (5, .int (kI (-1))), (4, .int (kI 0)), (3, .int (kI 0)), (2, .ref q0), (0, .ref (z + 0)), (1, .int (kI k))]) hx hb dL_kind_22 hl (by decide) rfl (fun ls hl => ?_)
  refine lv_aload_n hx hb dL_kind_24 rfl (lv_at hl 8 rfl) ?_
  refine lv_iload_n hx hb dL_kind_25 rfl (lv_at hl 9 rfl) ?_
  refine r_iconst hx hb dL_kind_26 ?_
  refine r_callWk (na := 3) (own := RL) ⟨hx, hb, hml, hown, hts⟩ G hv (k_L_kindOf_y l hst0 (σ := σ) (k := k) (w := 0) ⟨by omega, by omega⟩ ⟨by omega, by omega⟩ (hS) ⟨by omega, by omega⟩ (by omega)) qC_L_kindOf qM_L_122 qS_L_kindOf qN_L (by decide +kernel) ⟨Nat.le_of_ble_eq_true rfl, Nat.le_of_ble_eq_true rfl⟩ rfl rfl hl.1 rfl (Nat.le_of_ble_eq_true rfl) dL_kind_27 (hC (by omega) (by omega)) (fun H locs G => ?_)
  refine r_top (b := σ 3 k) (rfl) ?_
  refine r_name (fun se hse => ?_)
  refine lv_istore (lv' := [(10, .int (kI se)), (9, .int (kI (-1))), (8, .int (kI (-1))), (7, .int (kI (-1))), (6, .int (kI (-1))), (5, .int (kI (-1))), (4, .int (kI 0)), (3, .int (kI 0)), (2, .ref q0), (0, .ref (z + 0)), (1, .int (kI k))]) hx hb dL_kind_30 hl (by decide) rfl (fun ls hl => ?_)
  refine r_iconst hx hb dL_kind_32 ?_
  refine lv_istore (lv' := [(11, .int (kI 1)), (10, .int (kI se)), (9, .int (kI (-1))), (8, .int (kI (-1))), (7, .int (kI (-1))), (6, .int (kI (-1))), (5, .int (kI (-1))), (4, .int (kI 0)), (3, .int (kI 0)), (2, .ref q0), (0, .ref (z + 0)), (1, .int (kI k))]) hx hb dL_kind_33 hl (by decide) rfl (fun ls hl => ?_)
  refine r_bipush hx hb dL_kind_35 (by decide +kernel) ?_
  refine lv_istore (lv' := [(12, .int (kI 15)), (11, .int (kI 1)), (10, .int (kI se)), (9, .int (kI (-1))), (8, .int (kI (-1))), (7, .int (kI (-1))), (6, .int (kI (-1))), (5, .int (kI (-1))), (4, .int (kI 0)), (3, .int (kI 0)), (2, .ref q0), (0, .ref (z + 0)), (1, .int (kI k))]) hx hb dL_kind_37 hl (by decide) rfl (fun ls hl => ?_)
  have lp39 : ∀ (d : Nat) (x : Int) (ri : Int) (ca : Int) (so : Int) (ol : Int) (lo : Int) (fr : Int) (le : Int) (f : Int → Int), (-1 ≤ x) → (x ≤ 15) → (∀ w, 0 ≤ w → w < 4 → f w = hm σ k w - cn (fun y => σ 4 (k * 16 + y) = w) (x + 1)) → (ri = hrp σ k - cn (fun y => ripe σ k y) (x + 1)) → (ca = cn (fun y => cbg σ k y) 16 - cn (fun y => cbg σ k y) (x + 1)) → (VM (fun y => σ 4 (k * 16 + y) = 2) (fun y => dtr σ k y) x so) → (VX (fun y => σ 4 (k * 16 + y) = 2) (fun y => σ 2 0 - σ 7 (k * 16 + y)) x ol) → (MN (fun y => cbg σ k y) (fun y => y) x lo) → (MN (fun y => σ 4 (k * 16 + y) = 0) (fun y => y) x fr) → (MN (fun y => cbg σ k y) (fun y => σ 5 (k * 16 + y) * 16 + y) x le) → ((-1 ≤ so ∧ so ≤ 99) ∧ -1 ≤ ol ∧ ol ≤ 9999) → (x + 1 : Int) < (d : Int) → ∀ (H : Heap) (locs : List Loc) (k1 n1 : Nat), (k1 : Int) ≤ 3 + 14 * (15 - x) → (n1 : Int) ≤ 16 + 84 * (15 - x) → Wk D T z q0 f σ s H locs → ∀ (ls : Array Slot), lv_has ls 19 [(0, .ref (z + 0)), (1, .int (kI k)), (2, .ref q0), (3, .int (kI ri)), (4, .int (kI ca)), (5, .int (kI so)), (6, .int (kI ol)), (7, .int (kI lo)), (8, .int (kI fr)), (9, .int (kI le)), (10, .int (kI se)), (11, .int (kI 1)), (12, .int (kI x))] → W p l e (rmX 9 151 400 2400) s m ([.ref (z + 0), .int (kI k)] : List Value).toArray below meth c H locs k1 n1 (MQ below (QI D T z 133 1 σ) ([.ref (z + 0), .int (kI k)] : List Value).toArray s 400 2400 (Own T z)) (F0 m 39 ls []) := by
    intro d
    induction d with
    | zero => intro x ri ca so ol lo fr le f h0 h1 hf hri hca hso hox hlo hfr hle hrg hd; exact absurd hd (by omega)
    | succ d ih39 =>
      intro x ri ca so ol lo fr le f h0 h1 hf hri hca hso hox hlo hfr hle hrg hd H locs k1 n1 hk1 hn1 G ls hl
      have crg := cn_rg (P := (fun y => ripe σ k y)) (i := x + 1) (by omega)
      have ccg := cn_rg (P := (fun y => cbg σ k y)) (i := x + 1) (by omega)
      have ccg2 := cn_rg (P := (fun y => cbg σ k y)) (i := 16) (by decide)
      have chr := hrp_rg (σ := σ) (k := k)
      have glo := hlo.rg
      have gfr := hfr.rg
      have gle := hle.rg
      refine lv_iload hx hb dL_kind_39 (lv_at hl 12 rfl) ?_
      refine r_if_lt (tgt := 395) hx hb ⟨by omega, by omega⟩ dL_kind_41 (by decide) (fun h_1 => ?_) (fun h_1 => ?_)
      · skip
        have ex : x = -1 := by omega
        subst ex
        have hf4 : ∀ w, 0 ≤ w → w < 4 → f w = hm σ k w := fun w a b => by have g := hf w a b; rw [show (-1 : Int) + 1 = 0 by decide, cn_0] at g; omega
        have hri4 : ri = hrp σ k := by rw [show (-1 : Int) + 1 = 0 by decide, cn_0] at hri; omega
        have hca4 : ca = cn (fun y => cbg σ k y) 16 := by rw [show (-1 : Int) + 1 = 0 by decide, cn_0] at hca; omega
        have hfrA := hfr.all
        have hloA := hlo.all
        have hleA := hle.all
        have hmr := fun w => hm_rg (σ := σ) (k := k) (w := w)
        have hm2 := hmr 2
        have hm1 := hmr 1
        refine r_iconst hx hb dL_kind_395 ?_
        refine lv_istore (lv' := [(12, .int (kI (-1))), (0, .ref (z + 0)), (1, .int (kI k)), (2, .ref q0), (3, .int (kI ri)), (4, .int (kI ca)), (5, .int (kI so)), (6, .int (kI ol)), (7, .int (kI lo)), (8, .int (kI fr)), (9, .int (kI le)), (10, .int (kI se)), (11, .int (kI 1))]) hx hb dL_kind_396 hl (by decide) rfl (fun ls hl => ?_)
        refine lv_aload_n hx hb dL_kind_398 rfl (lv_at hl 3 rfl) ?_
        refine r_iconst hx hb dL_kind_399 ?_
        refine r_kald hx hb G (by omega) (by omega) dL_kind_400 ?_
        refine r_top (b := hm σ k 2) (hf4 2 (by decide) (by decide)) ?_
        refine r_iconst hx hb dL_kind_401 ?_
        refine r_isub hx hb dL_kind_402 ?_
        refine lv_istore (lv' := [(13, .int (kI (hm σ k 2 - 1))), (12, .int (kI (-1))), (0, .ref (z + 0)), (1, .int (kI k)), (2, .ref q0), (3, .int (kI ri)), (4, .int (kI ca)), (5, .int (kI so)), (6, .int (kI ol)), (7, .int (kI lo)), (8, .int (kI fr)), (9, .int (kI le)), (10, .int (kI se)), (11, .int (kI 1))]) hx hb dL_kind_403 hl (by decide) rfl (fun ls hl => ?_)
        have lp405 : ∀ (d : Nat) (pp : Int) (tp : Int), (-1 ≤ pp) → (pp ≤ 15) → (TP σ k pp tp) → (-1 ≤ tp ∧ tp < 16) → (pp + 1 : Int) < (d : Int) → ∀ (H : Heap) (locs : List Loc) (k1 n1 : Nat), (k1 : Int) ≤ 227 + 6 * (15 - pp) → (n1 : Int) ≤ 1360 + 36 * (15 - pp) → Wk D T z q0 f σ s H locs → ∀ (ls : Array Slot), lv_has ls 19 [(0, .ref (z + 0)), (1, .int (kI k)), (2, .ref q0), (3, .int (kI ri)), (4, .int (kI ca)), (5, .int (kI so)), (6, .int (kI ol)), (7, .int (kI lo)), (8, .int (kI fr)), (9, .int (kI le)), (10, .int (kI se)), (11, .int (kI 1)), (12, .int (kI tp)), (13, .int (kI pp))] → W p l e (rmX 9 151 400 2400) s m ([.ref (z + 0), .int (kI k)] : List Value).toArray below meth c H locs k1 n1 (MQ below (QI D T z 133 1 σ) ([.ref (z + 0), .int (kI k)] : List Value).toArray s 400 2400 (Own T z)) (F0 m 405 ls []) := by
          intro d
          induction d with
          | zero => intro pp tp h0 h1 ht hrt hd; exact absurd hd (by omega)
          | succ d ih405 =>
            intro pp tp h0 h1 ht hrt hd H locs k1 n1 hk1 hn1 G ls hl
            refine lv_iload hx hb dL_kind_405 (lv_at hl 13 rfl) ?_
            refine r_if_lt (tgt := 451) hx hb ⟨by omega, by omega⟩ dL_kind_407 (by decide) (fun h_2 => ?_) (fun h_2 => ?_)
            · skip
              have epp : pp = -1 := by omega
              subst epp
              have htA := TP.all hI hk ht
              refine lv_aload_n hx hb dL_kind_451 rfl (lv_at hl 0 rfl) ?_
              refine r_iconst hx hb dL_kind_452 ?_
              refine r_callWk (na := 2) (own := RL) ⟨hx, hb, hml, hown, hts⟩ G hv (k_L_setting_y l hst0 (σ := σ) (k := 0) ⟨by omega, by omega⟩ (by omega)) qC_L_setting qM_L_128 qS_L_setting qN_L (by decide +kernel) ⟨Nat.le_of_ble_eq_true rfl, Nat.le_of_ble_eq_true rfl⟩ rfl rfl hl.1 rfl (Nat.le_of_ble_eq_true rfl) dL_kind_453 (hC (by omega) (by omega)) (fun H locs G => ?_)
              refine r_name (fun ru hru => ?_)
              have hru2 := hI.is.2.1
              have hdue := due_eq hI hk hfrA hloA hleA htA
              have hdr := drw_rg (σ := σ) (k := k) (r := σ 14 0) (t := 0)
              refine lv_istore (lv' := [(13, .int (kI ru)), (0, .ref (z + 0)), (1, .int (kI k)), (2, .ref q0), (3, .int (kI ri)), (4, .int (kI ca)), (5, .int (kI so)), (6, .int (kI ol)), (7, .int (kI lo)), (8, .int (kI fr)), (9, .int (kI le)), (10, .int (kI se)), (11, .int (kI 1)), (12, .int (kI tp))]) hx hb dL_kind_456 hl (by decide) rfl (fun ls hl => ?_)
              have jn512 : ∀ (du : Int), (du = drw σ k (σ 14 0) 0) → (-1 ≤ du ∧ du < 16) → ∀ (H : Heap) (locs : List Loc) (k1 n1 : Nat), (k1 : Int) ≤ 330 → (n1 : Int) ≤ 1980 → Wk D T z q0 f σ s H locs → ∀ (ls : Array Slot), lv_has ls 19 [(13, .int (kI ru)), (0, .ref (z + 0)), (1, .int (kI k)), (2, .ref q0), (3, .int (kI ri)), (4, .int (kI ca)), (5, .int (kI so)), (6, .int (kI ol)), (7, .int (kI lo)), (8, .int (kI fr)), (9, .int (kI le)), (10, .int (kI se)), (11, .int (kI 1)), (12, .int (kI tp))] → W p l e (rmX 9 151 400 2400) s m ([.ref (z + 0), .int (kI k)] : List Value).toArray below meth c H locs k1 n1 (MQ below (QI D T z 133 1 σ) ([.ref (z + 0), .int (kI k)] : List Value).toArray s 400 2400 (Own T z)) (F0 m 512 ls [.int (kI du)]) := by
                intro du hdu hdur H locs k1 n1 hk1 hn1 G ls hl
                refine lv_istore (lv' := [(14, .int (kI du)), (13, .int (kI ru)), (0, .ref (z + 0)), (1, .int (kI k)), (2, .ref q0), (3, .int (kI ri)), (4, .int (kI ca)), (5, .int (kI so)), (6, .int (kI ol)), (7, .int (kI lo)), (8, .int (kI fr)), (9, .int (kI le)), (10, .int (kI se)), (11, .int (kI 1)), (12, .int (kI tp))]) hx hb dL_kind_512 hl (by decide) rfl (fun ls hl => ?_)
                refine lv_aload_n hx hb dL_kind_514 rfl (lv_at hl 2 rfl) ?_
                refine lv_iload_n hx hb dL_kind_515 rfl (lv_at hl 3 rfl) ?_
                refine r_callWk (na := 2) (own := RL) ⟨hx, hb, hml, hown, hts⟩ G hv (k_L_ifAsked_y l hst0 (σ := σ) (k := k) ⟨by omega, by omega⟩ (hS) ⟨by omega, by omega⟩) qC_L_ifAsked qM_L_130 qS_L_ifAsked qN_L (by decide +kernel) ⟨Nat.le_of_ble_eq_true rfl, Nat.le_of_ble_eq_true rfl⟩ rfl rfl hl.1 rfl (Nat.le_of_ble_eq_true rfl) dL_kind_516 (hC (by omega) (by omega)) (fun H locs G => ?_)
                refine r_name (fun ak hak => ?_)
                refine lv_istore (lv' := [(15, .int (kI ak)), (14, .int (kI du)), (13, .int (kI ru)), (0, .ref (z + 0)), (1, .int (kI k)), (2, .ref q0), (3, .int (kI ri)), (4, .int (kI ca)), (5, .int (kI so)), (6, .int (kI ol)), (7, .int (kI lo)), (8, .int (kI fr)), (9, .int (kI le)), (10, .int (kI se)), (11, .int (kI 1)), (12, .int (kI tp))]) hx hb dL_kind_519 hl (by decide) rfl (fun ls hl => ?_)
                refine lv_iload hx hb dL_kind_521 (lv_at hl 14 rfl) ?_
                refine r_if_eq (tgt := 634) hx hb ⟨by decide, by decide⟩ dL_kind_523 (by decide) (fun h_3 => absurd h_3 (by decide)) (fun _ => ?_)
                have hakE : (0 ≤ du ∧ ak = du) ∨ (du < 0 ∧ hm σ k 2 = 0 ∧ ak = 101) ∨ (du < 0 ∧ hm σ k 2 ≠ 0 ∧ ak = 102) := by rw [hak, atr_eq, ← hdu]; (repeat' split) <;> omega
                refine lv_aload_n hx hb dL_kind_526 rfl (lv_at hl 3 rfl) ?_
                refine lv_iload_n hx hb dL_kind_527 rfl (lv_at hl 4 rfl) ?_
                refine lv_aload_n hx hb dL_kind_528 rfl (lv_at hl 5 rfl) ?_
                refine r_iconst hx hb dL_kind_529 ?_
                refine r_kald hx hb G (by omega) (by omega) dL_kind_530 ?_
                refine r_top (b := hm σ k 2) (hf4 2 (by decide) (by decide)) ?_
                refine r_callWk (na := 3) (own := RL) ⟨hx, hb, hml, hown, hts⟩ G hv (k_L_pile_y l hst0 (σ := σ) (k := k) (q := hm σ k 2) ⟨by omega, by omega⟩ ⟨by omega, by omega⟩ (hS) ⟨by omega, by omega⟩ (by omega)) qC_L_pile qM_L_126 qS_L_pile qN_L (by decide +kernel) ⟨Nat.le_of_ble_eq_true rfl, Nat.le_of_ble_eq_true rfl⟩ rfl rfl hl.1 rfl (Nat.le_of_ble_eq_true rfl) dL_kind_531 (hC (by omega) (by omega)) (fun H locs G => ?_)
                refine r_top (b := (-1)) (kat_no hI hk (Int.le_refl _)) ?_
                refine r_iconst hx hb dL_kind_534 ?_
                refine r_icmp_ne (tgt := 634) hx hb ⟨by decide, by decide⟩ ⟨by decide, by decide⟩ dL_kind_535 (by decide) (fun h_4 => absurd h_4 (by decide)) (fun _ => ?_)
                have jn566 : ∀ (_ : Unit), ∀ (H : Heap) (locs : List Loc) (k1 n1 : Nat), (k1 : Int) ≤ 336 → (n1 : Int) ≤ 2016 → Wk D T z q0 f σ s H locs → ∀ (ls : Array Slot), lv_has ls 19 [(15, .int (kI ak)), (14, .int (kI du)), (13, .int (kI ru)), (0, .ref (z + 0)), (1, .int (kI k)), (2, .ref q0), (3, .int (kI ri)), (4, .int (kI ca)), (5, .int (kI so)), (6, .int (kI ol)), (7, .int (kI lo)), (8, .int (kI fr)), (9, .int (kI le)), (10, .int (kI se)), (11, .int (kI 1)), (12, .int (kI tp))] → W p l e (rmX 9 151 400 2400) s m ([.ref (z + 0), .int (kI k)] : List Value).toArray below meth c H locs k1 n1 (MQ below (QI D T z 133 1 σ) ([.ref (z + 0), .int (kI k)] : List Value).toArray s 400 2400 (Own T z)) (F0 m 566 ls []) := by
                  intro _  H locs k1 n1 hk1 hn1 G ls hl
                  refine lv_aload_n hx hb dL_kind_566 rfl (lv_at hl 3 rfl) ?_
                  refine lv_iload_n hx hb dL_kind_567 rfl (lv_at hl 4 rfl) ?_
                  refine r_iconst hx hb dL_kind_568 ?_
                  refine r_callWk (na := 3) (own := RL) ⟨hx, hb, hml, hown, hts⟩ G hv (k_L_coming_y l hst0 (σ := σ) (k := k) (n := 1) ⟨by omega, by omega⟩ ⟨by omega, by omega⟩ (hS) ⟨by omega, by omega⟩ (by omega)) qC_L_coming qM_L_132 qS_L_coming qN_L (by decide +kernel) ⟨Nat.le_of_ble_eq_true rfl, Nat.le_of_ble_eq_true rfl⟩ rfl rfl hl.1 rfl (Nat.le_of_ble_eq_true rfl) dL_kind_569 (hC (by omega) (by omega)) (fun H locs G => ?_)
                  refine r_top (b := du) (by rw [kor1, hdu]) ?_
                  refine lv_iload hx hb dL_kind_572 (lv_at hl 1 rfl) ?_
                  refine r_icmp_ne (tgt := 634) hx hb ⟨by omega, by omega⟩ ⟨by omega, by omega⟩ dL_kind_574 (by decide) (fun h_5 => absurd h_5 (by omega)) (fun h_5 => ?_)
                  have jn630 : ∀ (_ : Unit), ∀ (H : Heap) (locs : List Loc) (k1 n1 : Nat), (k1 : Int) ≤ 344 → (n1 : Int) ≤ 2064 → Wk D T z q0 f σ s H locs → ∀ (ls : Array Slot), lv_has ls 19 [(15, .int (kI ak)), (14, .int (kI du)), (13, .int (kI ru)), (0, .ref (z + 0)), (1, .int (kI k)), (2, .ref q0), (3, .int (kI ri)), (4, .int (kI ca)), (5, .int (kI so)), (6, .int (kI ol)), (7, .int (kI lo)), (8, .int (kI fr)), (9, .int (kI le)), (10, .int (kI se)), (11, .int (kI 1)), (12, .int (kI tp))] → W p l e (rmX 9 151 400 2400) s m ([.ref (z + 0), .int (kI k)] : List Value).toArray below meth c H locs k1 n1 (MQ below (QI D T z 133 1 σ) ([.ref (z + 0), .int (kI k)] : List Value).toArray s 400 2400 (Own T z)) (F0 m 630 ls []) := by
                    intro _  H locs k1 n1 hk1 hn1 G ls hl
                    refine r_iconst hx hb dL_kind_630 ?_
                    refine lv_goto (tgt := 635) hx hb dL_kind_631 (by decide) ?_
                    refine lv_istore (lv' := [(11, .int (kI 1)), (15, .int (kI ak)), (14, .int (kI du)), (13, .int (kI ru)), (0, .ref (z + 0)), (1, .int (kI k)), (2, .ref q0), (3, .int (kI ri)), (4, .int (kI ca)), (5, .int (kI so)), (6, .int (kI ol)), (7, .int (kI lo)), (8, .int (kI fr)), (9, .int (kI le)), (10, .int (kI se)), (12, .int (kI tp))]) hx hb dL_kind_635 hl (by decide) rfl (fun ls hl => ?_)
                    refine r_iconst hx hb dL_kind_637 ?_
                    refine lv_istore (lv' := [(16, .int (kI 0)), (11, .int (kI 1)), (15, .int (kI ak)), (14, .int (kI du)), (13, .int (kI ru)), (0, .ref (z + 0)), (1, .int (kI k)), (2, .ref q0), (3, .int (kI ri)), (4, .int (kI ca)), (5, .int (kI so)), (6, .int (kI ol)), (7, .int (kI lo)), (8, .int (kI fr)), (9, .int (kI le)), (10, .int (kI se)), (12, .int (kI tp))]) hx hb dL_kind_638 hl (by decide) rfl (fun ls hl => ?_)
                    have lp640 : ∀ (d : Nat) (w : Int), (0 ≤ w) → (w ≤ 4) → (4 - w : Int) < (d : Int) → ∀ (H : Heap) (locs : List Loc) (k1 n1 : Nat), (k1 : Int) ≤ 344 + 2 * w → (n1 : Int) ≤ 2064 + 12 * w → Wk D T z q0 f σ s H locs → ∀ (ls : Array Slot), lv_has ls 19 [(0, .ref (z + 0)), (1, .int (kI k)), (2, .ref q0), (3, .int (kI ri)), (4, .int (kI ca)), (5, .int (kI so)), (6, .int (kI ol)), (7, .int (kI lo)), (8, .int (kI fr)), (9, .int (kI le)), (10, .int (kI se)), (11, .int (kI 1)), (14, .int (kI du)), (16, .int (kI w))] → W p l e (rmX 9 151 400 2400) s m ([.ref (z + 0), .int (kI k)] : List Value).toArray below meth c H locs k1 n1 (MQ below (QI D T z 133 1 σ) ([.ref (z + 0), .int (kI k)] : List Value).toArray s 400 2400 (Own T z)) (F0 m 640 ls []) := by
                      intro d
                      induction d with
                      | zero => intro w h0 h1 hd; exact absurd hd (by omega)
                      | succ d ih640 =>
                        intro w h0 h1 hd H locs k1 n1 hk1 hn1 G ls hl
                        have hmw := hmr w
                        refine lv_iload hx hb dL_kind_640 (lv_at hl 13 rfl) ?_
                        refine r_iconst hx hb dL_kind_642 ?_
                        refine r_icmp_ge (tgt := 690) hx hb ⟨by omega, by omega⟩ ⟨by decide, by decide⟩ dL_kind_643 (by decide) (fun h_6 => ?_) (fun h_6 => ?_)
                        · skip
                          refine lv_iload hx hb dL_kind_690 (lv_at hl 11 rfl) ?_
                          refine r_if_eq (tgt := 806) hx hb ⟨by decide, by decide⟩ dL_kind_692 (by decide) (fun h_7 => absurd h_7 (by decide)) (fun _ => ?_)
                          refine lv_iload_n hx hb dL_kind_695 rfl (lv_at hl 3 rfl) ?_
                          refine lv_aload_n hx hb dL_kind_696 rfl (lv_at hl 0 rfl) ?_
                          refine lv_iload_n hx hb dL_kind_697 rfl (lv_at hl 1 rfl) ?_
                          refine r_iconst hx hb dL_kind_698 ?_
                          refine r_callWk (na := 3) (own := RL) ⟨hx, hb, hml, hown, hts⟩ G hv (k_L_kindOf_y l hst0 (σ := σ) (k := k) (w := 4) ⟨by omega, by omega⟩ ⟨by omega, by omega⟩ (hS) ⟨by omega, by omega⟩ (by omega)) qC_L_kindOf qM_L_122 qS_L_kindOf qN_L (by decide +kernel) ⟨Nat.le_of_ble_eq_true rfl, Nat.le_of_ble_eq_true rfl⟩ rfl rfl hl.1 rfl (Nat.le_of_ble_eq_true rfl) dL_kind_699 (hC (by omega) (by omega)) (fun H locs G => ?_)
                          refine r_top (b := hrp σ k) (rfl) ?_
                          refine r_icmp_ne (tgt := 806) hx hb ⟨by omega, by omega⟩ ⟨by omega, by omega⟩ dL_kind_702 (by decide) (fun h_8 => absurd h_8 (by omega)) (fun h_8 => ?_)
                          refine lv_aload_n hx hb dL_kind_705 rfl (lv_at hl 0 rfl) ?_
                          refine lv_iload_n hx hb dL_kind_706 rfl (lv_at hl 1 rfl) ?_
                          refine r_callWk (na := 2) (own := RL) ⟨hx, hb, hml, hown, hts⟩ G hv (k_L_keyIn_y l hst0 (σ := σ) (k := k) ⟨by omega, by omega⟩ (hS) ⟨by omega, by omega⟩) qC_L_keyIn qM_L_134 qS_L_keyIn qN_L (by decide +kernel) ⟨Nat.le_of_ble_eq_true rfl, Nat.le_of_ble_eq_true rfl⟩ rfl rfl hl.1 rfl (Nat.le_of_ble_eq_true rfl) dL_kind_707 (hC (by omega) (by omega)) (fun H locs G => ?_)
                          refine r_name (fun ki hki => ?_)
                          have hkiE : (0 ≤ du ∧ ki = 0) ∨ (du < 0 ∧ ki = so) := by rw [hki, dtk_eq (r := σ 14 0) hI hk hso, ← hdu]; split <;> omega
                          have jn724 : ∀ (_ : Unit), ∀ (H : Heap) (locs : List Loc) (k1 n1 : Nat), (k1 : Int) ≤ 360 → (n1 : Int) ≤ 2200 → Wk D T z q0 f σ s H locs → ∀ (ls : Array Slot), lv_has ls 19 [(0, .ref (z + 0)), (1, .int (kI k)), (2, .ref q0), (3, .int (kI ri)), (4, .int (kI ca)), (5, .int (kI so)), (6, .int (kI ol)), (7, .int (kI lo)), (8, .int (kI fr)), (9, .int (kI le)), (10, .int (kI se)), (11, .int (kI 1)), (14, .int (kI du)), (16, .int (kI w))] → W p l e (rmX 9 151 400 2400) s m ([.ref (z + 0), .int (kI k)] : List Value).toArray below meth c H locs k1 n1 (MQ below (QI D T z 133 1 σ) ([.ref (z + 0), .int (kI k)] : List Value).toArray s 400 2400 (Own T z)) (F0 m 724 ls []) := by
                            intro _  H locs k1 n1 hk1 hn1 G ls hl
                            refine lv_aload_n hx hb dL_kind_724 rfl (lv_at hl 0 rfl) ?_
                            refine lv_iload_n hx hb dL_kind_725 rfl (lv_at hl 1 rfl) ?_
                            refine r_callWk (na := 2) (own := RL) ⟨hx, hb, hml, hown, hts⟩ G hv (k_L_longest_y l hst0 (σ := σ) (k := k) ⟨by omega, by omega⟩ (hS) ⟨by omega, by omega⟩) qC_L_longest qM_L_136 qS_L_longest qN_L (by decide +kernel) ⟨Nat.le_of_ble_eq_true rfl, Nat.le_of_ble_eq_true rfl⟩ rfl rfl hl.1 rfl (Nat.le_of_ble_eq_true rfl) dL_kind_726 (hC (by omega) (by omega)) (fun H locs G => ?_)
                            refine r_name (fun lg hlg => ?_)
                            have hlgE : (0 ≤ fr ∧ lg = 99) ∨ (fr < 0 ∧ 99 < ol ∧ lg = 99) ∨ (fr < 0 ∧ ol ≤ 99 ∧ lg = ol) := by rw [hlg, lgs_eq hI hk hfrA hox]; (repeat' split) <;> omega
                            have jn756 : ∀ (_ : Unit), ∀ (H : Heap) (locs : List Loc) (k1 n1 : Nat), (k1 : Int) ≤ 366 → (n1 : Int) ≤ 2220 → Wk D T z q0 f σ s H locs → ∀ (ls : Array Slot), lv_has ls 19 [(0, .ref (z + 0)), (1, .int (kI k)), (2, .ref q0), (3, .int (kI ri)), (4, .int (kI ca)), (5, .int (kI so)), (6, .int (kI ol)), (7, .int (kI lo)), (8, .int (kI fr)), (9, .int (kI le)), (10, .int (kI se)), (11, .int (kI 1)), (14, .int (kI du)), (16, .int (kI w))] → W p l e (rmX 9 151 400 2400) s m ([.ref (z + 0), .int (kI k)] : List Value).toArray below meth c H locs k1 n1 (MQ below (QI D T z 133 1 σ) ([.ref (z + 0), .int (kI k)] : List Value).toArray s 400 2400 (Own T z)) (F0 m 756 ls []) := by
                              intro _  H locs k1 n1 hk1 hn1 G ls hl
                              refine lv_aload_n hx hb dL_kind_756 rfl (lv_at hl 0 rfl) ?_
                              refine lv_iload_n hx hb dL_kind_757 rfl (lv_at hl 1 rfl) ?_
                              refine r_bipush hx hb dL_kind_758 (by decide +kernel) ?_
                              refine r_callWk (na := 3) (own := RL) ⟨hx, hb, hml, hown, hts⟩ G hv (k_L_kindOf_y l hst0 (σ := σ) (k := k) (w := 9) ⟨by omega, by omega⟩ ⟨by omega, by omega⟩ (hS) ⟨by omega, by omega⟩ (by omega)) qC_L_kindOf qM_L_122 qS_L_kindOf qN_L (by decide +kernel) ⟨Nat.le_of_ble_eq_true rfl, Nat.le_of_ble_eq_true rfl⟩ rfl rfl hl.1 rfl (Nat.le_of_ble_eq_true rfl) dL_kind_760 (hC (by omega) (by omega)) (fun H locs G => ?_)
                              refine r_top (b := σ 13 k) (rfl) ?_
                              refine lv_aload_n hx hb dL_kind_763 rfl (lv_at hl 0 rfl) ?_
                              refine lv_iload_n hx hb dL_kind_764 rfl (lv_at hl 1 rfl) ?_
                              refine r_bipush hx hb dL_kind_765 (by decide +kernel) ?_
                              refine r_callWk (na := 3) (own := RL) ⟨hx, hb, hml, hown, hts⟩ G hv (k_L_kindOf_y l hst0 (σ := σ) (k := k) (w := 8) ⟨by omega, by omega⟩ ⟨by omega, by omega⟩ (hS) ⟨by omega, by omega⟩ (by omega)) qC_L_kindOf qM_L_122 qS_L_kindOf qN_L (by decide +kernel) ⟨Nat.le_of_ble_eq_true rfl, Nat.le_of_ble_eq_true rfl⟩ rfl rfl hl.1 rfl (Nat.le_of_ble_eq_true rfl) dL_kind_767 (hC (by omega) (by omega)) (fun H locs G => ?_)
                              refine r_top (b := σ 12 k) (rfl) ?_
                              refine r_icmp_gt (tgt := 806) hx hb ⟨by omega, by omega⟩ ⟨by omega, by omega⟩ dL_kind_770 (by decide) (fun h_9 => absurd h_9 (by omega)) (fun h_9 => ?_)
                              refine lv_aload_n hx hb dL_kind_773 rfl (lv_at hl 0 rfl) ?_
                              refine lv_iload_n hx hb dL_kind_774 rfl (lv_at hl 1 rfl) ?_
                              refine r_bipush hx hb dL_kind_775 (by decide +kernel) ?_
                              refine r_callWk (na := 3) (own := RL) ⟨hx, hb, hml, hown, hts⟩ G hv (k_L_kindOf_y l hst0 (σ := σ) (k := k) (w := 6) ⟨by omega, by omega⟩ ⟨by omega, by omega⟩ (hS) ⟨by omega, by omega⟩ (by omega)) qC_L_kindOf qM_L_122 qS_L_kindOf qN_L (by decide +kernel) ⟨Nat.le_of_ble_eq_true rfl, Nat.le_of_ble_eq_true rfl⟩ rfl rfl hl.1 rfl (Nat.le_of_ble_eq_true rfl) dL_kind_777 (hC (by omega) (by omega)) (fun H locs G => ?_)
                              refine r_top (b := σ 9 k) (rfl) ?_
                              refine lv_aload_n hx hb dL_kind_780 rfl (lv_at hl 0 rfl) ?_
                              refine lv_iload_n hx hb dL_kind_781 rfl (lv_at hl 1 rfl) ?_
                              refine r_bipush hx hb dL_kind_782 (by decide +kernel) ?_
                              refine r_callWk (na := 3) (own := RL) ⟨hx, hb, hml, hown, hts⟩ G hv (k_L_kindOf_y l hst0 (σ := σ) (k := k) (w := 10) ⟨by omega, by omega⟩ ⟨by omega, by omega⟩ (hS) ⟨by omega, by omega⟩ (by omega)) qC_L_kindOf qM_L_122 qS_L_kindOf qN_L (by decide +kernel) ⟨Nat.le_of_ble_eq_true rfl, Nat.le_of_ble_eq_true rfl⟩ rfl rfl hl.1 rfl (Nat.le_of_ble_eq_true rfl) dL_kind_784 (hC (by omega) (by omega)) (fun H locs G => ?_)
                              refine r_top (b := σ 11 k) (rfl) ?_
                              refine r_iadd hx hb dL_kind_787 ?_
                              refine lv_aload_n hx hb dL_kind_788 rfl (lv_at hl 0 rfl) ?_
                              refine lv_iload_n hx hb dL_kind_789 rfl (lv_at hl 1 rfl) ?_
                              refine r_bipush hx hb dL_kind_790 (by decide +kernel) ?_
                              refine r_callWk (na := 3) (own := RL) ⟨hx, hb, hml, hown, hts⟩ G hv (k_L_kindOf_y l hst0 (σ := σ) (k := k) (w := 7) ⟨by omega, by omega⟩ ⟨by omega, by omega⟩ (hS) ⟨by omega, by omega⟩ (by omega)) qC_L_kindOf qM_L_122 qS_L_kindOf qN_L (by decide +kernel) ⟨Nat.le_of_ble_eq_true rfl, Nat.le_of_ble_eq_true rfl⟩ rfl rfl hl.1 rfl (Nat.le_of_ble_eq_true rfl) dL_kind_792 (hC (by omega) (by omega)) (fun H locs G => ?_)
                              refine r_top (b := σ 10 k) (rfl) ?_
                              refine r_isub hx hb dL_kind_795 ?_
                              refine lv_aload_n hx hb dL_kind_796 rfl (lv_at hl 2 rfl) ?_
                              refine r_iconst hx hb dL_kind_797 ?_
                              refine r_kald hx hb G (by omega) (by omega) dL_kind_798 ?_
                              refine r_top (b := hm σ k 1) (hf4 1 (by decide) (by decide)) ?_
                              refine r_icmp_ne (tgt := 806) hx hb ⟨by omega, by omega⟩ ⟨by omega, by omega⟩ dL_kind_799 (by decide) (fun h_10 => absurd h_10 (by omega)) (fun h_10 => ?_)
                              refine r_iconst hx hb dL_kind_802 ?_
                              refine lv_goto (tgt := 807) hx hb dL_kind_803 (by decide) ?_
                              exact r_kzret hx hb hr hlk G.1 ⟨by omega, by omega⟩ (by omega) (by first | rfl | omega) rfl dL_kind_807
                            refine lv_iload hx hb dL_kind_729 (lv_at hl 8 rfl) ?_
                            refine r_if_lt (tgt := 739) hx hb ⟨by omega, by omega⟩ dL_kind_731 (by decide) (fun h_11 => ?_) (fun h_11 => ?_)
                            · skip
                              refine lv_iload hx hb dL_kind_739 (lv_at hl 6 rfl) ?_
                              refine r_bipush hx hb dL_kind_741 (by decide +kernel) ?_
                              refine r_icmp_le (tgt := 751) hx hb ⟨by omega, by omega⟩ ⟨by decide, by decide⟩ dL_kind_743 (by decide) (fun h_12 => ?_) (fun h_12 => ?_)
                              · skip
                                refine lv_iload hx hb dL_kind_751 (lv_at hl 6 rfl) ?_
                                refine r_icmp_ne (tgt := 806) hx hb ⟨by omega, by omega⟩ ⟨by omega, by omega⟩ dL_kind_753 (by decide) (fun h_13 => absurd h_13 (by omega)) (fun h_13 => ?_)
                                exact jn756 ()  _ _ _ _ (by omega) (by omega) G _ (lv_sub hl [0, 1, 2, 3, 4, 5, 6, 7, 8, 9, 10, 11, 12, 13] rfl)
                              · skip
                                refine r_bipush hx hb dL_kind_746 (by decide +kernel) ?_
                                refine lv_goto (tgt := 753) hx hb dL_kind_748 (by decide) ?_
                                refine r_icmp_ne (tgt := 806) hx hb ⟨by omega, by omega⟩ ⟨by decide, by decide⟩ dL_kind_753 (by decide) (fun h_14 => absurd h_14 (by omega)) (fun h_14 => ?_)
                                exact jn756 ()  _ _ _ _ (by omega) (by omega) G _ (lv_sub hl [0, 1, 2, 3, 4, 5, 6, 7, 8, 9, 10, 11, 12, 13] rfl)
                            · skip
                              refine r_bipush hx hb dL_kind_734 (by decide +kernel) ?_
                              refine lv_goto (tgt := 753) hx hb dL_kind_736 (by decide) ?_
                              refine r_icmp_ne (tgt := 806) hx hb ⟨by omega, by omega⟩ ⟨by decide, by decide⟩ dL_kind_753 (by decide) (fun h_15 => absurd h_15 (by omega)) (fun h_15 => ?_)
                              exact jn756 ()  _ _ _ _ (by omega) (by omega) G _ (lv_sub hl [0, 1, 2, 3, 4, 5, 6, 7, 8, 9, 10, 11, 12, 13] rfl)
                          refine lv_iload hx hb dL_kind_710 (lv_at hl 12 rfl) ?_
                          refine r_if_lt (tgt := 719) hx hb ⟨by omega, by omega⟩ dL_kind_712 (by decide) (fun h_16 => ?_) (fun h_16 => ?_)
                          · skip
                            refine lv_iload hx hb dL_kind_719 (lv_at hl 5 rfl) ?_
                            refine r_icmp_ne (tgt := 806) hx hb ⟨by omega, by omega⟩ ⟨by omega, by omega⟩ dL_kind_721 (by decide) (fun h_17 => absurd h_17 (by omega)) (fun h_17 => ?_)
                            exact jn724 ()  _ _ _ _ (by omega) (by omega) G _ (lv_sub hl [0, 1, 2, 3, 4, 5, 6, 7, 8, 9, 10, 11, 12, 13] rfl)
                          · skip
                            refine r_iconst hx hb dL_kind_715 ?_
                            refine lv_goto (tgt := 721) hx hb dL_kind_716 (by decide) ?_
                            refine r_icmp_ne (tgt := 806) hx hb ⟨by omega, by omega⟩ ⟨by decide, by decide⟩ dL_kind_721 (by decide) (fun h_18 => absurd h_18 (by omega)) (fun h_18 => ?_)
                            exact jn724 ()  _ _ _ _ (by omega) (by omega) G _ (lv_sub hl [0, 1, 2, 3, 4, 5, 6, 7, 8, 9, 10, 11, 12, 13] rfl)
                        · skip
                          refine lv_iload hx hb dL_kind_646 (lv_at hl 11 rfl) ?_
                          refine r_if_eq (tgt := 690) hx hb ⟨by decide, by decide⟩ dL_kind_648 (by decide) (fun h_19 => absurd h_19 (by decide)) (fun _ => ?_)
                          refine lv_aload_n hx hb dL_kind_651 rfl (lv_at hl 0 rfl) ?_
                          refine lv_iload_n hx hb dL_kind_652 rfl (lv_at hl 1 rfl) ?_
                          refine lv_iload hx hb dL_kind_653 (lv_at hl 13 rfl) ?_
                          refine r_iconst hx hb dL_kind_655 ?_
                          refine r_icmp_ne (tgt := 663) hx hb ⟨by omega, by omega⟩ ⟨by decide, by decide⟩ dL_kind_656 (by decide) (fun h_20 => ?_) (fun h_20 => ?_)
                          · skip
                            refine r_iconst hx hb dL_kind_663 ?_
                            refine lv_iload hx hb dL_kind_664 (lv_at hl 13 rfl) ?_
                            refine r_iadd hx hb dL_kind_666 ?_
                            refine r_callWk (na := 3) (own := RL) ⟨hx, hb, hml, hown, hts⟩ G hv (k_L_kindOf_y l hst0 (σ := σ) (k := k) (w := 1 + w) ⟨by omega, by omega⟩ ⟨by omega, by omega⟩ (hS) ⟨by omega, by omega⟩ (by omega)) qC_L_kindOf qM_L_122 qS_L_kindOf qN_L (by decide +kernel) ⟨Nat.le_of_ble_eq_true rfl, Nat.le_of_ble_eq_true rfl⟩ rfl rfl hl.1 rfl (Nat.le_of_ble_eq_true rfl) dL_kind_667 (hC (by omega) (by omega)) (fun H locs G => ?_)
                            refine r_top (b := hm σ k w) (pkd_w (by omega) (by omega)) ?_
                            refine lv_aload_n hx hb dL_kind_670 rfl (lv_at hl 2 rfl) ?_
                            refine lv_iload hx hb dL_kind_671 (lv_at hl 13 rfl) ?_
                            refine r_kald hx hb G (by omega) (by omega) dL_kind_673 ?_
                            refine r_top (b := hm σ k w) (hf4 w (by omega) (by omega)) ?_
                            refine r_icmp_ne (tgt := 681) hx hb ⟨by omega, by omega⟩ ⟨by omega, by omega⟩ dL_kind_674 (by decide) (fun h_21 => absurd h_21 (by omega)) (fun h_21 => ?_)
                            refine r_iconst hx hb dL_kind_677 ?_
                            refine lv_goto (tgt := 682) hx hb dL_kind_678 (by decide) ?_
                            refine lv_istore (lv' := [(11, .int (kI 1)), (0, .ref (z + 0)), (1, .int (kI k)), (2, .ref q0), (3, .int (kI ri)), (4, .int (kI ca)), (5, .int (kI so)), (6, .int (kI ol)), (7, .int (kI lo)), (8, .int (kI fr)), (9, .int (kI le)), (10, .int (kI se)), (14, .int (kI du)), (16, .int (kI w))]) hx hb dL_kind_682 hl (by decide) rfl (fun ls hl => ?_)
                            refine r_iinc (lv' := [(16, .int (kI (w + 1))), (11, .int (kI 1)), (0, .ref (z + 0)), (1, .int (kI k)), (2, .ref q0), (3, .int (kI ri)), (4, .int (kI ca)), (5, .int (kI so)), (6, .int (kI ol)), (7, .int (kI lo)), (8, .int (kI fr)), (9, .int (kI le)), (10, .int (kI se)), (14, .int (kI du))]) hx hb dL_kind_684 hl (k := 13) rfl (by decide) rfl (fun ls hl => ?_)
                            refine lv_goto (tgt := 640) hx hb dL_kind_687 (by decide) ?_
                            exact ih640 (w + 1) (by omega) (by omega) (by omega) _ _ _ _ (by omega) (by omega) G _ (lv_sub hl [2, 3, 4, 5, 6, 7, 8, 9, 10, 11, 12, 1, 13, 0] rfl)
                          · skip
                            refine r_iconst hx hb dL_kind_659 ?_
                            refine lv_goto (tgt := 667) hx hb dL_kind_660 (by decide) ?_
                            refine r_callWk (na := 3) (own := RL) ⟨hx, hb, hml, hown, hts⟩ G hv (k_L_kindOf_y l hst0 (σ := σ) (k := k) (w := 5) ⟨by omega, by omega⟩ ⟨by omega, by omega⟩ (hS) ⟨by omega, by omega⟩ (by omega)) qC_L_kindOf qM_L_122 qS_L_kindOf qN_L (by decide +kernel) ⟨Nat.le_of_ble_eq_true rfl, Nat.le_of_ble_eq_true rfl⟩ rfl rfl hl.1 rfl (Nat.le_of_ble_eq_true rfl) dL_kind_667 (hC (by omega) (by omega)) (fun H locs G => ?_)
                            refine r_top (b := hm σ k w) (by rw [show w = 3 by omega]; rfl) ?_
                            refine lv_aload_n hx hb dL_kind_670 rfl (lv_at hl 2 rfl) ?_
                            refine lv_iload hx hb dL_kind_671 (lv_at hl 13 rfl) ?_
                            refine r_kald hx hb G (by omega) (by omega) dL_kind_673 ?_
                            refine r_top (b := hm σ k w) (hf4 w (by omega) (by omega)) ?_
                            refine r_icmp_ne (tgt := 681) hx hb ⟨by omega, by omega⟩ ⟨by omega, by omega⟩ dL_kind_674 (by decide) (fun h_22 => absurd h_22 (by omega)) (fun h_22 => ?_)
                            refine r_iconst hx hb dL_kind_677 ?_
                            refine lv_goto (tgt := 682) hx hb dL_kind_678 (by decide) ?_
                            refine lv_istore (lv' := [(11, .int (kI 1)), (0, .ref (z + 0)), (1, .int (kI k)), (2, .ref q0), (3, .int (kI ri)), (4, .int (kI ca)), (5, .int (kI so)), (6, .int (kI ol)), (7, .int (kI lo)), (8, .int (kI fr)), (9, .int (kI le)), (10, .int (kI se)), (14, .int (kI du)), (16, .int (kI w))]) hx hb dL_kind_682 hl (by decide) rfl (fun ls hl => ?_)
                            refine r_iinc (lv' := [(16, .int (kI (w + 1))), (11, .int (kI 1)), (0, .ref (z + 0)), (1, .int (kI k)), (2, .ref q0), (3, .int (kI ri)), (4, .int (kI ca)), (5, .int (kI so)), (6, .int (kI ol)), (7, .int (kI lo)), (8, .int (kI fr)), (9, .int (kI le)), (10, .int (kI se)), (14, .int (kI du))]) hx hb dL_kind_684 hl (k := 13) rfl (by decide) rfl (fun ls hl => ?_)
                            refine lv_goto (tgt := 640) hx hb dL_kind_687 (by decide) ?_
                            exact ih640 (w + 1) (by omega) (by omega) (by omega) _ _ _ _ (by omega) (by omega) G _ (lv_sub hl [2, 3, 4, 5, 6, 7, 8, 9, 10, 11, 12, 1, 13, 0] rfl)
                    exact lp640 5 0 (by omega) (by omega) (by omega) _ _ _ _ (by omega) (by omega) G _ (lv_sub hl [5, 6, 7, 8, 9, 10, 11, 12, 13, 14, 15, 1, 3, 0] rfl)
                  refine lv_iload hx hb dL_kind_577 (lv_at hl 7 rfl) ?_
                  refine r_if_le (tgt := 615) hx hb ⟨by omega, by omega⟩ dL_kind_579 (by decide) (fun h_23 => ?_) (fun h_23 => ?_)
                  · skip
                    refine lv_iload hx hb dL_kind_615 (lv_at hl 7 rfl) ?_
                    refine r_if_eq (tgt := 630) hx hb ⟨by omega, by omega⟩ dL_kind_617 (by decide) (fun h_24 => ?_) (fun h_24 => ?_)
                    · skip
                      exact jn630 ()  _ _ _ _ (by omega) (by omega) G _ (lv_sub hl [0, 1, 2, 3, 4, 5, 6, 7, 8, 9, 10, 11, 12, 13, 14, 15] rfl)
                    · skip
                      refine lv_aload_n hx hb dL_kind_620 rfl (lv_at hl 3 rfl) ?_
                      refine lv_iload_n hx hb dL_kind_621 rfl (lv_at hl 4 rfl) ?_
                      refine r_bipush hx hb dL_kind_622 (by decide +kernel) ?_
                      refine r_callWk (na := 3) (own := RL) ⟨hx, hb, hml, hown, hts⟩ G hv (k_L_coming_y l hst0 (σ := σ) (k := k) (n := 16) ⟨by omega, by omega⟩ ⟨by omega, by omega⟩ (hS) ⟨by omega, by omega⟩ (by omega)) qC_L_coming qM_L_132 qS_L_coming qN_L (by decide +kernel) ⟨Nat.le_of_ble_eq_true rfl, Nat.le_of_ble_eq_true rfl⟩ rfl rfl hl.1 rfl (Nat.le_of_ble_eq_true rfl) dL_kind_624 (hC (by omega) (by omega)) (fun H locs G => ?_)
                      refine r_name (fun c2 hc2 => ?_)
                      have hc2y : 0 ≤ c2 := by rw [hc2]; exact kor_yes hI hk (by decide) (by omega)
                      have hc2r := kor_rg (σ := σ) (k := k) (n := 16) (by decide)
                      refine r_if_lt (tgt := 634) hx hb ⟨by omega, by omega⟩ dL_kind_627 (by decide) (fun h_25 => absurd h_25 (by omega)) (fun h_25 => ?_)
                      exact jn630 ()  _ _ _ _ (by omega) (by omega) G _ (lv_sub hl [0, 1, 2, 3, 4, 5, 6, 7, 8, 9, 10, 11, 12, 13, 14, 15] rfl)
                  · skip
                    refine lv_iload hx hb dL_kind_582 (lv_at hl 7 rfl) ?_
                    refine r_bipush hx hb dL_kind_584 (by decide +kernel) ?_
                    refine r_icmp_ge (tgt := 615) hx hb ⟨by omega, by omega⟩ ⟨by decide, by decide⟩ dL_kind_586 (by decide) (fun h_26 => ?_) (fun h_26 => ?_)
                    · skip
                      refine lv_iload hx hb dL_kind_615 (lv_at hl 7 rfl) ?_
                      refine r_if_eq (tgt := 630) hx hb ⟨by omega, by omega⟩ dL_kind_617 (by decide) (fun h_27 => ?_) (fun h_27 => ?_)
                      · skip
                        exact jn630 ()  _ _ _ _ (by omega) (by omega) G _ (lv_sub hl [0, 1, 2, 3, 4, 5, 6, 7, 8, 9, 10, 11, 12, 13, 14, 15] rfl)
                      · skip
                        refine lv_aload_n hx hb dL_kind_620 rfl (lv_at hl 3 rfl) ?_
                        refine lv_iload_n hx hb dL_kind_621 rfl (lv_at hl 4 rfl) ?_
                        refine r_bipush hx hb dL_kind_622 (by decide +kernel) ?_
                        refine r_callWk (na := 3) (own := RL) ⟨hx, hb, hml, hown, hts⟩ G hv (k_L_coming_y l hst0 (σ := σ) (k := k) (n := 16) ⟨by omega, by omega⟩ ⟨by omega, by omega⟩ (hS) ⟨by omega, by omega⟩ (by omega)) qC_L_coming qM_L_132 qS_L_coming qN_L (by decide +kernel) ⟨Nat.le_of_ble_eq_true rfl, Nat.le_of_ble_eq_true rfl⟩ rfl rfl hl.1 rfl (Nat.le_of_ble_eq_true rfl) dL_kind_624 (hC (by omega) (by omega)) (fun H locs G => ?_)
                        refine r_name (fun c2 hc2 => ?_)
                        have hc2y : 0 ≤ c2 := by rw [hc2]; exact kor_yes hI hk (by decide) (by omega)
                        have hc2r := kor_rg (σ := σ) (k := k) (n := 16) (by decide)
                        refine r_if_lt (tgt := 634) hx hb ⟨by omega, by omega⟩ dL_kind_627 (by decide) (fun h_28 => absurd h_28 (by omega)) (fun h_28 => ?_)
                        exact jn630 ()  _ _ _ _ (by omega) (by omega) G _ (lv_sub hl [0, 1, 2, 3, 4, 5, 6, 7, 8, 9, 10, 11, 12, 13, 14, 15] rfl)
                    · skip
                      refine lv_aload_n hx hb dL_kind_589 rfl (lv_at hl 3 rfl) ?_
                      refine lv_iload_n hx hb dL_kind_590 rfl (lv_at hl 4 rfl) ?_
                      refine lv_iload hx hb dL_kind_591 (lv_at hl 7 rfl) ?_
                      refine r_callWk (na := 3) (own := RL) ⟨hx, hb, hml, hown, hts⟩ G hv (k_L_coming_y l hst0 (σ := σ) (k := k) (n := ca) ⟨by omega, by omega⟩ ⟨by omega, by omega⟩ (hS) ⟨by omega, by omega⟩ (by omega)) qC_L_coming qM_L_132 qS_L_coming qN_L (by decide +kernel) ⟨Nat.le_of_ble_eq_true rfl, Nat.le_of_ble_eq_true rfl⟩ rfl rfl hl.1 rfl (Nat.le_of_ble_eq_true rfl) dL_kind_593 (hC (by omega) (by omega)) (fun H locs G => ?_)
                      refine r_name (fun c1 hc1 => ?_)
                      have hc1y : 0 ≤ c1 := by rw [hc1]; exact kor_yes hI hk (by omega) (by omega)
                      have hc1r := kor_rg (σ := σ) (k := k) (n := ca) (by omega)
                      refine r_if_lt (tgt := 634) hx hb ⟨by omega, by omega⟩ dL_kind_596 (by decide) (fun h_29 => absurd h_29 (by omega)) (fun h_29 => ?_)
                      refine lv_aload_n hx hb dL_kind_599 rfl (lv_at hl 3 rfl) ?_
                      refine lv_iload_n hx hb dL_kind_600 rfl (lv_at hl 4 rfl) ?_
                      refine lv_iload hx hb dL_kind_601 (lv_at hl 7 rfl) ?_
                      refine r_iconst hx hb dL_kind_603 ?_
                      refine r_iadd hx hb dL_kind_604 ?_
                      refine r_callWk (na := 3) (own := RL) ⟨hx, hb, hml, hown, hts⟩ G hv (k_L_coming_y l hst0 (σ := σ) (k := k) (n := ca + 1) ⟨by omega, by omega⟩ ⟨by omega, by omega⟩ (hS) ⟨by omega, by omega⟩ (by omega)) qC_L_coming qM_L_132 qS_L_coming qN_L (by decide +kernel) ⟨Nat.le_of_ble_eq_true rfl, Nat.le_of_ble_eq_true rfl⟩ rfl rfl hl.1 rfl (Nat.le_of_ble_eq_true rfl) dL_kind_605 (hC (by omega) (by omega)) (fun H locs G => ?_)
                      refine r_top (b := (-1)) (kor_not hI hk (by omega)) ?_
                      refine r_iconst hx hb dL_kind_608 ?_
                      refine r_icmp_ne (tgt := 634) hx hb ⟨by decide, by decide⟩ ⟨by decide, by decide⟩ dL_kind_609 (by decide) (fun h_30 => absurd h_30 (by decide)) (fun _ => ?_)
                      refine lv_goto (tgt := 630) hx hb dL_kind_612 (by decide) ?_
                      exact jn630 ()  _ _ _ _ (by omega) (by omega) G _ (lv_sub hl [0, 1, 2, 3, 4, 5, 6, 7, 8, 9, 10, 11, 12, 13, 14, 15] rfl)
                refine lv_iload hx hb dL_kind_538 (lv_at hl 0 rfl) ?_
                refine lv_iload hx hb dL_kind_540 (lv_at hl 1 rfl) ?_
                refine r_if_lt (tgt := 550) hx hb ⟨by omega, by omega⟩ dL_kind_542 (by decide) (fun h_31 => ?_) (fun h_31 => ?_)
                · skip
                  refine lv_aload_n hx hb dL_kind_550 rfl (lv_at hl 5 rfl) ?_
                  refine r_iconst hx hb dL_kind_551 ?_
                  refine r_kald hx hb G (by omega) (by omega) dL_kind_552 ?_
                  refine r_top (b := hm σ k 2) (hf4 2 (by decide) (by decide)) ?_
                  refine r_if_ne (tgt := 561) hx hb ⟨by omega, by omega⟩ dL_kind_553 (by decide) (fun h_32 => ?_) (fun h_32 => ?_)
                  · skip
                    refine r_bipush hx hb dL_kind_561 (by decide +kernel) ?_
                    refine r_icmp_ne (tgt := 634) hx hb ⟨by omega, by omega⟩ ⟨by decide, by decide⟩ dL_kind_563 (by decide) (fun h_33 => absurd h_33 (by omega)) (fun h_33 => ?_)
                    exact jn566 ()  _ _ _ _ (by omega) (by omega) G _ (lv_sub hl [0, 1, 2, 3, 4, 5, 6, 7, 8, 9, 10, 11, 12, 13, 14, 15] rfl)
                  · skip
                    refine r_bipush hx hb dL_kind_556 (by decide +kernel) ?_
                    refine lv_goto (tgt := 563) hx hb dL_kind_558 (by decide) ?_
                    refine r_icmp_ne (tgt := 634) hx hb ⟨by omega, by omega⟩ ⟨by decide, by decide⟩ dL_kind_563 (by decide) (fun h_34 => absurd h_34 (by omega)) (fun h_34 => ?_)
                    exact jn566 ()  _ _ _ _ (by omega) (by omega) G _ (lv_sub hl [0, 1, 2, 3, 4, 5, 6, 7, 8, 9, 10, 11, 12, 13, 14, 15] rfl)
                · skip
                  refine lv_iload hx hb dL_kind_545 (lv_at hl 1 rfl) ?_
                  refine lv_goto (tgt := 563) hx hb dL_kind_547 (by decide) ?_
                  refine r_icmp_ne (tgt := 634) hx hb ⟨by omega, by omega⟩ ⟨by omega, by omega⟩ dL_kind_563 (by decide) (fun h_35 => absurd h_35 (by omega)) (fun h_35 => ?_)
                  exact jn566 ()  _ _ _ _ (by omega) (by omega) G _ (lv_sub hl [0, 1, 2, 3, 4, 5, 6, 7, 8, 9, 10, 11, 12, 13, 14, 15] rfl)
              refine lv_iload hx hb dL_kind_458 (lv_at hl 0 rfl) ?_
              refine r_if_ne (tgt := 478) hx hb ⟨by omega, by omega⟩ dL_kind_460 (by decide) (fun h_36 => ?_) (fun h_36 => ?_)
              · skip
                refine lv_iload hx hb dL_kind_478 (lv_at hl 0 rfl) ?_
                refine r_iconst hx hb dL_kind_480 ?_
                refine r_icmp_ne (tgt := 499) hx hb ⟨by omega, by omega⟩ ⟨by decide, by decide⟩ dL_kind_481 (by decide) (fun h_37 => ?_) (fun h_37 => ?_)
                · skip
                  refine lv_iload hx hb dL_kind_499 (lv_at hl 0 rfl) ?_
                  refine r_iconst hx hb dL_kind_501 ?_
                  refine r_icmp_ne (tgt := 510) hx hb ⟨by omega, by omega⟩ ⟨by decide, by decide⟩ dL_kind_502 (by decide) (fun h_38 => ?_) (fun h_38 => ?_)
                  · skip
                    refine lv_iload hx hb dL_kind_510 (lv_at hl 10 rfl) ?_
                    exact jn512 le (by rw [← hdue]; (repeat' split) <;> omega) (by omega) _ _ _ _ (by omega) (by omega) G _ (lv_sub hl [0, 1, 2, 3, 4, 5, 6, 7, 8, 9, 10, 11, 12, 13] rfl)
                  · skip
                    refine lv_iload hx hb dL_kind_505 (lv_at hl 8 rfl) ?_
                    refine lv_goto (tgt := 512) hx hb dL_kind_507 (by decide) ?_
                    exact jn512 lo (by rw [← hdue]; (repeat' split) <;> omega) (by omega) _ _ _ _ (by omega) (by omega) G _ (lv_sub hl [0, 1, 2, 3, 4, 5, 6, 7, 8, 9, 10, 11, 12, 13] rfl)
                · skip
                  refine lv_iload hx hb dL_kind_484 (lv_at hl 13 rfl) ?_
                  refine r_if_lt (tgt := 494) hx hb ⟨by omega, by omega⟩ dL_kind_486 (by decide) (fun h_39 => ?_) (fun h_39 => ?_)
                  · skip
                    refine lv_iload hx hb dL_kind_494 (lv_at hl 9 rfl) ?_
                    refine lv_goto (tgt := 512) hx hb dL_kind_496 (by decide) ?_
                    exact jn512 fr (by rw [← hdue]; (repeat' split) <;> omega) (by omega) _ _ _ _ (by omega) (by omega) G _ (lv_sub hl [0, 1, 2, 3, 4, 5, 6, 7, 8, 9, 10, 11, 12, 13] rfl)
                  · skip
                    refine lv_iload hx hb dL_kind_489 (lv_at hl 13 rfl) ?_
                    refine lv_goto (tgt := 512) hx hb dL_kind_491 (by decide) ?_
                    exact jn512 tp (by rw [← hdue]; (repeat' split) <;> omega) (by omega) _ _ _ _ (by omega) (by omega) G _ (lv_sub hl [0, 1, 2, 3, 4, 5, 6, 7, 8, 9, 10, 11, 12, 13] rfl)
              · skip
                refine lv_iload hx hb dL_kind_463 (lv_at hl 9 rfl) ?_
                refine r_if_lt (tgt := 473) hx hb ⟨by omega, by omega⟩ dL_kind_465 (by decide) (fun h_40 => ?_) (fun h_40 => ?_)
                · skip
                  refine lv_iload hx hb dL_kind_473 (lv_at hl 13 rfl) ?_
                  refine lv_goto (tgt := 512) hx hb dL_kind_475 (by decide) ?_
                  exact jn512 tp (by rw [← hdue]; (repeat' split) <;> omega) (by omega) _ _ _ _ (by omega) (by omega) G _ (lv_sub hl [0, 1, 2, 3, 4, 5, 6, 7, 8, 9, 10, 11, 12, 13] rfl)
                · skip
                  refine lv_iload hx hb dL_kind_468 (lv_at hl 9 rfl) ?_
                  refine lv_goto (tgt := 512) hx hb dL_kind_470 (by decide) ?_
                  exact jn512 fr (by rw [← hdue]; (repeat' split) <;> omega) (by omega) _ _ _ _ (by omega) (by omega) G _ (lv_sub hl [0, 1, 2, 3, 4, 5, 6, 7, 8, 9, 10, 11, 12, 13] rfl)
            · skip
              refine lv_iload hx hb dL_kind_410 (lv_at hl 11 rfl) ?_
              refine r_if_eq (tgt := 451) hx hb ⟨by decide, by decide⟩ dL_kind_412 (by decide) (fun h_41 => absurd h_41 (by decide)) (fun _ => ?_)
              refine lv_aload_n hx hb dL_kind_415 rfl (lv_at hl 0 rfl) ?_
              refine lv_iload_n hx hb dL_kind_416 rfl (lv_at hl 1 rfl) ?_
              refine lv_aload_n hx hb dL_kind_417 rfl (lv_at hl 0 rfl) ?_
              refine lv_iload_n hx hb dL_kind_418 rfl (lv_at hl 1 rfl) ?_
              refine lv_iload hx hb dL_kind_419 (lv_at hl 13 rfl) ?_
              refine r_callWk (na := 3) (own := RL) ⟨hx, hb, hml, hown, hts⟩ G hv (k_L_pile_y l hst0 (σ := σ) (k := k) (q := pp) ⟨by omega, by omega⟩ ⟨by omega, by omega⟩ (hS) ⟨by omega, by omega⟩ (by omega)) qC_L_pile qM_L_126 qS_L_pile qN_L (by decide +kernel) ⟨Nat.le_of_ble_eq_true rfl, Nat.le_of_ble_eq_true rfl⟩ rfl rfl hl.1 rfl (Nat.le_of_ble_eq_true rfl) dL_kind_421 (hC (by omega) (by omega)) (fun H locs G => ?_)
              refine r_name (fun ky hky => ?_)
              have hkt := kat_or (σ := σ) (k := k) (q := pp)
              rw [← hky] at hkt
              rcases hkt with ⟨hn1, hn2⟩ | ⟨hy1, hy2, hy3⟩
              · skip
                have ht2 := ht.skip (fun y a b q e => hn2 y a b ⟨q.1, e⟩)
                refine r_iconst hx hb dL_kind_424 ?_
                refine r_callWk (na := 4) (own := RL) ⟨hx, hb, hml, hown, hts⟩ G hv (k_L_keyOf_1 l hst0 (σ := σ) (k := k) (y := ky) (w := 4) ⟨by omega, by omega⟩ ⟨by omega, by omega⟩ ⟨by omega, by omega⟩ (hS) (by first | omega | decide)) qC_L_keyOf qM_L_124 qS_L_keyOf qN_L (by decide +kernel) ⟨Nat.le_of_ble_eq_true rfl, Nat.le_of_ble_eq_true rfl⟩ rfl rfl hl.1 rfl (Nat.le_of_ble_eq_true rfl) dL_kind_425 (hC (by omega) (by omega)) (fun H locs G => ?_)
                refine r_if_ne (tgt := 441) hx hb ⟨by decide, by decide⟩ dL_kind_428 (by decide) (fun _ => ?_) (fun h_42 => absurd h_42 (by decide))
                refine lv_iload hx hb dL_kind_441 (lv_at hl 12 rfl) ?_
                refine lv_istore (lv' := [(12, .int (kI tp)), (0, .ref (z + 0)), (1, .int (kI k)), (2, .ref q0), (3, .int (kI ri)), (4, .int (kI ca)), (5, .int (kI so)), (6, .int (kI ol)), (7, .int (kI lo)), (8, .int (kI fr)), (9, .int (kI le)), (10, .int (kI se)), (11, .int (kI 1)), (13, .int (kI pp))]) hx hb dL_kind_443 hl (by decide) rfl (fun ls hl => ?_)
                refine r_iinc (lv' := [(13, .int (kI (pp - 1))), (12, .int (kI tp)), (0, .ref (z + 0)), (1, .int (kI k)), (2, .ref q0), (3, .int (kI ri)), (4, .int (kI ca)), (5, .int (kI so)), (6, .int (kI ol)), (7, .int (kI lo)), (8, .int (kI fr)), (9, .int (kI le)), (10, .int (kI se)), (11, .int (kI 1))]) hx hb dL_kind_445 hl (k := 13) rfl (by decide) rfl (fun ls hl => ?_)
                refine lv_goto (tgt := 405) hx hb dL_kind_448 (by decide) ?_
                exact ih405 (pp - 1) tp (by omega) (by omega) (ht2) (by omega) (by omega) _ _ _ _ (by omega) (by omega) G _ (lv_sub hl [2, 3, 4, 5, 6, 7, 8, 9, 10, 11, 12, 13, 1, 0] rfl)
              · skip
                refine r_iconst hx hb dL_kind_424 ?_
                refine r_callWk (na := 4) (own := RL) ⟨hx, hb, hml, hown, hts⟩ G hv (k_L_keyOf_y l hst0 (σ := σ) (k := k) (y := ky) (w := 4) ⟨by omega, by omega⟩ ⟨by omega, by omega⟩ ⟨by omega, by omega⟩ (hS) ⟨⟨by omega, by omega⟩, by omega, by omega⟩ (by omega)) qC_L_keyOf qM_L_124 qS_L_keyOf qN_L (by decide +kernel) ⟨Nat.le_of_ble_eq_true rfl, Nat.le_of_ble_eq_true rfl⟩ rfl rfl hl.1 rfl (Nat.le_of_ble_eq_true rfl) dL_kind_425 (hC (by omega) (by omega)) (fun H locs G => ?_)
                refine r_name (fun lf hlf => ?_)
                have hpk := pok_c (σ := σ) (k := k) (y := ky)
                have hdt := dtr_c (σ := σ) (k := k) (y := ky)
                have hdt0 := dtr_0 (σ := σ) (k := k) (y := ky)
                rw [← hlf] at hpk
                have gs := hI.ic.2.1 k hk.1 hk.2
                have gr := hI.rg hk hy1
                refine r_if_ne (tgt := 441) hx hb ⟨by omega, by omega⟩ dL_kind_428 (by decide) (fun h_43 => ?_) (fun h_43 => ?_)
                · skip
                  have ht2 := TP_skip2 hI hk ht hy1 hy2 hy3 (by omega)
                  refine lv_iload hx hb dL_kind_441 (lv_at hl 12 rfl) ?_
                  refine lv_istore (lv' := [(12, .int (kI tp)), (0, .ref (z + 0)), (1, .int (kI k)), (2, .ref q0), (3, .int (kI ri)), (4, .int (kI ca)), (5, .int (kI so)), (6, .int (kI ol)), (7, .int (kI lo)), (8, .int (kI fr)), (9, .int (kI le)), (10, .int (kI se)), (11, .int (kI 1)), (13, .int (kI pp))]) hx hb dL_kind_443 hl (by decide) rfl (fun ls hl => ?_)
                  refine r_iinc (lv' := [(13, .int (kI (pp - 1))), (12, .int (kI tp)), (0, .ref (z + 0)), (1, .int (kI k)), (2, .ref q0), (3, .int (kI ri)), (4, .int (kI ca)), (5, .int (kI so)), (6, .int (kI ol)), (7, .int (kI lo)), (8, .int (kI fr)), (9, .int (kI le)), (10, .int (kI se)), (11, .int (kI 1))]) hx hb dL_kind_445 hl (k := 13) rfl (by decide) rfl (fun ls hl => ?_)
                  refine lv_goto (tgt := 405) hx hb dL_kind_448 (by decide) ?_
                  exact ih405 (pp - 1) tp (by omega) (by omega) (ht2) (by omega) (by omega) _ _ _ _ (by omega) (by omega) G _ (lv_sub hl [2, 3, 4, 5, 6, 7, 8, 9, 10, 11, 12, 13, 1, 0] rfl)
                · skip
                  have ht2 := TP_take2 hI hk ht hy1 hy2 hy3 (by omega)
                  refine lv_aload_n hx hb dL_kind_431 rfl (lv_at hl 0 rfl) ?_
                  refine lv_iload_n hx hb dL_kind_432 rfl (lv_at hl 1 rfl) ?_
                  refine lv_iload hx hb dL_kind_433 (lv_at hl 13 rfl) ?_
                  refine r_callWk (na := 3) (own := RL) ⟨hx, hb, hml, hown, hts⟩ G hv (k_L_pile_y l hst0 (σ := σ) (k := k) (q := pp) ⟨by omega, by omega⟩ ⟨by omega, by omega⟩ (hS) ⟨by omega, by omega⟩ (by omega)) qC_L_pile qM_L_126 qS_L_pile qN_L (by decide +kernel) ⟨Nat.le_of_ble_eq_true rfl, Nat.le_of_ble_eq_true rfl⟩ rfl rfl hl.1 rfl (Nat.le_of_ble_eq_true rfl) dL_kind_435 (hC (by omega) (by omega)) (fun H locs G => ?_)
                  refine r_top (b := ky) (hky.symm) ?_
                  refine lv_goto (tgt := 443) hx hb dL_kind_438 (by decide) ?_
                  refine lv_istore (lv' := [(12, .int (kI ky)), (0, .ref (z + 0)), (1, .int (kI k)), (2, .ref q0), (3, .int (kI ri)), (4, .int (kI ca)), (5, .int (kI so)), (6, .int (kI ol)), (7, .int (kI lo)), (8, .int (kI fr)), (9, .int (kI le)), (10, .int (kI se)), (11, .int (kI 1)), (13, .int (kI pp))]) hx hb dL_kind_443 hl (by decide) rfl (fun ls hl => ?_)
                  refine r_iinc (lv' := [(13, .int (kI (pp - 1))), (12, .int (kI ky)), (0, .ref (z + 0)), (1, .int (kI k)), (2, .ref q0), (3, .int (kI ri)), (4, .int (kI ca)), (5, .int (kI so)), (6, .int (kI ol)), (7, .int (kI lo)), (8, .int (kI fr)), (9, .int (kI le)), (10, .int (kI se)), (11, .int (kI 1))]) hx hb dL_kind_445 hl (k := 13) rfl (by decide) rfl (fun ls hl => ?_)
                  refine lv_goto (tgt := 405) hx hb dL_kind_448 (by decide) ?_
                  exact ih405 (pp - 1) ky (by omega) (by omega) (ht2) (by omega) (by omega) _ _ _ _ (by omega) (by omega) G _ (lv_sub hl [2, 3, 4, 5, 6, 7, 8, 9, 10, 11, 12, 13, 1, 0] rfl)
        exact lp405 17 (hm σ k 2 - 1) (-1) (by omega) (by omega) (TP.start hI hk) (⟨by decide, by decide⟩) (by omega) _ _ _ _ (by omega) (by omega) G _ (lv_sub hl [2, 3, 4, 5, 6, 7, 8, 9, 10, 11, 12, 13, 1, 0] rfl)
      · skip
        refine lv_iload hx hb dL_kind_44 (lv_at hl 11 rfl) ?_
        refine r_if_eq (tgt := 395) hx hb ⟨by decide, by decide⟩ dL_kind_46 (by decide) (fun h_44 => absurd h_44 (by decide)) (fun _ => ?_)
        refine lv_aload_n hx hb dL_kind_49 rfl (lv_at hl 0 rfl) ?_
        refine lv_iload_n hx hb dL_kind_50 rfl (lv_at hl 1 rfl) ?_
        refine lv_iload hx hb dL_kind_51 (lv_at hl 12 rfl) ?_
        refine r_iconst hx hb dL_kind_53 ?_
        refine r_callWk (na := 4) (own := RL) ⟨hx, hb, hml, hown, hts⟩ G hv (k_L_keyOf_y l hst0 (σ := σ) (k := k) (y := x) (w := 0) ⟨by omega, by omega⟩ ⟨by omega, by omega⟩ ⟨by omega, by omega⟩ (hS) ⟨⟨by omega, by omega⟩, by omega, by omega⟩ (by omega)) qC_L_keyOf qM_L_124 qS_L_keyOf qN_L (by decide +kernel) ⟨Nat.le_of_ble_eq_true rfl, Nat.le_of_ble_eq_true rfl⟩ rfl rfl hl.1 rfl (Nat.le_of_ble_eq_true rfl) dL_kind_54 (hC (by omega) (by omega)) (fun H locs G => ?_)
        refine r_top (b := σ 4 (k * 16 + x)) (pok_0) ?_
        refine r_name (fun st hst => ?_)
        refine lv_istore (lv' := [(13, .int (kI st)), (0, .ref (z + 0)), (1, .int (kI k)), (2, .ref q0), (3, .int (kI ri)), (4, .int (kI ca)), (5, .int (kI so)), (6, .int (kI ol)), (7, .int (kI lo)), (8, .int (kI fr)), (9, .int (kI le)), (10, .int (kI se)), (11, .int (kI 1)), (12, .int (kI x))]) hx hb dL_kind_57 hl (by decide) rfl (fun ls hl => ?_)
        refine lv_aload_n hx hb dL_kind_59 rfl (lv_at hl 1 rfl) ?_
        refine lv_iload_n hx hb dL_kind_60 rfl (lv_at hl 2 rfl) ?_
        refine lv_iload hx hb dL_kind_61 (lv_at hl 13 rfl) ?_
        refine r_iconst hx hb dL_kind_63 ?_
        refine r_callWk (na := 4) (own := RL) ⟨hx, hb, hml, hown, hts⟩ G hv (k_L_keyOf_y l hst0 (σ := σ) (k := k) (y := x) (w := 1) ⟨by omega, by omega⟩ ⟨by omega, by omega⟩ ⟨by omega, by omega⟩ (hS) ⟨⟨by omega, by omega⟩, by omega, by omega⟩ (by omega)) qC_L_keyOf qM_L_124 qS_L_keyOf qN_L (by decide +kernel) ⟨Nat.le_of_ble_eq_true rfl, Nat.le_of_ble_eq_true rfl⟩ rfl rfl hl.1 rfl (Nat.le_of_ble_eq_true rfl) dL_kind_64 (hC (by omega) (by omega)) (fun H locs G => ?_)
        refine r_top (b := σ 5 (k * 16 + x)) (pok_1) ?_
        refine r_name (fun rd hrd => ?_)
        refine lv_istore (lv' := [(14, .int (kI rd)), (13, .int (kI st)), (0, .ref (z + 0)), (1, .int (kI k)), (2, .ref q0), (3, .int (kI ri)), (4, .int (kI ca)), (5, .int (kI so)), (6, .int (kI ol)), (7, .int (kI lo)), (8, .int (kI fr)), (9, .int (kI le)), (10, .int (kI se)), (11, .int (kI 1)), (12, .int (kI x))]) hx hb dL_kind_67 hl (by decide) rfl (fun ls hl => ?_)
        refine lv_aload_n hx hb dL_kind_69 rfl (lv_at hl 2 rfl) ?_
        refine lv_iload_n hx hb dL_kind_70 rfl (lv_at hl 3 rfl) ?_
        refine lv_iload hx hb dL_kind_71 (lv_at hl 14 rfl) ?_
        refine r_iconst hx hb dL_kind_73 ?_
        refine r_callWk (na := 4) (own := RL) ⟨hx, hb, hml, hown, hts⟩ G hv (k_L_keyOf_y l hst0 (σ := σ) (k := k) (y := x) (w := 2) ⟨by omega, by omega⟩ ⟨by omega, by omega⟩ ⟨by omega, by omega⟩ (hS) ⟨⟨by omega, by omega⟩, by omega, by omega⟩ (by omega)) qC_L_keyOf qM_L_124 qS_L_keyOf qN_L (by decide +kernel) ⟨Nat.le_of_ble_eq_true rfl, Nat.le_of_ble_eq_true rfl⟩ rfl rfl hl.1 rfl (Nat.le_of_ble_eq_true rfl) dL_kind_74 (hC (by omega) (by omega)) (fun H locs G => ?_)
        refine r_name (fun pl hpl => ?_)
        refine lv_istore (lv' := [(15, .int (kI pl)), (14, .int (kI rd)), (13, .int (kI st)), (0, .ref (z + 0)), (1, .int (kI k)), (2, .ref q0), (3, .int (kI ri)), (4, .int (kI ca)), (5, .int (kI so)), (6, .int (kI ol)), (7, .int (kI lo)), (8, .int (kI fr)), (9, .int (kI le)), (10, .int (kI se)), (11, .int (kI 1)), (12, .int (kI x))]) hx hb dL_kind_77 hl (by decide) rfl (fun ls hl => ?_)
        refine lv_aload_n hx hb dL_kind_79 rfl (lv_at hl 3 rfl) ?_
        refine lv_iload_n hx hb dL_kind_80 rfl (lv_at hl 4 rfl) ?_
        refine lv_iload hx hb dL_kind_81 (lv_at hl 15 rfl) ?_
        refine r_iconst hx hb dL_kind_83 ?_
        refine r_callWk (na := 4) (own := RL) ⟨hx, hb, hml, hown, hts⟩ G hv (k_L_keyOf_y l hst0 (σ := σ) (k := k) (y := x) (w := 3) ⟨by omega, by omega⟩ ⟨by omega, by omega⟩ ⟨by omega, by omega⟩ (hS) ⟨⟨by omega, by omega⟩, by omega, by omega⟩ (by omega)) qC_L_keyOf qM_L_124 qS_L_keyOf qN_L (by decide +kernel) ⟨Nat.le_of_ble_eq_true rfl, Nat.le_of_ble_eq_true rfl⟩ rfl rfl hl.1 rfl (Nat.le_of_ble_eq_true rfl) dL_kind_84 (hC (by omega) (by omega)) (fun H locs G => ?_)
        refine r_name (fun dy hdy => ?_)
        refine lv_istore (lv' := [(16, .int (kI dy)), (15, .int (kI pl)), (14, .int (kI rd)), (13, .int (kI st)), (0, .ref (z + 0)), (1, .int (kI k)), (2, .ref q0), (3, .int (kI ri)), (4, .int (kI ca)), (5, .int (kI so)), (6, .int (kI ol)), (7, .int (kI lo)), (8, .int (kI fr)), (9, .int (kI le)), (10, .int (kI se)), (11, .int (kI 1)), (12, .int (kI x))]) hx hb dL_kind_87 hl (by decide) rfl (fun ls hl => ?_)
        refine lv_aload_n hx hb dL_kind_89 rfl (lv_at hl 4 rfl) ?_
        refine lv_iload_n hx hb dL_kind_90 rfl (lv_at hl 5 rfl) ?_
        refine lv_iload hx hb dL_kind_91 (lv_at hl 16 rfl) ?_
        refine r_iconst hx hb dL_kind_93 ?_
        refine r_callWk (na := 4) (own := RL) ⟨hx, hb, hml, hown, hts⟩ G hv (k_L_keyOf_y l hst0 (σ := σ) (k := k) (y := x) (w := 4) ⟨by omega, by omega⟩ ⟨by omega, by omega⟩ ⟨by omega, by omega⟩ (hS) ⟨⟨by omega, by omega⟩, by omega, by omega⟩ (by omega)) qC_L_keyOf qM_L_124 qS_L_keyOf qN_L (by decide +kernel) ⟨Nat.le_of_ble_eq_true rfl, Nat.le_of_ble_eq_true rfl⟩ rfl rfl hl.1 rfl (Nat.le_of_ble_eq_true rfl) dL_kind_94 (hC (by omega) (by omega)) (fun H locs G => ?_)
        refine r_name (fun lf hlf => ?_)
        refine lv_istore (lv' := [(17, .int (kI lf)), (16, .int (kI dy)), (15, .int (kI pl)), (14, .int (kI rd)), (13, .int (kI st)), (0, .ref (z + 0)), (1, .int (kI k)), (2, .ref q0), (3, .int (kI ri)), (4, .int (kI ca)), (5, .int (kI so)), (6, .int (kI ol)), (7, .int (kI lo)), (8, .int (kI fr)), (9, .int (kI le)), (10, .int (kI se)), (11, .int (kI 1)), (12, .int (kI x))]) hx hb dL_kind_97 hl (by decide) rfl (fun ls hl => ?_)
        have hxx : 0 ≤ x ∧ x < 16 := by omega
        have gr := hI.rg hk hxx
        have gk := hI.ki hk hxx
        unfold KI at gk
        have hpk := pok_c (σ := σ) (k := k) (y := x)
        rw [← hpl, ← hdy, ← hlf] at hpk
        have hdt := dtr_c (σ := σ) (k := k) (y := x)
        have hsg := hI.ic.2.1 k hk.1 hk.2
        have hmr := hm_rg (σ := σ) (k := k) (w := 2)
        have hf2 := kf_step hf hxx.1 hst (by omega)
        have hcs : st = 0 ∨ (st = 2 ∧ lf = 0) ∨ (st = 2 ∧ 0 < lf) ∨ st = 1 ∨ st = 3 := by omega
        rcases hcs with hcs | hcs | hcs | hcs | hcs
        · skip
          have hcb : cbg σ k x := Or.inl (by omega)
          have hnr : ¬ ripe σ k x := fun q => by have := q.1; have := q.2; omega
          have cr := cn_f (P := (fun y => ripe σ k y)) (i := x) hxx.1 rfl hnr
          have cc := cn_t (P := (fun y => cbg σ k y)) (i := x) hxx.1 rfl hcb
          have hfr2 : MN (fun y => σ 4 (k * 16 + y) = 0) (fun y => y) (x - 1) x := hfr.take (by omega) (by omega) (show σ 4 (k * 16 + x) = 0 by omega) (by have g1 := hfr.rg; rcases g1 with g1 | g1; exact Or.inl g1; exact Or.inr g1.1)
          have hlo2 : MN (fun y => cbg σ k y) (fun y => y) (x - 1) x := hlo.take (by omega) (by omega) hcb (by have g1 := hlo.rg; rcases g1 with g1 | g1; exact Or.inl g1; exact Or.inr g1.1)
          have hvs := hso.skip (show ¬ σ 4 (k * 16 + x) = 2 by omega)
          have hvo := hox.skip (show ¬ σ 4 (k * 16 + x) = 2 by omega)
          refine lv_iload hx hb dL_kind_99 (lv_at hl 4 rfl) ?_
          refine r_if_lt (tgt := 207) hx hb ⟨by omega, by omega⟩ dL_kind_101 (by decide) (fun h_45 => absurd h_45 (by omega)) (fun h_45 => ?_)
          refine lv_iload hx hb dL_kind_104 (lv_at hl 4 rfl) ?_
          refine r_iconst hx hb dL_kind_106 ?_
          refine r_icmp_ge (tgt := 207) hx hb ⟨by omega, by omega⟩ ⟨by decide, by decide⟩ dL_kind_107 (by decide) (fun h_46 => absurd h_46 (by omega)) (fun h_46 => ?_)
          refine lv_iload hx hb dL_kind_110 (lv_at hl 4 rfl) ?_
          refine r_if_ne (tgt := 119) hx hb ⟨by omega, by omega⟩ dL_kind_112 (by decide) (fun h_47 => absurd h_47 (by omega)) (fun h_47 => ?_)
          refine r_iconst hx hb dL_kind_115 ?_
          refine lv_goto (tgt := 120) hx hb dL_kind_116 (by decide) ?_
          refine lv_iload hx hb dL_kind_120 (lv_at hl 3 rfl) ?_
          refine r_if_ne (tgt := 129) hx hb ⟨by omega, by omega⟩ dL_kind_122 (by decide) (fun h_48 => absurd h_48 (by omega)) (fun h_48 => ?_)
          refine r_iconst hx hb dL_kind_125 ?_
          refine lv_goto (tgt := 130) hx hb dL_kind_126 (by decide) ?_
          refine r_icmp_ne (tgt := 207) hx hb ⟨by decide, by decide⟩ ⟨by decide, by decide⟩ dL_kind_130 (by decide) (fun h_49 => absurd h_49 (by decide)) (fun _ => ?_)
          refine lv_iload hx hb dL_kind_133 (lv_at hl 4 rfl) ?_
          refine r_iconst hx hb dL_kind_135 ?_
          refine r_icmp_ne (tgt := 185) hx hb ⟨by omega, by omega⟩ ⟨by decide, by decide⟩ dL_kind_136 (by decide) (fun h_50 => ?_) (fun h_50 => absurd h_50 (by omega))
          refine lv_iload hx hb dL_kind_185 (lv_at hl 2 rfl) ?_
          refine r_iconst hx hb dL_kind_187 ?_
          refine r_icmp_ne (tgt := 207) hx hb ⟨by omega, by omega⟩ ⟨by decide, by decide⟩ dL_kind_188 (by decide) (fun h_51 => absurd h_51 (by omega)) (fun h_51 => ?_)
          refine lv_iload hx hb dL_kind_191 (lv_at hl 1 rfl) ?_
          refine r_iconst hx hb dL_kind_193 ?_
          refine r_icmp_ne (tgt := 207) hx hb ⟨by omega, by omega⟩ ⟨by decide, by decide⟩ dL_kind_194 (by decide) (fun h_52 => absurd h_52 (by omega)) (fun h_52 => ?_)
          refine lv_iload hx hb dL_kind_197 (lv_at hl 0 rfl) ?_
          refine r_iconst hx hb dL_kind_199 ?_
          refine r_icmp_ne (tgt := 207) hx hb ⟨by omega, by omega⟩ ⟨by decide, by decide⟩ dL_kind_200 (by decide) (fun h_53 => absurd h_53 (by omega)) (fun h_53 => ?_)
          refine r_iconst hx hb dL_kind_203 ?_
          refine lv_goto (tgt := 208) hx hb dL_kind_204 (by decide) ?_
          refine lv_istore (lv' := [(11, .int (kI 1)), (17, .int (kI lf)), (16, .int (kI dy)), (15, .int (kI pl)), (14, .int (kI rd)), (13, .int (kI st)), (0, .ref (z + 0)), (1, .int (kI k)), (2, .ref q0), (3, .int (kI ri)), (4, .int (kI ca)), (5, .int (kI so)), (6, .int (kI ol)), (7, .int (kI lo)), (8, .int (kI fr)), (9, .int (kI le)), (10, .int (kI se)), (12, .int (kI x))]) hx hb dL_kind_208 hl (by decide) rfl (fun ls hl => ?_)
          refine lv_iload hx hb dL_kind_210 (lv_at hl 0 rfl) ?_
          refine r_if_eq (tgt := 389) hx hb ⟨by decide, by decide⟩ dL_kind_212 (by decide) (fun h_54 => absurd h_54 (by decide)) (fun _ => ?_)
          refine lv_aload_n hx hb dL_kind_215 rfl (lv_at hl 8 rfl) ?_
          refine lv_iload hx hb dL_kind_216 (lv_at hl 5 rfl) ?_
          refine lv_dup2_11 hx hb dL_kind_218 rfl rfl ?_
          refine r_kald hx hb G (by omega) (by omega) dL_kind_219 ?_
          refine r_iconst hx hb dL_kind_220 ?_
          refine r_iadd hx hb dL_kind_221 ?_
          refine r_kast hx hb G (by omega) (by omega) dL_kind_222 (fun H locs G => ?_)
          refine lv_iload hx hb dL_kind_223 (lv_at hl 5 rfl) ?_
          refine r_if_eq (tgt := 239) hx hb ⟨by omega, by omega⟩ dL_kind_225 (by decide) (fun h_55 => ?_) (fun h_55 => absurd h_55 (by omega))
          refine r_iconst hx hb dL_kind_239 ?_
          refine lv_goto (tgt := 244) hx hb dL_kind_240 (by decide) ?_
          refine lv_istore (lv' := [(18, .int (kI 1)), (11, .int (kI 1)), (17, .int (kI lf)), (16, .int (kI dy)), (15, .int (kI pl)), (14, .int (kI rd)), (13, .int (kI st)), (0, .ref (z + 0)), (1, .int (kI k)), (2, .ref q0), (3, .int (kI ri)), (4, .int (kI ca)), (5, .int (kI so)), (6, .int (kI ol)), (7, .int (kI lo)), (8, .int (kI fr)), (9, .int (kI le)), (10, .int (kI se)), (12, .int (kI x))]) hx hb dL_kind_244 hl (by decide) rfl (fun ls hl => ?_)
          refine lv_iload_n hx hb dL_kind_246 rfl (lv_at hl 10 rfl) ?_
          refine lv_iload hx hb dL_kind_247 (lv_at hl 6 rfl) ?_
          refine r_iconst hx hb dL_kind_249 ?_
          refine r_icmp_ne (tgt := 262) hx hb ⟨by omega, by omega⟩ ⟨by decide, by decide⟩ dL_kind_250 (by decide) (fun h_56 => ?_) (fun h_56 => absurd h_56 (by omega))
          refine r_iconst hx hb dL_kind_262 ?_
          refine r_iadd hx hb dL_kind_263 ?_
          refine lv_istore_n (lv' := [(3, .int (kI (ri + 0))), (18, .int (kI 1)), (11, .int (kI 1)), (17, .int (kI lf)), (16, .int (kI dy)), (15, .int (kI pl)), (14, .int (kI rd)), (13, .int (kI st)), (0, .ref (z + 0)), (1, .int (kI k)), (2, .ref q0), (4, .int (kI ca)), (5, .int (kI so)), (6, .int (kI ol)), (7, .int (kI lo)), (8, .int (kI fr)), (9, .int (kI le)), (10, .int (kI se)), (12, .int (kI x))]) hx hb dL_kind_264 rfl hl (by decide) rfl (fun ls hl => ?_)
          refine lv_iload hx hb dL_kind_265 (lv_at hl 11 rfl) ?_
          refine lv_iload hx hb dL_kind_267 (lv_at hl 1 rfl) ?_
          refine r_if_eq (tgt := 276) hx hb ⟨by decide, by decide⟩ dL_kind_269 (by decide) (fun h_57 => absurd h_57 (by decide)) (fun _ => ?_)
          refine r_iconst hx hb dL_kind_272 ?_
          refine lv_goto (tgt := 277) hx hb dL_kind_273 (by decide) ?_
          refine r_iadd hx hb dL_kind_277 ?_
          refine lv_istore (lv' := [(4, .int (kI (ca + 1))), (3, .int (kI (ri + 0))), (18, .int (kI 1)), (11, .int (kI 1)), (17, .int (kI lf)), (16, .int (kI dy)), (15, .int (kI pl)), (14, .int (kI rd)), (13, .int (kI st)), (0, .ref (z + 0)), (1, .int (kI k)), (2, .ref q0), (5, .int (kI so)), (6, .int (kI ol)), (7, .int (kI lo)), (8, .int (kI fr)), (9, .int (kI le)), (10, .int (kI se)), (12, .int (kI x))]) hx hb dL_kind_278 hl (by decide) rfl (fun ls hl => ?_)
          refine lv_iload hx hb dL_kind_280 (lv_at hl 8 rfl) ?_
          refine r_if_ne (tgt := 290) hx hb ⟨by omega, by omega⟩ dL_kind_282 (by decide) (fun h_58 => absurd h_58 (by omega)) (fun h_58 => ?_)
          refine lv_iload hx hb dL_kind_285 (lv_at hl 18 rfl) ?_
          refine lv_goto (tgt := 292) hx hb dL_kind_287 (by decide) ?_
          refine lv_istore (lv' := [(8, .int (kI x)), (4, .int (kI (ca + 1))), (3, .int (kI (ri + 0))), (18, .int (kI 1)), (11, .int (kI 1)), (17, .int (kI lf)), (16, .int (kI dy)), (15, .int (kI pl)), (14, .int (kI rd)), (13, .int (kI st)), (0, .ref (z + 0)), (1, .int (kI k)), (2, .ref q0), (5, .int (kI so)), (6, .int (kI ol)), (7, .int (kI lo)), (9, .int (kI le)), (10, .int (kI se)), (12, .int (kI x))]) hx hb dL_kind_292 hl (by decide) rfl (fun ls hl => ?_)
          refine lv_iload hx hb dL_kind_294 (lv_at hl 3 rfl) ?_
          refine r_if_eq (tgt := 304) hx hb ⟨by decide, by decide⟩ dL_kind_296 (by decide) (fun h_59 => absurd h_59 (by decide)) (fun _ => ?_)
          refine lv_iload hx hb dL_kind_299 (lv_at hl 18 rfl) ?_
          refine lv_goto (tgt := 306) hx hb dL_kind_301 (by decide) ?_
          refine lv_istore (lv' := [(7, .int (kI x)), (8, .int (kI x)), (4, .int (kI (ca + 1))), (3, .int (kI (ri + 0))), (18, .int (kI 1)), (11, .int (kI 1)), (17, .int (kI lf)), (16, .int (kI dy)), (15, .int (kI pl)), (14, .int (kI rd)), (13, .int (kI st)), (0, .ref (z + 0)), (1, .int (kI k)), (2, .ref q0), (5, .int (kI so)), (6, .int (kI ol)), (9, .int (kI le)), (10, .int (kI se)), (12, .int (kI x))]) hx hb dL_kind_306 hl (by decide) rfl (fun ls hl => ?_)
          have jn338 : ∀ (v : Int), (MN (fun y => cbg σ k y) (fun y => σ 5 (k * 16 + y) * 16 + y) (x - 1) v) → (-1 ≤ v ∧ v < 16) → ∀ (H : Heap) (locs : List Loc) (k1 n1 : Nat), (k1 : Int) ≤ 3 + 14 * (15 - x) + 14 → (n1 : Int) ≤ 16 + 84 * (15 - x) + 84 → Wk D T z q0 (fun j => if j = st then f st + 1 else f j) σ s H locs → ∀ (ls : Array Slot), lv_has ls 19 [(7, .int (kI x)), (8, .int (kI x)), (4, .int (kI (ca + 1))), (3, .int (kI (ri + 0))), (18, .int (kI 1)), (11, .int (kI 1)), (17, .int (kI lf)), (16, .int (kI dy)), (15, .int (kI pl)), (14, .int (kI rd)), (13, .int (kI st)), (0, .ref (z + 0)), (1, .int (kI k)), (2, .ref q0), (5, .int (kI so)), (6, .int (kI ol)), (9, .int (kI le)), (10, .int (kI se)), (12, .int (kI x))] → W p l e (rmX 9 151 400 2400) s m ([.ref (z + 0), .int (kI k)] : List Value).toArray below meth c H locs k1 n1 (MQ below (QI D T z 133 1 σ) ([.ref (z + 0), .int (kI k)] : List Value).toArray s 400 2400 (Own T z)) (F0 m 338 ls [.int (kI v)]) := by
            intro v hvl hvr H locs k1 n1 hk1 hn1 G ls hl
            refine lv_istore (lv' := [(9, .int (kI v)), (7, .int (kI x)), (8, .int (kI x)), (4, .int (kI (ca + 1))), (3, .int (kI (ri + 0))), (18, .int (kI 1)), (11, .int (kI 1)), (17, .int (kI lf)), (16, .int (kI dy)), (15, .int (kI pl)), (14, .int (kI rd)), (13, .int (kI st)), (0, .ref (z + 0)), (1, .int (kI k)), (2, .ref q0), (5, .int (kI so)), (6, .int (kI ol)), (10, .int (kI se)), (12, .int (kI x))]) hx hb dL_kind_338 hl (by decide) rfl (fun ls hl => ?_)
            have jn365 : ∀ (v1 : Int), (VM (fun y => σ 4 (k * 16 + y) = 2) (fun y => dtr σ k y) (x - 1) v1) → (-1 ≤ v1 ∧ v1 ≤ 99) → ∀ (H : Heap) (locs : List Loc) (k1 n1 : Nat), (k1 : Int) ≤ 3 + 14 * (15 - x) + 14 → (n1 : Int) ≤ 16 + 84 * (15 - x) + 84 → Wk D T z q0 (fun j => if j = st then f st + 1 else f j) σ s H locs → ∀ (ls : Array Slot), lv_has ls 19 [(9, .int (kI v)), (7, .int (kI x)), (8, .int (kI x)), (4, .int (kI (ca + 1))), (3, .int (kI (ri + 0))), (18, .int (kI 1)), (11, .int (kI 1)), (17, .int (kI lf)), (16, .int (kI dy)), (15, .int (kI pl)), (14, .int (kI rd)), (13, .int (kI st)), (0, .ref (z + 0)), (1, .int (kI k)), (2, .ref q0), (5, .int (kI so)), (6, .int (kI ol)), (10, .int (kI se)), (12, .int (kI x))] → W p l e (rmX 9 151 400 2400) s m ([.ref (z + 0), .int (kI k)] : List Value).toArray below meth c H locs k1 n1 (MQ below (QI D T z 133 1 σ) ([.ref (z + 0), .int (kI k)] : List Value).toArray s 400 2400 (Own T z)) (F0 m 365 ls [.int (kI v1)]) := by
              intro v1 hvs hvsr H locs k1 n1 hk1 hn1 G ls hl
              refine lv_istore (lv' := [(5, .int (kI v1)), (9, .int (kI v)), (7, .int (kI x)), (8, .int (kI x)), (4, .int (kI (ca + 1))), (3, .int (kI (ri + 0))), (18, .int (kI 1)), (11, .int (kI 1)), (17, .int (kI lf)), (16, .int (kI dy)), (15, .int (kI pl)), (14, .int (kI rd)), (13, .int (kI st)), (0, .ref (z + 0)), (1, .int (kI k)), (2, .ref q0), (6, .int (kI ol)), (10, .int (kI se)), (12, .int (kI x))]) hx hb dL_kind_365 hl (by decide) rfl (fun ls hl => ?_)
              refine lv_iload hx hb dL_kind_367 (lv_at hl 12 rfl) ?_
              refine r_iconst hx hb dL_kind_369 ?_
              refine r_icmp_ne (tgt := 385) hx hb ⟨by omega, by omega⟩ ⟨by decide, by decide⟩ dL_kind_370 (by decide) (fun h_60 => ?_) (fun h_60 => absurd h_60 (by omega))
              refine lv_iload hx hb dL_kind_385 (lv_at hl 16 rfl) ?_
              refine lv_istore (lv' := [(6, .int (kI ol)), (5, .int (kI v1)), (9, .int (kI v)), (7, .int (kI x)), (8, .int (kI x)), (4, .int (kI (ca + 1))), (3, .int (kI (ri + 0))), (18, .int (kI 1)), (11, .int (kI 1)), (17, .int (kI lf)), (16, .int (kI dy)), (15, .int (kI pl)), (14, .int (kI rd)), (13, .int (kI st)), (0, .ref (z + 0)), (1, .int (kI k)), (2, .ref q0), (10, .int (kI se)), (12, .int (kI x))]) hx hb dL_kind_387 hl (by decide) rfl (fun ls hl => ?_)
              refine r_iinc (lv' := [(12, .int (kI (x - 1))), (6, .int (kI ol)), (5, .int (kI v1)), (9, .int (kI v)), (7, .int (kI x)), (8, .int (kI x)), (4, .int (kI (ca + 1))), (3, .int (kI (ri + 0))), (18, .int (kI 1)), (11, .int (kI 1)), (17, .int (kI lf)), (16, .int (kI dy)), (15, .int (kI pl)), (14, .int (kI rd)), (13, .int (kI st)), (0, .ref (z + 0)), (1, .int (kI k)), (2, .ref q0), (10, .int (kI se))]) hx hb dL_kind_389 hl (k := 18) rfl (by decide) rfl (fun ls hl => ?_)
              refine lv_goto (tgt := 39) hx hb dL_kind_392 (by decide) ?_
              exact ih39 (x - 1) (ri + 0) (ca + 1) v1 ol x x v (fun j => if j = st then f st + 1 else f j) (by omega) (by omega) (hf2) (by rw [show x - 1 + 1 = x by omega]; omega) (by rw [show x - 1 + 1 = x by omega]; omega) (hvs) (hvo) (hlo2) (hfr2) (hvl) (by omega) (by omega) _ _ _ _ (by omega) (by omega) G _ (lv_sub hl [15, 16, 17, 7, 6, 2, 1, 4, 5, 3, 18, 9, 0] rfl)
            refine lv_iload hx hb dL_kind_340 (lv_at hl 11 rfl) ?_
            refine r_iconst hx hb dL_kind_342 ?_
            refine r_icmp_ne (tgt := 363) hx hb ⟨by omega, by omega⟩ ⟨by decide, by decide⟩ dL_kind_343 (by decide) (fun h_61 => ?_) (fun h_61 => absurd h_61 (by omega))
            refine lv_iload hx hb dL_kind_363 (lv_at hl 15 rfl) ?_
            exact jn365 so (hvs) (by omega) _ _ _ _ (by omega) (by omega) G _ (lv_sub hl [0, 1, 2, 3, 4, 5, 6, 7, 8, 9, 10, 11, 12, 13, 14, 15, 16, 17, 18] rfl)
          refine lv_iload hx hb dL_kind_308 (lv_at hl 4 rfl) ?_
          refine r_if_eq (tgt := 336) hx hb ⟨by decide, by decide⟩ dL_kind_310 (by decide) (fun h_62 => absurd h_62 (by decide)) (fun _ => ?_)
          refine lv_iload hx hb dL_kind_313 (lv_at hl 16 rfl) ?_
          refine r_if_lt (tgt := 331) hx hb ⟨by omega, by omega⟩ dL_kind_315 (by decide) (fun h_63 => ?_) (fun h_63 => ?_)
          · skip
            have hvl := hle.take (by omega) (by omega) hcb (Or.inl (by omega))
            refine lv_iload hx hb dL_kind_331 (lv_at hl 18 rfl) ?_
            refine lv_goto (tgt := 338) hx hb dL_kind_333 (by decide) ?_
            exact jn338 x (hvl) (by omega) _ _ _ _ (by omega) (by omega) G _ (lv_sub hl [0, 1, 2, 3, 4, 5, 6, 7, 8, 9, 10, 11, 12, 13, 14, 15, 16, 17, 18] rfl)
          · skip
            refine lv_iload hx hb dL_kind_318 (lv_at hl 9 rfl) ?_
            refine lv_aload_n hx hb dL_kind_320 rfl (lv_at hl 11 rfl) ?_
            refine lv_iload_n hx hb dL_kind_321 rfl (lv_at hl 12 rfl) ?_
            refine lv_iload hx hb dL_kind_322 (lv_at hl 16 rfl) ?_
            refine r_iconst hx hb dL_kind_324 ?_
            refine r_callWk (na := 4) (own := RL) ⟨hx, hb, hml, hown, hts⟩ G hv (k_L_keyOf_y l hst0 (σ := σ) (k := k) (y := le) (w := 1) ⟨by omega, by omega⟩ ⟨by omega, by omega⟩ ⟨by omega, by omega⟩ (hS) ⟨⟨by omega, by omega⟩, by omega, by omega⟩ (by omega)) qC_L_keyOf qM_L_124 qS_L_keyOf qN_L (by decide +kernel) ⟨Nat.le_of_ble_eq_true rfl, Nat.le_of_ble_eq_true rfl⟩ rfl rfl hl.1 rfl (Nat.le_of_ble_eq_true rfl) dL_kind_325 (hC (by omega) (by omega)) (fun H locs G => ?_)
            refine r_top (b := σ 5 (k * 16 + le)) (pok_1) ?_
            refine r_name (fun rl hrl => ?_)
            have gl := hI.rg hk (show 0 ≤ le ∧ le < 16 by omega)
            refine r_icmp_gt (tgt := 336) hx hb ⟨by omega, by omega⟩ ⟨by omega, by omega⟩ dL_kind_328 (by decide) (fun h_64 => ?_) (fun h_64 => ?_)
            · skip
              have hvl := hle.keep (by omega) (show σ 5 (k * 16 + le) * 16 + le < σ 5 (k * 16 + x) * 16 + x by omega)
              refine lv_iload hx hb dL_kind_336 (lv_at hl 16 rfl) ?_
              exact jn338 le (hvl) (by omega) _ _ _ _ (by omega) (by omega) G _ (lv_sub hl [0, 1, 2, 3, 4, 5, 6, 7, 8, 9, 10, 11, 12, 13, 14, 15, 16, 17, 18] rfl)
            · skip
              have hvl := hle.take (by omega) (by omega) hcb (Or.inr (show σ 5 (k * 16 + x) * 16 + x < σ 5 (k * 16 + le) * 16 + le by omega))
              refine lv_iload hx hb dL_kind_331 (lv_at hl 18 rfl) ?_
              refine lv_goto (tgt := 338) hx hb dL_kind_333 (by decide) ?_
              exact jn338 x (hvl) (by omega) _ _ _ _ (by omega) (by omega) G _ (lv_sub hl [0, 1, 2, 3, 4, 5, 6, 7, 8, 9, 10, 11, 12, 13, 14, 15, 16, 17, 18] rfl)
        · skip
          have hrp : ripe σ k x := ⟨by omega, by omega⟩
          have hcb : cbg σ k x := Or.inr hrp
          have cr := cn_t (P := (fun y => ripe σ k y)) (i := x) hxx.1 rfl hrp
          have cc := cn_t (P := (fun y => cbg σ k y)) (i := x) hxx.1 rfl hcb
          have hfr2 : MN (fun y => σ 4 (k * 16 + y) = 0) (fun y => y) (x - 1) fr := hfr.skip (show ¬ σ 4 (k * 16 + x) = 0 by omega)
          have hlo2 : MN (fun y => cbg σ k y) (fun y => y) (x - 1) x := hlo.take (by omega) (by omega) hcb (by have g1 := hlo.rg; rcases g1 with g1 | g1; exact Or.inl g1; exact Or.inr g1.1)
          have h2 : σ 4 (k * 16 + x) = 2 := by omega
          refine lv_iload hx hb dL_kind_99 (lv_at hl 4 rfl) ?_
          refine r_if_lt (tgt := 207) hx hb ⟨by omega, by omega⟩ dL_kind_101 (by decide) (fun h_65 => absurd h_65 (by omega)) (fun h_65 => ?_)
          refine lv_iload hx hb dL_kind_104 (lv_at hl 4 rfl) ?_
          refine r_iconst hx hb dL_kind_106 ?_
          refine r_icmp_ge (tgt := 207) hx hb ⟨by omega, by omega⟩ ⟨by decide, by decide⟩ dL_kind_107 (by decide) (fun h_66 => absurd h_66 (by omega)) (fun h_66 => ?_)
          refine lv_iload hx hb dL_kind_110 (lv_at hl 4 rfl) ?_
          refine r_if_ne (tgt := 119) hx hb ⟨by omega, by omega⟩ dL_kind_112 (by decide) (fun h_67 => ?_) (fun h_67 => absurd h_67 (by omega))
          refine r_iconst hx hb dL_kind_119 ?_
          refine lv_iload hx hb dL_kind_120 (lv_at hl 3 rfl) ?_
          refine r_if_ne (tgt := 129) hx hb ⟨by omega, by omega⟩ dL_kind_122 (by decide) (fun h_68 => ?_) (fun h_68 => absurd h_68 (by omega))
          refine r_iconst hx hb dL_kind_129 ?_
          refine r_icmp_ne (tgt := 207) hx hb ⟨by decide, by decide⟩ ⟨by decide, by decide⟩ dL_kind_130 (by decide) (fun h_69 => absurd h_69 (by decide)) (fun _ => ?_)
          refine lv_iload hx hb dL_kind_133 (lv_at hl 4 rfl) ?_
          refine r_iconst hx hb dL_kind_135 ?_
          refine r_icmp_ne (tgt := 185) hx hb ⟨by omega, by omega⟩ ⟨by decide, by decide⟩ dL_kind_136 (by decide) (fun h_70 => absurd h_70 (by omega)) (fun h_70 => ?_)
          refine lv_iload hx hb dL_kind_139 (lv_at hl 2 rfl) ?_
          refine r_if_lt (tgt := 207) hx hb ⟨by omega, by omega⟩ dL_kind_141 (by decide) (fun h_71 => absurd h_71 (by omega)) (fun h_71 => ?_)
          refine lv_aload_n hx hb dL_kind_144 rfl (lv_at hl 5 rfl) ?_
          refine lv_iload_n hx hb dL_kind_145 rfl (lv_at hl 6 rfl) ?_
          refine lv_iload hx hb dL_kind_146 (lv_at hl 2 rfl) ?_
          refine r_callWk (na := 3) (own := RL) ⟨hx, hb, hml, hown, hts⟩ G hv (k_L_pile_y l hst0 (σ := σ) (k := k) (q := pl) ⟨by omega, by omega⟩ ⟨by omega, by omega⟩ (hS) ⟨by omega, by omega⟩ (by omega)) qC_L_pile qM_L_126 qS_L_pile qN_L (by decide +kernel) ⟨Nat.le_of_ble_eq_true rfl, Nat.le_of_ble_eq_true rfl⟩ rfl rfl hl.1 rfl (Nat.le_of_ble_eq_true rfl) dL_kind_148 (hC (by omega) (by omega)) (fun H locs G => ?_)
          refine r_top (b := x) (by rw [show pl = σ 6 (k * 16 + x) by omega]; exact kat_at hI hk hxx h2) ?_
          refine lv_iload hx hb dL_kind_151 (lv_at hl 17 rfl) ?_
          refine r_icmp_ne (tgt := 207) hx hb ⟨by omega, by omega⟩ ⟨by omega, by omega⟩ dL_kind_153 (by decide) (fun h_72 => absurd h_72 (by omega)) (fun h_72 => ?_)
          refine lv_iload hx hb dL_kind_156 (lv_at hl 1 rfl) ?_
          refine r_if_lt (tgt := 207) hx hb ⟨by omega, by omega⟩ dL_kind_158 (by decide) (fun h_73 => absurd h_73 (by omega)) (fun h_73 => ?_)
          refine lv_iload hx hb dL_kind_161 (lv_at hl 0 rfl) ?_
          refine lv_iload hx hb dL_kind_163 (lv_at hl 1 rfl) ?_
          refine lv_iload hx hb dL_kind_165 (lv_at hl 15 rfl) ?_
          refine r_icmp_ge (tgt := 178) hx hb ⟨by omega, by omega⟩ ⟨by omega, by omega⟩ dL_kind_167 (by decide) (fun h_74 => ?_) (fun h_74 => absurd h_74 (by omega))
          refine r_iconst hx hb dL_kind_178 ?_
          refine r_icmp_ne (tgt := 207) hx hb ⟨by omega, by omega⟩ ⟨by decide, by decide⟩ dL_kind_179 (by decide) (fun h_75 => absurd h_75 (by omega)) (fun h_75 => ?_)
          refine lv_goto (tgt := 203) hx hb dL_kind_182 (by decide) ?_
          refine r_iconst hx hb dL_kind_203 ?_
          refine lv_goto (tgt := 208) hx hb dL_kind_204 (by decide) ?_
          refine lv_istore (lv' := [(11, .int (kI 1)), (17, .int (kI lf)), (16, .int (kI dy)), (15, .int (kI pl)), (14, .int (kI rd)), (13, .int (kI st)), (0, .ref (z + 0)), (1, .int (kI k)), (2, .ref q0), (3, .int (kI ri)), (4, .int (kI ca)), (5, .int (kI so)), (6, .int (kI ol)), (7, .int (kI lo)), (8, .int (kI fr)), (9, .int (kI le)), (10, .int (kI se)), (12, .int (kI x))]) hx hb dL_kind_208 hl (by decide) rfl (fun ls hl => ?_)
          refine lv_iload hx hb dL_kind_210 (lv_at hl 0 rfl) ?_
          refine r_if_eq (tgt := 389) hx hb ⟨by decide, by decide⟩ dL_kind_212 (by decide) (fun h_76 => absurd h_76 (by decide)) (fun _ => ?_)
          refine lv_aload_n hx hb dL_kind_215 rfl (lv_at hl 8 rfl) ?_
          refine lv_iload hx hb dL_kind_216 (lv_at hl 5 rfl) ?_
          refine lv_dup2_11 hx hb dL_kind_218 rfl rfl ?_
          refine r_kald hx hb G (by omega) (by omega) dL_kind_219 ?_
          refine r_iconst hx hb dL_kind_220 ?_
          refine r_iadd hx hb dL_kind_221 ?_
          refine r_kast hx hb G (by omega) (by omega) dL_kind_222 (fun H locs G => ?_)
          refine lv_iload hx hb dL_kind_223 (lv_at hl 5 rfl) ?_
          refine r_if_eq (tgt := 239) hx hb ⟨by omega, by omega⟩ dL_kind_225 (by decide) (fun h_77 => absurd h_77 (by omega)) (fun h_77 => ?_)
          refine lv_iload hx hb dL_kind_228 (lv_at hl 5 rfl) ?_
          refine r_iconst hx hb dL_kind_230 ?_
          refine r_icmp_ne (tgt := 243) hx hb ⟨by omega, by omega⟩ ⟨by decide, by decide⟩ dL_kind_231 (by decide) (fun h_78 => absurd h_78 (by omega)) (fun h_78 => ?_)
          refine lv_iload hx hb dL_kind_234 (lv_at hl 1 rfl) ?_
          refine r_if_ne (tgt := 243) hx hb ⟨by omega, by omega⟩ dL_kind_236 (by decide) (fun h_79 => absurd h_79 (by omega)) (fun h_79 => ?_)
          refine r_iconst hx hb dL_kind_239 ?_
          refine lv_goto (tgt := 244) hx hb dL_kind_240 (by decide) ?_
          refine lv_istore (lv' := [(18, .int (kI 1)), (11, .int (kI 1)), (17, .int (kI lf)), (16, .int (kI dy)), (15, .int (kI pl)), (14, .int (kI rd)), (13, .int (kI st)), (0, .ref (z + 0)), (1, .int (kI k)), (2, .ref q0), (3, .int (kI ri)), (4, .int (kI ca)), (5, .int (kI so)), (6, .int (kI ol)), (7, .int (kI lo)), (8, .int (kI fr)), (9, .int (kI le)), (10, .int (kI se)), (12, .int (kI x))]) hx hb dL_kind_244 hl (by decide) rfl (fun ls hl => ?_)
          refine lv_iload_n hx hb dL_kind_246 rfl (lv_at hl 10 rfl) ?_
          refine lv_iload hx hb dL_kind_247 (lv_at hl 6 rfl) ?_
          refine r_iconst hx hb dL_kind_249 ?_
          refine r_icmp_ne (tgt := 262) hx hb ⟨by omega, by omega⟩ ⟨by decide, by decide⟩ dL_kind_250 (by decide) (fun h_80 => absurd h_80 (by omega)) (fun h_80 => ?_)
          refine lv_iload hx hb dL_kind_253 (lv_at hl 2 rfl) ?_
          refine r_if_ne (tgt := 262) hx hb ⟨by omega, by omega⟩ dL_kind_255 (by decide) (fun h_81 => absurd h_81 (by omega)) (fun h_81 => ?_)
          refine r_iconst hx hb dL_kind_258 ?_
          refine lv_goto (tgt := 263) hx hb dL_kind_259 (by decide) ?_
          refine r_iadd hx hb dL_kind_263 ?_
          refine lv_istore_n (lv' := [(3, .int (kI (ri + 1))), (18, .int (kI 1)), (11, .int (kI 1)), (17, .int (kI lf)), (16, .int (kI dy)), (15, .int (kI pl)), (14, .int (kI rd)), (13, .int (kI st)), (0, .ref (z + 0)), (1, .int (kI k)), (2, .ref q0), (4, .int (kI ca)), (5, .int (kI so)), (6, .int (kI ol)), (7, .int (kI lo)), (8, .int (kI fr)), (9, .int (kI le)), (10, .int (kI se)), (12, .int (kI x))]) hx hb dL_kind_264 rfl hl (by decide) rfl (fun ls hl => ?_)
          refine lv_iload hx hb dL_kind_265 (lv_at hl 11 rfl) ?_
          refine lv_iload hx hb dL_kind_267 (lv_at hl 1 rfl) ?_
          refine r_if_eq (tgt := 276) hx hb ⟨by decide, by decide⟩ dL_kind_269 (by decide) (fun h_82 => absurd h_82 (by decide)) (fun _ => ?_)
          refine r_iconst hx hb dL_kind_272 ?_
          refine lv_goto (tgt := 277) hx hb dL_kind_273 (by decide) ?_
          refine r_iadd hx hb dL_kind_277 ?_
          refine lv_istore (lv' := [(4, .int (kI (ca + 1))), (3, .int (kI (ri + 1))), (18, .int (kI 1)), (11, .int (kI 1)), (17, .int (kI lf)), (16, .int (kI dy)), (15, .int (kI pl)), (14, .int (kI rd)), (13, .int (kI st)), (0, .ref (z + 0)), (1, .int (kI k)), (2, .ref q0), (5, .int (kI so)), (6, .int (kI ol)), (7, .int (kI lo)), (8, .int (kI fr)), (9, .int (kI le)), (10, .int (kI se)), (12, .int (kI x))]) hx hb dL_kind_278 hl (by decide) rfl (fun ls hl => ?_)
          refine lv_iload hx hb dL_kind_280 (lv_at hl 8 rfl) ?_
          refine r_if_ne (tgt := 290) hx hb ⟨by omega, by omega⟩ dL_kind_282 (by decide) (fun h_83 => ?_) (fun h_83 => absurd h_83 (by omega))
          refine lv_iload hx hb dL_kind_290 (lv_at hl 15 rfl) ?_
          refine lv_istore (lv' := [(8, .int (kI fr)), (4, .int (kI (ca + 1))), (3, .int (kI (ri + 1))), (18, .int (kI 1)), (11, .int (kI 1)), (17, .int (kI lf)), (16, .int (kI dy)), (15, .int (kI pl)), (14, .int (kI rd)), (13, .int (kI st)), (0, .ref (z + 0)), (1, .int (kI k)), (2, .ref q0), (5, .int (kI so)), (6, .int (kI ol)), (7, .int (kI lo)), (9, .int (kI le)), (10, .int (kI se)), (12, .int (kI x))]) hx hb dL_kind_292 hl (by decide) rfl (fun ls hl => ?_)
          refine lv_iload hx hb dL_kind_294 (lv_at hl 3 rfl) ?_
          refine r_if_eq (tgt := 304) hx hb ⟨by decide, by decide⟩ dL_kind_296 (by decide) (fun h_84 => absurd h_84 (by decide)) (fun _ => ?_)
          refine lv_iload hx hb dL_kind_299 (lv_at hl 18 rfl) ?_
          refine lv_goto (tgt := 306) hx hb dL_kind_301 (by decide) ?_
          refine lv_istore (lv' := [(7, .int (kI x)), (8, .int (kI fr)), (4, .int (kI (ca + 1))), (3, .int (kI (ri + 1))), (18, .int (kI 1)), (11, .int (kI 1)), (17, .int (kI lf)), (16, .int (kI dy)), (15, .int (kI pl)), (14, .int (kI rd)), (13, .int (kI st)), (0, .ref (z + 0)), (1, .int (kI k)), (2, .ref q0), (5, .int (kI so)), (6, .int (kI ol)), (9, .int (kI le)), (10, .int (kI se)), (12, .int (kI x))]) hx hb dL_kind_306 hl (by decide) rfl (fun ls hl => ?_)
          have jn338 : ∀ (v : Int), (MN (fun y => cbg σ k y) (fun y => σ 5 (k * 16 + y) * 16 + y) (x - 1) v) → (-1 ≤ v ∧ v < 16) → ∀ (H : Heap) (locs : List Loc) (k1 n1 : Nat), (k1 : Int) ≤ 3 + 14 * (15 - x) + 14 → (n1 : Int) ≤ 16 + 84 * (15 - x) + 84 → Wk D T z q0 (fun j => if j = st then f st + 1 else f j) σ s H locs → ∀ (ls : Array Slot), lv_has ls 19 [(7, .int (kI x)), (8, .int (kI fr)), (4, .int (kI (ca + 1))), (3, .int (kI (ri + 1))), (18, .int (kI 1)), (11, .int (kI 1)), (17, .int (kI lf)), (16, .int (kI dy)), (15, .int (kI pl)), (14, .int (kI rd)), (13, .int (kI st)), (0, .ref (z + 0)), (1, .int (kI k)), (2, .ref q0), (5, .int (kI so)), (6, .int (kI ol)), (9, .int (kI le)), (10, .int (kI se)), (12, .int (kI x))] → W p l e (rmX 9 151 400 2400) s m ([.ref (z + 0), .int (kI k)] : List Value).toArray below meth c H locs k1 n1 (MQ below (QI D T z 133 1 σ) ([.ref (z + 0), .int (kI k)] : List Value).toArray s 400 2400 (Own T z)) (F0 m 338 ls [.int (kI v)]) := by
            intro v hvl hvr H locs k1 n1 hk1 hn1 G ls hl
            refine lv_istore (lv' := [(9, .int (kI v)), (7, .int (kI x)), (8, .int (kI fr)), (4, .int (kI (ca + 1))), (3, .int (kI (ri + 1))), (18, .int (kI 1)), (11, .int (kI 1)), (17, .int (kI lf)), (16, .int (kI dy)), (15, .int (kI pl)), (14, .int (kI rd)), (13, .int (kI st)), (0, .ref (z + 0)), (1, .int (kI k)), (2, .ref q0), (5, .int (kI so)), (6, .int (kI ol)), (10, .int (kI se)), (12, .int (kI x))]) hx hb dL_kind_338 hl (by decide) rfl (fun ls hl => ?_)
            have jn365 : ∀ (v1 : Int), (VM (fun y => σ 4 (k * 16 + y) = 2) (fun y => dtr σ k y) (x - 1) v1) → (-1 ≤ v1 ∧ v1 ≤ 99) → ∀ (H : Heap) (locs : List Loc) (k1 n1 : Nat), (k1 : Int) ≤ 3 + 14 * (15 - x) + 14 → (n1 : Int) ≤ 16 + 84 * (15 - x) + 84 → Wk D T z q0 (fun j => if j = st then f st + 1 else f j) σ s H locs → ∀ (ls : Array Slot), lv_has ls 19 [(9, .int (kI v)), (7, .int (kI x)), (8, .int (kI fr)), (4, .int (kI (ca + 1))), (3, .int (kI (ri + 1))), (18, .int (kI 1)), (11, .int (kI 1)), (17, .int (kI lf)), (16, .int (kI dy)), (15, .int (kI pl)), (14, .int (kI rd)), (13, .int (kI st)), (0, .ref (z + 0)), (1, .int (kI k)), (2, .ref q0), (5, .int (kI so)), (6, .int (kI ol)), (10, .int (kI se)), (12, .int (kI x))] → W p l e (rmX 9 151 400 2400) s m ([.ref (z + 0), .int (kI k)] : List Value).toArray below meth c H locs k1 n1 (MQ below (QI D T z 133 1 σ) ([.ref (z + 0), .int (kI k)] : List Value).toArray s 400 2400 (Own T z)) (F0 m 365 ls [.int (kI v1)]) := by
              intro v1 hvs hvsr H locs k1 n1 hk1 hn1 G ls hl
              refine lv_istore (lv' := [(5, .int (kI v1)), (9, .int (kI v)), (7, .int (kI x)), (8, .int (kI fr)), (4, .int (kI (ca + 1))), (3, .int (kI (ri + 1))), (18, .int (kI 1)), (11, .int (kI 1)), (17, .int (kI lf)), (16, .int (kI dy)), (15, .int (kI pl)), (14, .int (kI rd)), (13, .int (kI st)), (0, .ref (z + 0)), (1, .int (kI k)), (2, .ref q0), (6, .int (kI ol)), (10, .int (kI se)), (12, .int (kI x))]) hx hb dL_kind_365 hl (by decide) rfl (fun ls hl => ?_)
              refine lv_iload hx hb dL_kind_367 (lv_at hl 12 rfl) ?_
              refine r_iconst hx hb dL_kind_369 ?_
              refine r_icmp_ne (tgt := 385) hx hb ⟨by omega, by omega⟩ ⟨by decide, by decide⟩ dL_kind_370 (by decide) (fun h_85 => absurd h_85 (by omega)) (fun h_85 => ?_)
              refine lv_iload hx hb dL_kind_373 (lv_at hl 9 rfl) ?_
              refine lv_iload hx hb dL_kind_375 (lv_at hl 16 rfl) ?_
              refine r_icmp_le (tgt := 385) hx hb ⟨by omega, by omega⟩ ⟨by omega, by omega⟩ dL_kind_377 (by decide) (fun h_86 => ?_) (fun h_86 => ?_)
              · skip
                have hvo := hox.keep (by omega) (show σ 2 0 - σ 7 (k * 16 + x) ≤ ol by omega)
                refine lv_iload hx hb dL_kind_385 (lv_at hl 16 rfl) ?_
                refine lv_istore (lv' := [(6, .int (kI ol)), (5, .int (kI v1)), (9, .int (kI v)), (7, .int (kI x)), (8, .int (kI fr)), (4, .int (kI (ca + 1))), (3, .int (kI (ri + 1))), (18, .int (kI 1)), (11, .int (kI 1)), (17, .int (kI lf)), (16, .int (kI dy)), (15, .int (kI pl)), (14, .int (kI rd)), (13, .int (kI st)), (0, .ref (z + 0)), (1, .int (kI k)), (2, .ref q0), (10, .int (kI se)), (12, .int (kI x))]) hx hb dL_kind_387 hl (by decide) rfl (fun ls hl => ?_)
                refine r_iinc (lv' := [(12, .int (kI (x - 1))), (6, .int (kI ol)), (5, .int (kI v1)), (9, .int (kI v)), (7, .int (kI x)), (8, .int (kI fr)), (4, .int (kI (ca + 1))), (3, .int (kI (ri + 1))), (18, .int (kI 1)), (11, .int (kI 1)), (17, .int (kI lf)), (16, .int (kI dy)), (15, .int (kI pl)), (14, .int (kI rd)), (13, .int (kI st)), (0, .ref (z + 0)), (1, .int (kI k)), (2, .ref q0), (10, .int (kI se))]) hx hb dL_kind_389 hl (k := 18) rfl (by decide) rfl (fun ls hl => ?_)
                refine lv_goto (tgt := 39) hx hb dL_kind_392 (by decide) ?_
                exact ih39 (x - 1) (ri + 1) (ca + 1) v1 ol x fr v (fun j => if j = st then f st + 1 else f j) (by omega) (by omega) (hf2) (by rw [show x - 1 + 1 = x by omega]; omega) (by rw [show x - 1 + 1 = x by omega]; omega) (hvs) (hvo) (hlo2) (hfr2) (hvl) (by omega) (by omega) _ _ _ _ (by omega) (by omega) G _ (lv_sub hl [15, 16, 17, 7, 6, 2, 1, 4, 5, 3, 18, 9, 0] rfl)
              · skip
                have hvo : VX (fun y => σ 4 (k * 16 + y) = 2) (fun y => σ 2 0 - σ 7 (k * 16 + y)) (x - 1) dy := by rw [show dy = σ 2 0 - σ 7 (k * 16 + x) by omega]; exact hox.take (by omega) h2 (show ol ≤ σ 2 0 - σ 7 (k * 16 + x) by omega)
                refine lv_iload hx hb dL_kind_380 (lv_at hl 9 rfl) ?_
                refine lv_goto (tgt := 387) hx hb dL_kind_382 (by decide) ?_
                refine lv_istore (lv' := [(6, .int (kI dy)), (5, .int (kI v1)), (9, .int (kI v)), (7, .int (kI x)), (8, .int (kI fr)), (4, .int (kI (ca + 1))), (3, .int (kI (ri + 1))), (18, .int (kI 1)), (11, .int (kI 1)), (17, .int (kI lf)), (16, .int (kI dy)), (15, .int (kI pl)), (14, .int (kI rd)), (13, .int (kI st)), (0, .ref (z + 0)), (1, .int (kI k)), (2, .ref q0), (10, .int (kI se)), (12, .int (kI x))]) hx hb dL_kind_387 hl (by decide) rfl (fun ls hl => ?_)
                refine r_iinc (lv' := [(12, .int (kI (x - 1))), (6, .int (kI dy)), (5, .int (kI v1)), (9, .int (kI v)), (7, .int (kI x)), (8, .int (kI fr)), (4, .int (kI (ca + 1))), (3, .int (kI (ri + 1))), (18, .int (kI 1)), (11, .int (kI 1)), (17, .int (kI lf)), (16, .int (kI dy)), (15, .int (kI pl)), (14, .int (kI rd)), (13, .int (kI st)), (0, .ref (z + 0)), (1, .int (kI k)), (2, .ref q0), (10, .int (kI se))]) hx hb dL_kind_389 hl (k := 18) rfl (by decide) rfl (fun ls hl => ?_)
                refine lv_goto (tgt := 39) hx hb dL_kind_392 (by decide) ?_
                exact ih39 (x - 1) (ri + 1) (ca + 1) v1 dy x fr v (fun j => if j = st then f st + 1 else f j) (by omega) (by omega) (hf2) (by rw [show x - 1 + 1 = x by omega]; omega) (by rw [show x - 1 + 1 = x by omega]; omega) (hvs) (hvo) (hlo2) (hfr2) (hvl) (by omega) (by omega) _ _ _ _ (by omega) (by omega) G _ (lv_sub hl [15, 16, 17, 7, 6, 2, 1, 4, 5, 3, 18, 9, 0] rfl)
            refine lv_iload hx hb dL_kind_340 (lv_at hl 11 rfl) ?_
            refine r_iconst hx hb dL_kind_342 ?_
            refine r_icmp_ne (tgt := 363) hx hb ⟨by omega, by omega⟩ ⟨by decide, by decide⟩ dL_kind_343 (by decide) (fun h_87 => absurd h_87 (by omega)) (fun h_87 => ?_)
            refine lv_iload hx hb dL_kind_346 (lv_at hl 15 rfl) ?_
            refine r_if_lt (tgt := 358) hx hb ⟨by omega, by omega⟩ dL_kind_348 (by decide) (fun h_88 => ?_) (fun h_88 => ?_)
            · skip
              have hvs : VM (fun y => σ 4 (k * 16 + y) = 2) (fun y => dtr σ k y) (x - 1) lf := by rw [show lf = dtr σ k x by omega]; exact hso.take (fun y => dtr_0) (by omega) h2 (Or.inl (by omega))
              refine lv_iload hx hb dL_kind_358 (lv_at hl 7 rfl) ?_
              refine lv_goto (tgt := 365) hx hb dL_kind_360 (by decide) ?_
              exact jn365 lf (hvs) (by omega) _ _ _ _ (by omega) (by omega) G _ (lv_sub hl [0, 1, 2, 3, 4, 5, 6, 7, 8, 9, 10, 11, 12, 13, 14, 15, 16, 17, 18] rfl)
            · skip
              refine lv_iload hx hb dL_kind_351 (lv_at hl 7 rfl) ?_
              refine lv_iload hx hb dL_kind_353 (lv_at hl 15 rfl) ?_
              refine r_icmp_ge (tgt := 363) hx hb ⟨by omega, by omega⟩ ⟨by omega, by omega⟩ dL_kind_355 (by decide) (fun h_89 => ?_) (fun h_89 => ?_)
              · skip
                have hvs := hso.keep (by omega) (show so ≤ dtr σ k x by omega)
                refine lv_iload hx hb dL_kind_363 (lv_at hl 15 rfl) ?_
                exact jn365 so (hvs) (by omega) _ _ _ _ (by omega) (by omega) G _ (lv_sub hl [0, 1, 2, 3, 4, 5, 6, 7, 8, 9, 10, 11, 12, 13, 14, 15, 16, 17, 18] rfl)
              · skip
                have hvs : VM (fun y => σ 4 (k * 16 + y) = 2) (fun y => dtr σ k y) (x - 1) lf := by rw [show lf = dtr σ k x by omega]; exact hso.take (fun y => dtr_0) (by omega) h2 (Or.inr (show dtr σ k x ≤ so by omega))
                refine lv_iload hx hb dL_kind_358 (lv_at hl 7 rfl) ?_
                refine lv_goto (tgt := 365) hx hb dL_kind_360 (by decide) ?_
                exact jn365 lf (hvs) (by omega) _ _ _ _ (by omega) (by omega) G _ (lv_sub hl [0, 1, 2, 3, 4, 5, 6, 7, 8, 9, 10, 11, 12, 13, 14, 15, 16, 17, 18] rfl)
          refine lv_iload hx hb dL_kind_308 (lv_at hl 4 rfl) ?_
          refine r_if_eq (tgt := 336) hx hb ⟨by decide, by decide⟩ dL_kind_310 (by decide) (fun h_90 => absurd h_90 (by decide)) (fun _ => ?_)
          refine lv_iload hx hb dL_kind_313 (lv_at hl 16 rfl) ?_
          refine r_if_lt (tgt := 331) hx hb ⟨by omega, by omega⟩ dL_kind_315 (by decide) (fun h_91 => ?_) (fun h_91 => ?_)
          · skip
            have hvl := hle.take (by omega) (by omega) hcb (Or.inl (by omega))
            refine lv_iload hx hb dL_kind_331 (lv_at hl 18 rfl) ?_
            refine lv_goto (tgt := 338) hx hb dL_kind_333 (by decide) ?_
            exact jn338 x (hvl) (by omega) _ _ _ _ (by omega) (by omega) G _ (lv_sub hl [0, 1, 2, 3, 4, 5, 6, 7, 8, 9, 10, 11, 12, 13, 14, 15, 16, 17, 18] rfl)
          · skip
            refine lv_iload hx hb dL_kind_318 (lv_at hl 9 rfl) ?_
            refine lv_aload_n hx hb dL_kind_320 rfl (lv_at hl 11 rfl) ?_
            refine lv_iload_n hx hb dL_kind_321 rfl (lv_at hl 12 rfl) ?_
            refine lv_iload hx hb dL_kind_322 (lv_at hl 16 rfl) ?_
            refine r_iconst hx hb dL_kind_324 ?_
            refine r_callWk (na := 4) (own := RL) ⟨hx, hb, hml, hown, hts⟩ G hv (k_L_keyOf_y l hst0 (σ := σ) (k := k) (y := le) (w := 1) ⟨by omega, by omega⟩ ⟨by omega, by omega⟩ ⟨by omega, by omega⟩ (hS) ⟨⟨by omega, by omega⟩, by omega, by omega⟩ (by omega)) qC_L_keyOf qM_L_124 qS_L_keyOf qN_L (by decide +kernel) ⟨Nat.le_of_ble_eq_true rfl, Nat.le_of_ble_eq_true rfl⟩ rfl rfl hl.1 rfl (Nat.le_of_ble_eq_true rfl) dL_kind_325 (hC (by omega) (by omega)) (fun H locs G => ?_)
            refine r_top (b := σ 5 (k * 16 + le)) (pok_1) ?_
            refine r_name (fun rl hrl => ?_)
            have gl := hI.rg hk (show 0 ≤ le ∧ le < 16 by omega)
            refine r_icmp_gt (tgt := 336) hx hb ⟨by omega, by omega⟩ ⟨by omega, by omega⟩ dL_kind_328 (by decide) (fun h_92 => ?_) (fun h_92 => ?_)
            · skip
              have hvl := hle.keep (by omega) (show σ 5 (k * 16 + le) * 16 + le < σ 5 (k * 16 + x) * 16 + x by omega)
              refine lv_iload hx hb dL_kind_336 (lv_at hl 16 rfl) ?_
              exact jn338 le (hvl) (by omega) _ _ _ _ (by omega) (by omega) G _ (lv_sub hl [0, 1, 2, 3, 4, 5, 6, 7, 8, 9, 10, 11, 12, 13, 14, 15, 16, 17, 18] rfl)
            · skip
              have hvl := hle.take (by omega) (by omega) hcb (Or.inr (show σ 5 (k * 16 + x) * 16 + x < σ 5 (k * 16 + le) * 16 + le by omega))
              refine lv_iload hx hb dL_kind_331 (lv_at hl 18 rfl) ?_
              refine lv_goto (tgt := 338) hx hb dL_kind_333 (by decide) ?_
              exact jn338 x (hvl) (by omega) _ _ _ _ (by omega) (by omega) G _ (lv_sub hl [0, 1, 2, 3, 4, 5, 6, 7, 8, 9, 10, 11, 12, 13, 14, 15, 16, 17, 18] rfl)
        · skip
          have hnc : ¬ cbg σ k x := fun q => by rcases q with q | q; omega; have := q.1; have := q.2; omega
          have hnr : ¬ ripe σ k x := fun q => by have := q.1; have := q.2; omega
          have cr := cn_f (P := (fun y => ripe σ k y)) (i := x) hxx.1 rfl hnr
          have cc := cn_f (P := (fun y => cbg σ k y)) (i := x) hxx.1 rfl hnc
          have hfr2 : MN (fun y => σ 4 (k * 16 + y) = 0) (fun y => y) (x - 1) fr := hfr.skip (show ¬ σ 4 (k * 16 + x) = 0 by omega)
          have hlo2 : MN (fun y => cbg σ k y) (fun y => y) (x - 1) lo := hlo.skip hnc
          have hvl := hle.skip hnc
          have h2 : σ 4 (k * 16 + x) = 2 := by omega
          refine lv_iload hx hb dL_kind_99 (lv_at hl 4 rfl) ?_
          refine r_if_lt (tgt := 207) hx hb ⟨by omega, by omega⟩ dL_kind_101 (by decide) (fun h_93 => absurd h_93 (by omega)) (fun h_93 => ?_)
          refine lv_iload hx hb dL_kind_104 (lv_at hl 4 rfl) ?_
          refine r_iconst hx hb dL_kind_106 ?_
          refine r_icmp_ge (tgt := 207) hx hb ⟨by omega, by omega⟩ ⟨by decide, by decide⟩ dL_kind_107 (by decide) (fun h_94 => absurd h_94 (by omega)) (fun h_94 => ?_)
          refine lv_iload hx hb dL_kind_110 (lv_at hl 4 rfl) ?_
          refine r_if_ne (tgt := 119) hx hb ⟨by omega, by omega⟩ dL_kind_112 (by decide) (fun h_95 => ?_) (fun h_95 => absurd h_95 (by omega))
          refine r_iconst hx hb dL_kind_119 ?_
          refine lv_iload hx hb dL_kind_120 (lv_at hl 3 rfl) ?_
          refine r_if_ne (tgt := 129) hx hb ⟨by omega, by omega⟩ dL_kind_122 (by decide) (fun h_96 => ?_) (fun h_96 => absurd h_96 (by omega))
          refine r_iconst hx hb dL_kind_129 ?_
          refine r_icmp_ne (tgt := 207) hx hb ⟨by decide, by decide⟩ ⟨by decide, by decide⟩ dL_kind_130 (by decide) (fun h_97 => absurd h_97 (by decide)) (fun _ => ?_)
          refine lv_iload hx hb dL_kind_133 (lv_at hl 4 rfl) ?_
          refine r_iconst hx hb dL_kind_135 ?_
          refine r_icmp_ne (tgt := 185) hx hb ⟨by omega, by omega⟩ ⟨by decide, by decide⟩ dL_kind_136 (by decide) (fun h_98 => absurd h_98 (by omega)) (fun h_98 => ?_)
          refine lv_iload hx hb dL_kind_139 (lv_at hl 2 rfl) ?_
          refine r_if_lt (tgt := 207) hx hb ⟨by omega, by omega⟩ dL_kind_141 (by decide) (fun h_99 => absurd h_99 (by omega)) (fun h_99 => ?_)
          refine lv_aload_n hx hb dL_kind_144 rfl (lv_at hl 5 rfl) ?_
          refine lv_iload_n hx hb dL_kind_145 rfl (lv_at hl 6 rfl) ?_
          refine lv_iload hx hb dL_kind_146 (lv_at hl 2 rfl) ?_
          refine r_callWk (na := 3) (own := RL) ⟨hx, hb, hml, hown, hts⟩ G hv (k_L_pile_y l hst0 (σ := σ) (k := k) (q := pl) ⟨by omega, by omega⟩ ⟨by omega, by omega⟩ (hS) ⟨by omega, by omega⟩ (by omega)) qC_L_pile qM_L_126 qS_L_pile qN_L (by decide +kernel) ⟨Nat.le_of_ble_eq_true rfl, Nat.le_of_ble_eq_true rfl⟩ rfl rfl hl.1 rfl (Nat.le_of_ble_eq_true rfl) dL_kind_148 (hC (by omega) (by omega)) (fun H locs G => ?_)
          refine r_top (b := x) (by rw [show pl = σ 6 (k * 16 + x) by omega]; exact kat_at hI hk hxx h2) ?_
          refine lv_iload hx hb dL_kind_151 (lv_at hl 17 rfl) ?_
          refine r_icmp_ne (tgt := 207) hx hb ⟨by omega, by omega⟩ ⟨by omega, by omega⟩ dL_kind_153 (by decide) (fun h_100 => absurd h_100 (by omega)) (fun h_100 => ?_)
          refine lv_iload hx hb dL_kind_156 (lv_at hl 1 rfl) ?_
          refine r_if_lt (tgt := 207) hx hb ⟨by omega, by omega⟩ dL_kind_158 (by decide) (fun h_101 => absurd h_101 (by omega)) (fun h_101 => ?_)
          refine lv_iload hx hb dL_kind_161 (lv_at hl 0 rfl) ?_
          refine lv_iload hx hb dL_kind_163 (lv_at hl 1 rfl) ?_
          refine lv_iload hx hb dL_kind_165 (lv_at hl 15 rfl) ?_
          refine r_icmp_ge (tgt := 178) hx hb ⟨by omega, by omega⟩ ⟨by omega, by omega⟩ dL_kind_167 (by decide) (fun h_102 => absurd h_102 (by omega)) (fun h_102 => ?_)
          refine lv_iload hx hb dL_kind_170 (lv_at hl 15 rfl) ?_
          refine lv_iload hx hb dL_kind_172 (lv_at hl 1 rfl) ?_
          refine r_isub hx hb dL_kind_174 ?_
          refine lv_goto (tgt := 179) hx hb dL_kind_175 (by decide) ?_
          refine r_icmp_ne (tgt := 207) hx hb ⟨by omega, by omega⟩ ⟨by omega, by omega⟩ dL_kind_179 (by decide) (fun h_103 => absurd h_103 (by omega)) (fun h_103 => ?_)
          refine lv_goto (tgt := 203) hx hb dL_kind_182 (by decide) ?_
          refine r_iconst hx hb dL_kind_203 ?_
          refine lv_goto (tgt := 208) hx hb dL_kind_204 (by decide) ?_
          refine lv_istore (lv' := [(11, .int (kI 1)), (17, .int (kI lf)), (16, .int (kI dy)), (15, .int (kI pl)), (14, .int (kI rd)), (13, .int (kI st)), (0, .ref (z + 0)), (1, .int (kI k)), (2, .ref q0), (3, .int (kI ri)), (4, .int (kI ca)), (5, .int (kI so)), (6, .int (kI ol)), (7, .int (kI lo)), (8, .int (kI fr)), (9, .int (kI le)), (10, .int (kI se)), (12, .int (kI x))]) hx hb dL_kind_208 hl (by decide) rfl (fun ls hl => ?_)
          refine lv_iload hx hb dL_kind_210 (lv_at hl 0 rfl) ?_
          refine r_if_eq (tgt := 389) hx hb ⟨by decide, by decide⟩ dL_kind_212 (by decide) (fun h_104 => absurd h_104 (by decide)) (fun _ => ?_)
          refine lv_aload_n hx hb dL_kind_215 rfl (lv_at hl 8 rfl) ?_
          refine lv_iload hx hb dL_kind_216 (lv_at hl 5 rfl) ?_
          refine lv_dup2_11 hx hb dL_kind_218 rfl rfl ?_
          refine r_kald hx hb G (by omega) (by omega) dL_kind_219 ?_
          refine r_iconst hx hb dL_kind_220 ?_
          refine r_iadd hx hb dL_kind_221 ?_
          refine r_kast hx hb G (by omega) (by omega) dL_kind_222 (fun H locs G => ?_)
          refine lv_iload hx hb dL_kind_223 (lv_at hl 5 rfl) ?_
          refine r_if_eq (tgt := 239) hx hb ⟨by omega, by omega⟩ dL_kind_225 (by decide) (fun h_105 => absurd h_105 (by omega)) (fun h_105 => ?_)
          refine lv_iload hx hb dL_kind_228 (lv_at hl 5 rfl) ?_
          refine r_iconst hx hb dL_kind_230 ?_
          refine r_icmp_ne (tgt := 243) hx hb ⟨by omega, by omega⟩ ⟨by decide, by decide⟩ dL_kind_231 (by decide) (fun h_106 => absurd h_106 (by omega)) (fun h_106 => ?_)
          refine lv_iload hx hb dL_kind_234 (lv_at hl 1 rfl) ?_
          refine r_if_ne (tgt := 243) hx hb ⟨by omega, by omega⟩ dL_kind_236 (by decide) (fun h_107 => ?_) (fun h_107 => absurd h_107 (by omega))
          refine r_iconst hx hb dL_kind_243 ?_
          refine lv_istore (lv' := [(18, .int (kI 0)), (11, .int (kI 1)), (17, .int (kI lf)), (16, .int (kI dy)), (15, .int (kI pl)), (14, .int (kI rd)), (13, .int (kI st)), (0, .ref (z + 0)), (1, .int (kI k)), (2, .ref q0), (3, .int (kI ri)), (4, .int (kI ca)), (5, .int (kI so)), (6, .int (kI ol)), (7, .int (kI lo)), (8, .int (kI fr)), (9, .int (kI le)), (10, .int (kI se)), (12, .int (kI x))]) hx hb dL_kind_244 hl (by decide) rfl (fun ls hl => ?_)
          refine lv_iload_n hx hb dL_kind_246 rfl (lv_at hl 10 rfl) ?_
          refine lv_iload hx hb dL_kind_247 (lv_at hl 6 rfl) ?_
          refine r_iconst hx hb dL_kind_249 ?_
          refine r_icmp_ne (tgt := 262) hx hb ⟨by omega, by omega⟩ ⟨by decide, by decide⟩ dL_kind_250 (by decide) (fun h_108 => absurd h_108 (by omega)) (fun h_108 => ?_)
          refine lv_iload hx hb dL_kind_253 (lv_at hl 2 rfl) ?_
          refine r_if_ne (tgt := 262) hx hb ⟨by omega, by omega⟩ dL_kind_255 (by decide) (fun h_109 => ?_) (fun h_109 => absurd h_109 (by omega))
          refine r_iconst hx hb dL_kind_262 ?_
          refine r_iadd hx hb dL_kind_263 ?_
          refine lv_istore_n (lv' := [(3, .int (kI (ri + 0))), (18, .int (kI 0)), (11, .int (kI 1)), (17, .int (kI lf)), (16, .int (kI dy)), (15, .int (kI pl)), (14, .int (kI rd)), (13, .int (kI st)), (0, .ref (z + 0)), (1, .int (kI k)), (2, .ref q0), (4, .int (kI ca)), (5, .int (kI so)), (6, .int (kI ol)), (7, .int (kI lo)), (8, .int (kI fr)), (9, .int (kI le)), (10, .int (kI se)), (12, .int (kI x))]) hx hb dL_kind_264 rfl hl (by decide) rfl (fun ls hl => ?_)
          refine lv_iload hx hb dL_kind_265 (lv_at hl 11 rfl) ?_
          refine lv_iload hx hb dL_kind_267 (lv_at hl 1 rfl) ?_
          refine r_if_eq (tgt := 276) hx hb ⟨by decide, by decide⟩ dL_kind_269 (by decide) (fun _ => ?_) (fun h_110 => absurd h_110 (by decide))
          refine r_iconst hx hb dL_kind_276 ?_
          refine r_iadd hx hb dL_kind_277 ?_
          refine lv_istore (lv' := [(4, .int (kI (ca + 0))), (3, .int (kI (ri + 0))), (18, .int (kI 0)), (11, .int (kI 1)), (17, .int (kI lf)), (16, .int (kI dy)), (15, .int (kI pl)), (14, .int (kI rd)), (13, .int (kI st)), (0, .ref (z + 0)), (1, .int (kI k)), (2, .ref q0), (5, .int (kI so)), (6, .int (kI ol)), (7, .int (kI lo)), (8, .int (kI fr)), (9, .int (kI le)), (10, .int (kI se)), (12, .int (kI x))]) hx hb dL_kind_278 hl (by decide) rfl (fun ls hl => ?_)
          refine lv_iload hx hb dL_kind_280 (lv_at hl 8 rfl) ?_
          refine r_if_ne (tgt := 290) hx hb ⟨by omega, by omega⟩ dL_kind_282 (by decide) (fun h_111 => ?_) (fun h_111 => absurd h_111 (by omega))
          refine lv_iload hx hb dL_kind_290 (lv_at hl 15 rfl) ?_
          refine lv_istore (lv' := [(8, .int (kI fr)), (4, .int (kI (ca + 0))), (3, .int (kI (ri + 0))), (18, .int (kI 0)), (11, .int (kI 1)), (17, .int (kI lf)), (16, .int (kI dy)), (15, .int (kI pl)), (14, .int (kI rd)), (13, .int (kI st)), (0, .ref (z + 0)), (1, .int (kI k)), (2, .ref q0), (5, .int (kI so)), (6, .int (kI ol)), (7, .int (kI lo)), (9, .int (kI le)), (10, .int (kI se)), (12, .int (kI x))]) hx hb dL_kind_292 hl (by decide) rfl (fun ls hl => ?_)
          refine lv_iload hx hb dL_kind_294 (lv_at hl 3 rfl) ?_
          refine r_if_eq (tgt := 304) hx hb ⟨by decide, by decide⟩ dL_kind_296 (by decide) (fun _ => ?_) (fun h_112 => absurd h_112 (by decide))
          refine lv_iload hx hb dL_kind_304 (lv_at hl 15 rfl) ?_
          refine lv_istore (lv' := [(7, .int (kI lo)), (8, .int (kI fr)), (4, .int (kI (ca + 0))), (3, .int (kI (ri + 0))), (18, .int (kI 0)), (11, .int (kI 1)), (17, .int (kI lf)), (16, .int (kI dy)), (15, .int (kI pl)), (14, .int (kI rd)), (13, .int (kI st)), (0, .ref (z + 0)), (1, .int (kI k)), (2, .ref q0), (5, .int (kI so)), (6, .int (kI ol)), (9, .int (kI le)), (10, .int (kI se)), (12, .int (kI x))]) hx hb dL_kind_306 hl (by decide) rfl (fun ls hl => ?_)
          have jn338 : ∀ (v : Int), (MN (fun y => cbg σ k y) (fun y => σ 5 (k * 16 + y) * 16 + y) (x - 1) v) → (-1 ≤ v ∧ v < 16) → ∀ (H : Heap) (locs : List Loc) (k1 n1 : Nat), (k1 : Int) ≤ 3 + 14 * (15 - x) + 14 → (n1 : Int) ≤ 16 + 84 * (15 - x) + 84 → Wk D T z q0 (fun j => if j = st then f st + 1 else f j) σ s H locs → ∀ (ls : Array Slot), lv_has ls 19 [(7, .int (kI lo)), (8, .int (kI fr)), (4, .int (kI (ca + 0))), (3, .int (kI (ri + 0))), (18, .int (kI 0)), (11, .int (kI 1)), (17, .int (kI lf)), (16, .int (kI dy)), (15, .int (kI pl)), (14, .int (kI rd)), (13, .int (kI st)), (0, .ref (z + 0)), (1, .int (kI k)), (2, .ref q0), (5, .int (kI so)), (6, .int (kI ol)), (9, .int (kI le)), (10, .int (kI se)), (12, .int (kI x))] → W p l e (rmX 9 151 400 2400) s m ([.ref (z + 0), .int (kI k)] : List Value).toArray below meth c H locs k1 n1 (MQ below (QI D T z 133 1 σ) ([.ref (z + 0), .int (kI k)] : List Value).toArray s 400 2400 (Own T z)) (F0 m 338 ls [.int (kI v)]) := by
            intro v hvl hvr H locs k1 n1 hk1 hn1 G ls hl
            refine lv_istore (lv' := [(9, .int (kI v)), (7, .int (kI lo)), (8, .int (kI fr)), (4, .int (kI (ca + 0))), (3, .int (kI (ri + 0))), (18, .int (kI 0)), (11, .int (kI 1)), (17, .int (kI lf)), (16, .int (kI dy)), (15, .int (kI pl)), (14, .int (kI rd)), (13, .int (kI st)), (0, .ref (z + 0)), (1, .int (kI k)), (2, .ref q0), (5, .int (kI so)), (6, .int (kI ol)), (10, .int (kI se)), (12, .int (kI x))]) hx hb dL_kind_338 hl (by decide) rfl (fun ls hl => ?_)
            have jn365 : ∀ (v1 : Int), (VM (fun y => σ 4 (k * 16 + y) = 2) (fun y => dtr σ k y) (x - 1) v1) → (-1 ≤ v1 ∧ v1 ≤ 99) → ∀ (H : Heap) (locs : List Loc) (k1 n1 : Nat), (k1 : Int) ≤ 3 + 14 * (15 - x) + 14 → (n1 : Int) ≤ 16 + 84 * (15 - x) + 84 → Wk D T z q0 (fun j => if j = st then f st + 1 else f j) σ s H locs → ∀ (ls : Array Slot), lv_has ls 19 [(9, .int (kI v)), (7, .int (kI lo)), (8, .int (kI fr)), (4, .int (kI (ca + 0))), (3, .int (kI (ri + 0))), (18, .int (kI 0)), (11, .int (kI 1)), (17, .int (kI lf)), (16, .int (kI dy)), (15, .int (kI pl)), (14, .int (kI rd)), (13, .int (kI st)), (0, .ref (z + 0)), (1, .int (kI k)), (2, .ref q0), (5, .int (kI so)), (6, .int (kI ol)), (10, .int (kI se)), (12, .int (kI x))] → W p l e (rmX 9 151 400 2400) s m ([.ref (z + 0), .int (kI k)] : List Value).toArray below meth c H locs k1 n1 (MQ below (QI D T z 133 1 σ) ([.ref (z + 0), .int (kI k)] : List Value).toArray s 400 2400 (Own T z)) (F0 m 365 ls [.int (kI v1)]) := by
              intro v1 hvs hvsr H locs k1 n1 hk1 hn1 G ls hl
              refine lv_istore (lv' := [(5, .int (kI v1)), (9, .int (kI v)), (7, .int (kI lo)), (8, .int (kI fr)), (4, .int (kI (ca + 0))), (3, .int (kI (ri + 0))), (18, .int (kI 0)), (11, .int (kI 1)), (17, .int (kI lf)), (16, .int (kI dy)), (15, .int (kI pl)), (14, .int (kI rd)), (13, .int (kI st)), (0, .ref (z + 0)), (1, .int (kI k)), (2, .ref q0), (6, .int (kI ol)), (10, .int (kI se)), (12, .int (kI x))]) hx hb dL_kind_365 hl (by decide) rfl (fun ls hl => ?_)
              refine lv_iload hx hb dL_kind_367 (lv_at hl 12 rfl) ?_
              refine r_iconst hx hb dL_kind_369 ?_
              refine r_icmp_ne (tgt := 385) hx hb ⟨by omega, by omega⟩ ⟨by decide, by decide⟩ dL_kind_370 (by decide) (fun h_113 => absurd h_113 (by omega)) (fun h_113 => ?_)
              refine lv_iload hx hb dL_kind_373 (lv_at hl 9 rfl) ?_
              refine lv_iload hx hb dL_kind_375 (lv_at hl 16 rfl) ?_
              refine r_icmp_le (tgt := 385) hx hb ⟨by omega, by omega⟩ ⟨by omega, by omega⟩ dL_kind_377 (by decide) (fun h_114 => ?_) (fun h_114 => ?_)
              · skip
                have hvo := hox.keep (by omega) (show σ 2 0 - σ 7 (k * 16 + x) ≤ ol by omega)
                refine lv_iload hx hb dL_kind_385 (lv_at hl 16 rfl) ?_
                refine lv_istore (lv' := [(6, .int (kI ol)), (5, .int (kI v1)), (9, .int (kI v)), (7, .int (kI lo)), (8, .int (kI fr)), (4, .int (kI (ca + 0))), (3, .int (kI (ri + 0))), (18, .int (kI 0)), (11, .int (kI 1)), (17, .int (kI lf)), (16, .int (kI dy)), (15, .int (kI pl)), (14, .int (kI rd)), (13, .int (kI st)), (0, .ref (z + 0)), (1, .int (kI k)), (2, .ref q0), (10, .int (kI se)), (12, .int (kI x))]) hx hb dL_kind_387 hl (by decide) rfl (fun ls hl => ?_)
                refine r_iinc (lv' := [(12, .int (kI (x - 1))), (6, .int (kI ol)), (5, .int (kI v1)), (9, .int (kI v)), (7, .int (kI lo)), (8, .int (kI fr)), (4, .int (kI (ca + 0))), (3, .int (kI (ri + 0))), (18, .int (kI 0)), (11, .int (kI 1)), (17, .int (kI lf)), (16, .int (kI dy)), (15, .int (kI pl)), (14, .int (kI rd)), (13, .int (kI st)), (0, .ref (z + 0)), (1, .int (kI k)), (2, .ref q0), (10, .int (kI se))]) hx hb dL_kind_389 hl (k := 18) rfl (by decide) rfl (fun ls hl => ?_)
                refine lv_goto (tgt := 39) hx hb dL_kind_392 (by decide) ?_
                exact ih39 (x - 1) (ri + 0) (ca + 0) v1 ol lo fr v (fun j => if j = st then f st + 1 else f j) (by omega) (by omega) (hf2) (by rw [show x - 1 + 1 = x by omega]; omega) (by rw [show x - 1 + 1 = x by omega]; omega) (hvs) (hvo) (hlo2) (hfr2) (hvl) (by omega) (by omega) _ _ _ _ (by omega) (by omega) G _ (lv_sub hl [15, 16, 17, 7, 6, 2, 1, 4, 5, 3, 18, 9, 0] rfl)
              · skip
                have hvo : VX (fun y => σ 4 (k * 16 + y) = 2) (fun y => σ 2 0 - σ 7 (k * 16 + y)) (x - 1) dy := by rw [show dy = σ 2 0 - σ 7 (k * 16 + x) by omega]; exact hox.take (by omega) h2 (show ol ≤ σ 2 0 - σ 7 (k * 16 + x) by omega)
                refine lv_iload hx hb dL_kind_380 (lv_at hl 9 rfl) ?_
                refine lv_goto (tgt := 387) hx hb dL_kind_382 (by decide) ?_
                refine lv_istore (lv' := [(6, .int (kI dy)), (5, .int (kI v1)), (9, .int (kI v)), (7, .int (kI lo)), (8, .int (kI fr)), (4, .int (kI (ca + 0))), (3, .int (kI (ri + 0))), (18, .int (kI 0)), (11, .int (kI 1)), (17, .int (kI lf)), (16, .int (kI dy)), (15, .int (kI pl)), (14, .int (kI rd)), (13, .int (kI st)), (0, .ref (z + 0)), (1, .int (kI k)), (2, .ref q0), (10, .int (kI se)), (12, .int (kI x))]) hx hb dL_kind_387 hl (by decide) rfl (fun ls hl => ?_)
                refine r_iinc (lv' := [(12, .int (kI (x - 1))), (6, .int (kI dy)), (5, .int (kI v1)), (9, .int (kI v)), (7, .int (kI lo)), (8, .int (kI fr)), (4, .int (kI (ca + 0))), (3, .int (kI (ri + 0))), (18, .int (kI 0)), (11, .int (kI 1)), (17, .int (kI lf)), (16, .int (kI dy)), (15, .int (kI pl)), (14, .int (kI rd)), (13, .int (kI st)), (0, .ref (z + 0)), (1, .int (kI k)), (2, .ref q0), (10, .int (kI se))]) hx hb dL_kind_389 hl (k := 18) rfl (by decide) rfl (fun ls hl => ?_)
                refine lv_goto (tgt := 39) hx hb dL_kind_392 (by decide) ?_
                exact ih39 (x - 1) (ri + 0) (ca + 0) v1 dy lo fr v (fun j => if j = st then f st + 1 else f j) (by omega) (by omega) (hf2) (by rw [show x - 1 + 1 = x by omega]; omega) (by rw [show x - 1 + 1 = x by omega]; omega) (hvs) (hvo) (hlo2) (hfr2) (hvl) (by omega) (by omega) _ _ _ _ (by omega) (by omega) G _ (lv_sub hl [15, 16, 17, 7, 6, 2, 1, 4, 5, 3, 18, 9, 0] rfl)
            refine lv_iload hx hb dL_kind_340 (lv_at hl 11 rfl) ?_
            refine r_iconst hx hb dL_kind_342 ?_
            refine r_icmp_ne (tgt := 363) hx hb ⟨by omega, by omega⟩ ⟨by decide, by decide⟩ dL_kind_343 (by decide) (fun h_115 => absurd h_115 (by omega)) (fun h_115 => ?_)
            refine lv_iload hx hb dL_kind_346 (lv_at hl 15 rfl) ?_
            refine r_if_lt (tgt := 358) hx hb ⟨by omega, by omega⟩ dL_kind_348 (by decide) (fun h_116 => ?_) (fun h_116 => ?_)
            · skip
              have hvs : VM (fun y => σ 4 (k * 16 + y) = 2) (fun y => dtr σ k y) (x - 1) lf := by rw [show lf = dtr σ k x by omega]; exact hso.take (fun y => dtr_0) (by omega) h2 (Or.inl (by omega))
              refine lv_iload hx hb dL_kind_358 (lv_at hl 7 rfl) ?_
              refine lv_goto (tgt := 365) hx hb dL_kind_360 (by decide) ?_
              exact jn365 lf (hvs) (by omega) _ _ _ _ (by omega) (by omega) G _ (lv_sub hl [0, 1, 2, 3, 4, 5, 6, 7, 8, 9, 10, 11, 12, 13, 14, 15, 16, 17, 18] rfl)
            · skip
              refine lv_iload hx hb dL_kind_351 (lv_at hl 7 rfl) ?_
              refine lv_iload hx hb dL_kind_353 (lv_at hl 15 rfl) ?_
              refine r_icmp_ge (tgt := 363) hx hb ⟨by omega, by omega⟩ ⟨by omega, by omega⟩ dL_kind_355 (by decide) (fun h_117 => ?_) (fun h_117 => ?_)
              · skip
                have hvs := hso.keep (by omega) (show so ≤ dtr σ k x by omega)
                refine lv_iload hx hb dL_kind_363 (lv_at hl 15 rfl) ?_
                exact jn365 so (hvs) (by omega) _ _ _ _ (by omega) (by omega) G _ (lv_sub hl [0, 1, 2, 3, 4, 5, 6, 7, 8, 9, 10, 11, 12, 13, 14, 15, 16, 17, 18] rfl)
              · skip
                have hvs : VM (fun y => σ 4 (k * 16 + y) = 2) (fun y => dtr σ k y) (x - 1) lf := by rw [show lf = dtr σ k x by omega]; exact hso.take (fun y => dtr_0) (by omega) h2 (Or.inr (show dtr σ k x ≤ so by omega))
                refine lv_iload hx hb dL_kind_358 (lv_at hl 7 rfl) ?_
                refine lv_goto (tgt := 365) hx hb dL_kind_360 (by decide) ?_
                exact jn365 lf (hvs) (by omega) _ _ _ _ (by omega) (by omega) G _ (lv_sub hl [0, 1, 2, 3, 4, 5, 6, 7, 8, 9, 10, 11, 12, 13, 14, 15, 16, 17, 18] rfl)
          refine lv_iload hx hb dL_kind_308 (lv_at hl 4 rfl) ?_
          refine r_if_eq (tgt := 336) hx hb ⟨by decide, by decide⟩ dL_kind_310 (by decide) (fun _ => ?_) (fun h_118 => absurd h_118 (by decide))
          refine lv_iload hx hb dL_kind_336 (lv_at hl 16 rfl) ?_
          exact jn338 le (hvl) (by omega) _ _ _ _ (by omega) (by omega) G _ (lv_sub hl [0, 1, 2, 3, 4, 5, 6, 7, 8, 9, 10, 11, 12, 13, 14, 15, 16, 17, 18] rfl)
        · skip
          have hnc : ¬ cbg σ k x := fun q => by rcases q with q | q; omega; have := q.1; have := q.2; omega
          have hnr : ¬ ripe σ k x := fun q => by have := q.1; have := q.2; omega
          have cr := cn_f (P := (fun y => ripe σ k y)) (i := x) hxx.1 rfl hnr
          have cc := cn_f (P := (fun y => cbg σ k y)) (i := x) hxx.1 rfl hnc
          have hfr2 : MN (fun y => σ 4 (k * 16 + y) = 0) (fun y => y) (x - 1) fr := hfr.skip (show ¬ σ 4 (k * 16 + x) = 0 by omega)
          have hlo2 : MN (fun y => cbg σ k y) (fun y => y) (x - 1) lo := hlo.skip hnc
          have hvl := hle.skip hnc
          have hvs := hso.skip (show ¬ σ 4 (k * 16 + x) = 2 by omega)
          have hvo := hox.skip (show ¬ σ 4 (k * 16 + x) = 2 by omega)
          refine lv_iload hx hb dL_kind_99 (lv_at hl 4 rfl) ?_
          refine r_if_lt (tgt := 207) hx hb ⟨by omega, by omega⟩ dL_kind_101 (by decide) (fun h_119 => absurd h_119 (by omega)) (fun h_119 => ?_)
          refine lv_iload hx hb dL_kind_104 (lv_at hl 4 rfl) ?_
          refine r_iconst hx hb dL_kind_106 ?_
          refine r_icmp_ge (tgt := 207) hx hb ⟨by omega, by omega⟩ ⟨by decide, by decide⟩ dL_kind_107 (by decide) (fun h_120 => absurd h_120 (by omega)) (fun h_120 => ?_)
          refine lv_iload hx hb dL_kind_110 (lv_at hl 4 rfl) ?_
          refine r_if_ne (tgt := 119) hx hb ⟨by omega, by omega⟩ dL_kind_112 (by decide) (fun h_121 => ?_) (fun h_121 => absurd h_121 (by omega))
          refine r_iconst hx hb dL_kind_119 ?_
          refine lv_iload hx hb dL_kind_120 (lv_at hl 3 rfl) ?_
          refine r_if_ne (tgt := 129) hx hb ⟨by omega, by omega⟩ dL_kind_122 (by decide) (fun h_122 => ?_) (fun h_122 => absurd h_122 (by omega))
          refine r_iconst hx hb dL_kind_129 ?_
          refine r_icmp_ne (tgt := 207) hx hb ⟨by decide, by decide⟩ ⟨by decide, by decide⟩ dL_kind_130 (by decide) (fun h_123 => absurd h_123 (by decide)) (fun _ => ?_)
          refine lv_iload hx hb dL_kind_133 (lv_at hl 4 rfl) ?_
          refine r_iconst hx hb dL_kind_135 ?_
          refine r_icmp_ne (tgt := 185) hx hb ⟨by omega, by omega⟩ ⟨by decide, by decide⟩ dL_kind_136 (by decide) (fun h_124 => ?_) (fun h_124 => absurd h_124 (by omega))
          refine lv_iload hx hb dL_kind_185 (lv_at hl 2 rfl) ?_
          refine r_iconst hx hb dL_kind_187 ?_
          refine r_icmp_ne (tgt := 207) hx hb ⟨by omega, by omega⟩ ⟨by decide, by decide⟩ dL_kind_188 (by decide) (fun h_125 => absurd h_125 (by omega)) (fun h_125 => ?_)
          refine lv_iload hx hb dL_kind_191 (lv_at hl 1 rfl) ?_
          refine r_iconst hx hb dL_kind_193 ?_
          refine r_icmp_ne (tgt := 207) hx hb ⟨by omega, by omega⟩ ⟨by decide, by decide⟩ dL_kind_194 (by decide) (fun h_126 => absurd h_126 (by omega)) (fun h_126 => ?_)
          refine lv_iload hx hb dL_kind_197 (lv_at hl 0 rfl) ?_
          refine r_iconst hx hb dL_kind_199 ?_
          refine r_icmp_ne (tgt := 207) hx hb ⟨by omega, by omega⟩ ⟨by decide, by decide⟩ dL_kind_200 (by decide) (fun h_127 => absurd h_127 (by omega)) (fun h_127 => ?_)
          refine r_iconst hx hb dL_kind_203 ?_
          refine lv_goto (tgt := 208) hx hb dL_kind_204 (by decide) ?_
          refine lv_istore (lv' := [(11, .int (kI 1)), (17, .int (kI lf)), (16, .int (kI dy)), (15, .int (kI pl)), (14, .int (kI rd)), (13, .int (kI st)), (0, .ref (z + 0)), (1, .int (kI k)), (2, .ref q0), (3, .int (kI ri)), (4, .int (kI ca)), (5, .int (kI so)), (6, .int (kI ol)), (7, .int (kI lo)), (8, .int (kI fr)), (9, .int (kI le)), (10, .int (kI se)), (12, .int (kI x))]) hx hb dL_kind_208 hl (by decide) rfl (fun ls hl => ?_)
          refine lv_iload hx hb dL_kind_210 (lv_at hl 0 rfl) ?_
          refine r_if_eq (tgt := 389) hx hb ⟨by decide, by decide⟩ dL_kind_212 (by decide) (fun h_128 => absurd h_128 (by decide)) (fun _ => ?_)
          refine lv_aload_n hx hb dL_kind_215 rfl (lv_at hl 8 rfl) ?_
          refine lv_iload hx hb dL_kind_216 (lv_at hl 5 rfl) ?_
          refine lv_dup2_11 hx hb dL_kind_218 rfl rfl ?_
          refine r_kald hx hb G (by omega) (by omega) dL_kind_219 ?_
          refine r_iconst hx hb dL_kind_220 ?_
          refine r_iadd hx hb dL_kind_221 ?_
          refine r_kast hx hb G (by omega) (by omega) dL_kind_222 (fun H locs G => ?_)
          refine lv_iload hx hb dL_kind_223 (lv_at hl 5 rfl) ?_
          refine r_if_eq (tgt := 239) hx hb ⟨by omega, by omega⟩ dL_kind_225 (by decide) (fun h_129 => absurd h_129 (by omega)) (fun h_129 => ?_)
          refine lv_iload hx hb dL_kind_228 (lv_at hl 5 rfl) ?_
          refine r_iconst hx hb dL_kind_230 ?_
          refine r_icmp_ne (tgt := 243) hx hb ⟨by omega, by omega⟩ ⟨by decide, by decide⟩ dL_kind_231 (by decide) (fun h_130 => ?_) (fun h_130 => absurd h_130 (by omega))
          refine r_iconst hx hb dL_kind_243 ?_
          refine lv_istore (lv' := [(18, .int (kI 0)), (11, .int (kI 1)), (17, .int (kI lf)), (16, .int (kI dy)), (15, .int (kI pl)), (14, .int (kI rd)), (13, .int (kI st)), (0, .ref (z + 0)), (1, .int (kI k)), (2, .ref q0), (3, .int (kI ri)), (4, .int (kI ca)), (5, .int (kI so)), (6, .int (kI ol)), (7, .int (kI lo)), (8, .int (kI fr)), (9, .int (kI le)), (10, .int (kI se)), (12, .int (kI x))]) hx hb dL_kind_244 hl (by decide) rfl (fun ls hl => ?_)
          refine lv_iload_n hx hb dL_kind_246 rfl (lv_at hl 10 rfl) ?_
          refine lv_iload hx hb dL_kind_247 (lv_at hl 6 rfl) ?_
          refine r_iconst hx hb dL_kind_249 ?_
          refine r_icmp_ne (tgt := 262) hx hb ⟨by omega, by omega⟩ ⟨by decide, by decide⟩ dL_kind_250 (by decide) (fun h_131 => ?_) (fun h_131 => absurd h_131 (by omega))
          refine r_iconst hx hb dL_kind_262 ?_
          refine r_iadd hx hb dL_kind_263 ?_
          refine lv_istore_n (lv' := [(3, .int (kI (ri + 0))), (18, .int (kI 0)), (11, .int (kI 1)), (17, .int (kI lf)), (16, .int (kI dy)), (15, .int (kI pl)), (14, .int (kI rd)), (13, .int (kI st)), (0, .ref (z + 0)), (1, .int (kI k)), (2, .ref q0), (4, .int (kI ca)), (5, .int (kI so)), (6, .int (kI ol)), (7, .int (kI lo)), (8, .int (kI fr)), (9, .int (kI le)), (10, .int (kI se)), (12, .int (kI x))]) hx hb dL_kind_264 rfl hl (by decide) rfl (fun ls hl => ?_)
          refine lv_iload hx hb dL_kind_265 (lv_at hl 11 rfl) ?_
          refine lv_iload hx hb dL_kind_267 (lv_at hl 1 rfl) ?_
          refine r_if_eq (tgt := 276) hx hb ⟨by decide, by decide⟩ dL_kind_269 (by decide) (fun _ => ?_) (fun h_132 => absurd h_132 (by decide))
          refine r_iconst hx hb dL_kind_276 ?_
          refine r_iadd hx hb dL_kind_277 ?_
          refine lv_istore (lv' := [(4, .int (kI (ca + 0))), (3, .int (kI (ri + 0))), (18, .int (kI 0)), (11, .int (kI 1)), (17, .int (kI lf)), (16, .int (kI dy)), (15, .int (kI pl)), (14, .int (kI rd)), (13, .int (kI st)), (0, .ref (z + 0)), (1, .int (kI k)), (2, .ref q0), (5, .int (kI so)), (6, .int (kI ol)), (7, .int (kI lo)), (8, .int (kI fr)), (9, .int (kI le)), (10, .int (kI se)), (12, .int (kI x))]) hx hb dL_kind_278 hl (by decide) rfl (fun ls hl => ?_)
          refine lv_iload hx hb dL_kind_280 (lv_at hl 8 rfl) ?_
          refine r_if_ne (tgt := 290) hx hb ⟨by omega, by omega⟩ dL_kind_282 (by decide) (fun h_133 => ?_) (fun h_133 => absurd h_133 (by omega))
          refine lv_iload hx hb dL_kind_290 (lv_at hl 15 rfl) ?_
          refine lv_istore (lv' := [(8, .int (kI fr)), (4, .int (kI (ca + 0))), (3, .int (kI (ri + 0))), (18, .int (kI 0)), (11, .int (kI 1)), (17, .int (kI lf)), (16, .int (kI dy)), (15, .int (kI pl)), (14, .int (kI rd)), (13, .int (kI st)), (0, .ref (z + 0)), (1, .int (kI k)), (2, .ref q0), (5, .int (kI so)), (6, .int (kI ol)), (7, .int (kI lo)), (9, .int (kI le)), (10, .int (kI se)), (12, .int (kI x))]) hx hb dL_kind_292 hl (by decide) rfl (fun ls hl => ?_)
          refine lv_iload hx hb dL_kind_294 (lv_at hl 3 rfl) ?_
          refine r_if_eq (tgt := 304) hx hb ⟨by decide, by decide⟩ dL_kind_296 (by decide) (fun _ => ?_) (fun h_134 => absurd h_134 (by decide))
          refine lv_iload hx hb dL_kind_304 (lv_at hl 15 rfl) ?_
          refine lv_istore (lv' := [(7, .int (kI lo)), (8, .int (kI fr)), (4, .int (kI (ca + 0))), (3, .int (kI (ri + 0))), (18, .int (kI 0)), (11, .int (kI 1)), (17, .int (kI lf)), (16, .int (kI dy)), (15, .int (kI pl)), (14, .int (kI rd)), (13, .int (kI st)), (0, .ref (z + 0)), (1, .int (kI k)), (2, .ref q0), (5, .int (kI so)), (6, .int (kI ol)), (9, .int (kI le)), (10, .int (kI se)), (12, .int (kI x))]) hx hb dL_kind_306 hl (by decide) rfl (fun ls hl => ?_)
          have jn338 : ∀ (v : Int), (MN (fun y => cbg σ k y) (fun y => σ 5 (k * 16 + y) * 16 + y) (x - 1) v) → (-1 ≤ v ∧ v < 16) → ∀ (H : Heap) (locs : List Loc) (k1 n1 : Nat), (k1 : Int) ≤ 3 + 14 * (15 - x) + 14 → (n1 : Int) ≤ 16 + 84 * (15 - x) + 84 → Wk D T z q0 (fun j => if j = st then f st + 1 else f j) σ s H locs → ∀ (ls : Array Slot), lv_has ls 19 [(7, .int (kI lo)), (8, .int (kI fr)), (4, .int (kI (ca + 0))), (3, .int (kI (ri + 0))), (18, .int (kI 0)), (11, .int (kI 1)), (17, .int (kI lf)), (16, .int (kI dy)), (15, .int (kI pl)), (14, .int (kI rd)), (13, .int (kI st)), (0, .ref (z + 0)), (1, .int (kI k)), (2, .ref q0), (5, .int (kI so)), (6, .int (kI ol)), (9, .int (kI le)), (10, .int (kI se)), (12, .int (kI x))] → W p l e (rmX 9 151 400 2400) s m ([.ref (z + 0), .int (kI k)] : List Value).toArray below meth c H locs k1 n1 (MQ below (QI D T z 133 1 σ) ([.ref (z + 0), .int (kI k)] : List Value).toArray s 400 2400 (Own T z)) (F0 m 338 ls [.int (kI v)]) := by
            intro v hvl hvr H locs k1 n1 hk1 hn1 G ls hl
            refine lv_istore (lv' := [(9, .int (kI v)), (7, .int (kI lo)), (8, .int (kI fr)), (4, .int (kI (ca + 0))), (3, .int (kI (ri + 0))), (18, .int (kI 0)), (11, .int (kI 1)), (17, .int (kI lf)), (16, .int (kI dy)), (15, .int (kI pl)), (14, .int (kI rd)), (13, .int (kI st)), (0, .ref (z + 0)), (1, .int (kI k)), (2, .ref q0), (5, .int (kI so)), (6, .int (kI ol)), (10, .int (kI se)), (12, .int (kI x))]) hx hb dL_kind_338 hl (by decide) rfl (fun ls hl => ?_)
            have jn365 : ∀ (v1 : Int), (VM (fun y => σ 4 (k * 16 + y) = 2) (fun y => dtr σ k y) (x - 1) v1) → (-1 ≤ v1 ∧ v1 ≤ 99) → ∀ (H : Heap) (locs : List Loc) (k1 n1 : Nat), (k1 : Int) ≤ 3 + 14 * (15 - x) + 14 → (n1 : Int) ≤ 16 + 84 * (15 - x) + 84 → Wk D T z q0 (fun j => if j = st then f st + 1 else f j) σ s H locs → ∀ (ls : Array Slot), lv_has ls 19 [(9, .int (kI v)), (7, .int (kI lo)), (8, .int (kI fr)), (4, .int (kI (ca + 0))), (3, .int (kI (ri + 0))), (18, .int (kI 0)), (11, .int (kI 1)), (17, .int (kI lf)), (16, .int (kI dy)), (15, .int (kI pl)), (14, .int (kI rd)), (13, .int (kI st)), (0, .ref (z + 0)), (1, .int (kI k)), (2, .ref q0), (5, .int (kI so)), (6, .int (kI ol)), (10, .int (kI se)), (12, .int (kI x))] → W p l e (rmX 9 151 400 2400) s m ([.ref (z + 0), .int (kI k)] : List Value).toArray below meth c H locs k1 n1 (MQ below (QI D T z 133 1 σ) ([.ref (z + 0), .int (kI k)] : List Value).toArray s 400 2400 (Own T z)) (F0 m 365 ls [.int (kI v1)]) := by
              intro v1 hvs hvsr H locs k1 n1 hk1 hn1 G ls hl
              refine lv_istore (lv' := [(5, .int (kI v1)), (9, .int (kI v)), (7, .int (kI lo)), (8, .int (kI fr)), (4, .int (kI (ca + 0))), (3, .int (kI (ri + 0))), (18, .int (kI 0)), (11, .int (kI 1)), (17, .int (kI lf)), (16, .int (kI dy)), (15, .int (kI pl)), (14, .int (kI rd)), (13, .int (kI st)), (0, .ref (z + 0)), (1, .int (kI k)), (2, .ref q0), (6, .int (kI ol)), (10, .int (kI se)), (12, .int (kI x))]) hx hb dL_kind_365 hl (by decide) rfl (fun ls hl => ?_)
              refine lv_iload hx hb dL_kind_367 (lv_at hl 12 rfl) ?_
              refine r_iconst hx hb dL_kind_369 ?_
              refine r_icmp_ne (tgt := 385) hx hb ⟨by omega, by omega⟩ ⟨by decide, by decide⟩ dL_kind_370 (by decide) (fun h_135 => ?_) (fun h_135 => absurd h_135 (by omega))
              refine lv_iload hx hb dL_kind_385 (lv_at hl 16 rfl) ?_
              refine lv_istore (lv' := [(6, .int (kI ol)), (5, .int (kI v1)), (9, .int (kI v)), (7, .int (kI lo)), (8, .int (kI fr)), (4, .int (kI (ca + 0))), (3, .int (kI (ri + 0))), (18, .int (kI 0)), (11, .int (kI 1)), (17, .int (kI lf)), (16, .int (kI dy)), (15, .int (kI pl)), (14, .int (kI rd)), (13, .int (kI st)), (0, .ref (z + 0)), (1, .int (kI k)), (2, .ref q0), (10, .int (kI se)), (12, .int (kI x))]) hx hb dL_kind_387 hl (by decide) rfl (fun ls hl => ?_)
              refine r_iinc (lv' := [(12, .int (kI (x - 1))), (6, .int (kI ol)), (5, .int (kI v1)), (9, .int (kI v)), (7, .int (kI lo)), (8, .int (kI fr)), (4, .int (kI (ca + 0))), (3, .int (kI (ri + 0))), (18, .int (kI 0)), (11, .int (kI 1)), (17, .int (kI lf)), (16, .int (kI dy)), (15, .int (kI pl)), (14, .int (kI rd)), (13, .int (kI st)), (0, .ref (z + 0)), (1, .int (kI k)), (2, .ref q0), (10, .int (kI se))]) hx hb dL_kind_389 hl (k := 18) rfl (by decide) rfl (fun ls hl => ?_)
              refine lv_goto (tgt := 39) hx hb dL_kind_392 (by decide) ?_
              exact ih39 (x - 1) (ri + 0) (ca + 0) v1 ol lo fr v (fun j => if j = st then f st + 1 else f j) (by omega) (by omega) (hf2) (by rw [show x - 1 + 1 = x by omega]; omega) (by rw [show x - 1 + 1 = x by omega]; omega) (hvs) (hvo) (hlo2) (hfr2) (hvl) (by omega) (by omega) _ _ _ _ (by omega) (by omega) G _ (lv_sub hl [15, 16, 17, 7, 6, 2, 1, 4, 5, 3, 18, 9, 0] rfl)
            refine lv_iload hx hb dL_kind_340 (lv_at hl 11 rfl) ?_
            refine r_iconst hx hb dL_kind_342 ?_
            refine r_icmp_ne (tgt := 363) hx hb ⟨by omega, by omega⟩ ⟨by decide, by decide⟩ dL_kind_343 (by decide) (fun h_136 => ?_) (fun h_136 => absurd h_136 (by omega))
            refine lv_iload hx hb dL_kind_363 (lv_at hl 15 rfl) ?_
            exact jn365 so (hvs) (by omega) _ _ _ _ (by omega) (by omega) G _ (lv_sub hl [0, 1, 2, 3, 4, 5, 6, 7, 8, 9, 10, 11, 12, 13, 14, 15, 16, 17, 18] rfl)
          refine lv_iload hx hb dL_kind_308 (lv_at hl 4 rfl) ?_
          refine r_if_eq (tgt := 336) hx hb ⟨by decide, by decide⟩ dL_kind_310 (by decide) (fun _ => ?_) (fun h_137 => absurd h_137 (by decide))
          refine lv_iload hx hb dL_kind_336 (lv_at hl 16 rfl) ?_
          exact jn338 le (hvl) (by omega) _ _ _ _ (by omega) (by omega) G _ (lv_sub hl [0, 1, 2, 3, 4, 5, 6, 7, 8, 9, 10, 11, 12, 13, 14, 15, 16, 17, 18] rfl)
        · skip
          have hnc : ¬ cbg σ k x := fun q => by rcases q with q | q; omega; have := q.1; have := q.2; omega
          have hnr : ¬ ripe σ k x := fun q => by have := q.1; have := q.2; omega
          have cr := cn_f (P := (fun y => ripe σ k y)) (i := x) hxx.1 rfl hnr
          have cc := cn_f (P := (fun y => cbg σ k y)) (i := x) hxx.1 rfl hnc
          have hfr2 : MN (fun y => σ 4 (k * 16 + y) = 0) (fun y => y) (x - 1) fr := hfr.skip (show ¬ σ 4 (k * 16 + x) = 0 by omega)
          have hlo2 : MN (fun y => cbg σ k y) (fun y => y) (x - 1) lo := hlo.skip hnc
          have hvl := hle.skip hnc
          have hvs := hso.skip (show ¬ σ 4 (k * 16 + x) = 2 by omega)
          have hvo := hox.skip (show ¬ σ 4 (k * 16 + x) = 2 by omega)
          refine lv_iload hx hb dL_kind_99 (lv_at hl 4 rfl) ?_
          refine r_if_lt (tgt := 207) hx hb ⟨by omega, by omega⟩ dL_kind_101 (by decide) (fun h_138 => absurd h_138 (by omega)) (fun h_138 => ?_)
          refine lv_iload hx hb dL_kind_104 (lv_at hl 4 rfl) ?_
          refine r_iconst hx hb dL_kind_106 ?_
          refine r_icmp_ge (tgt := 207) hx hb ⟨by omega, by omega⟩ ⟨by decide, by decide⟩ dL_kind_107 (by decide) (fun h_139 => absurd h_139 (by omega)) (fun h_139 => ?_)
          refine lv_iload hx hb dL_kind_110 (lv_at hl 4 rfl) ?_
          refine r_if_ne (tgt := 119) hx hb ⟨by omega, by omega⟩ dL_kind_112 (by decide) (fun h_140 => ?_) (fun h_140 => absurd h_140 (by omega))
          refine r_iconst hx hb dL_kind_119 ?_
          refine lv_iload hx hb dL_kind_120 (lv_at hl 3 rfl) ?_
          refine r_if_ne (tgt := 129) hx hb ⟨by omega, by omega⟩ dL_kind_122 (by decide) (fun h_141 => ?_) (fun h_141 => absurd h_141 (by omega))
          refine r_iconst hx hb dL_kind_129 ?_
          refine r_icmp_ne (tgt := 207) hx hb ⟨by decide, by decide⟩ ⟨by decide, by decide⟩ dL_kind_130 (by decide) (fun h_142 => absurd h_142 (by decide)) (fun _ => ?_)
          refine lv_iload hx hb dL_kind_133 (lv_at hl 4 rfl) ?_
          refine r_iconst hx hb dL_kind_135 ?_
          refine r_icmp_ne (tgt := 185) hx hb ⟨by omega, by omega⟩ ⟨by decide, by decide⟩ dL_kind_136 (by decide) (fun h_143 => ?_) (fun h_143 => absurd h_143 (by omega))
          refine lv_iload hx hb dL_kind_185 (lv_at hl 2 rfl) ?_
          refine r_iconst hx hb dL_kind_187 ?_
          refine r_icmp_ne (tgt := 207) hx hb ⟨by omega, by omega⟩ ⟨by decide, by decide⟩ dL_kind_188 (by decide) (fun h_144 => absurd h_144 (by omega)) (fun h_144 => ?_)
          refine lv_iload hx hb dL_kind_191 (lv_at hl 1 rfl) ?_
          refine r_iconst hx hb dL_kind_193 ?_
          refine r_icmp_ne (tgt := 207) hx hb ⟨by omega, by omega⟩ ⟨by decide, by decide⟩ dL_kind_194 (by decide) (fun h_145 => absurd h_145 (by omega)) (fun h_145 => ?_)
          refine lv_iload hx hb dL_kind_197 (lv_at hl 0 rfl) ?_
          refine r_iconst hx hb dL_kind_199 ?_
          refine r_icmp_ne (tgt := 207) hx hb ⟨by omega, by omega⟩ ⟨by decide, by decide⟩ dL_kind_200 (by decide) (fun h_146 => absurd h_146 (by omega)) (fun h_146 => ?_)
          refine r_iconst hx hb dL_kind_203 ?_
          refine lv_goto (tgt := 208) hx hb dL_kind_204 (by decide) ?_
          refine lv_istore (lv' := [(11, .int (kI 1)), (17, .int (kI lf)), (16, .int (kI dy)), (15, .int (kI pl)), (14, .int (kI rd)), (13, .int (kI st)), (0, .ref (z + 0)), (1, .int (kI k)), (2, .ref q0), (3, .int (kI ri)), (4, .int (kI ca)), (5, .int (kI so)), (6, .int (kI ol)), (7, .int (kI lo)), (8, .int (kI fr)), (9, .int (kI le)), (10, .int (kI se)), (12, .int (kI x))]) hx hb dL_kind_208 hl (by decide) rfl (fun ls hl => ?_)
          refine lv_iload hx hb dL_kind_210 (lv_at hl 0 rfl) ?_
          refine r_if_eq (tgt := 389) hx hb ⟨by decide, by decide⟩ dL_kind_212 (by decide) (fun h_147 => absurd h_147 (by decide)) (fun _ => ?_)
          refine lv_aload_n hx hb dL_kind_215 rfl (lv_at hl 8 rfl) ?_
          refine lv_iload hx hb dL_kind_216 (lv_at hl 5 rfl) ?_
          refine lv_dup2_11 hx hb dL_kind_218 rfl rfl ?_
          refine r_kald hx hb G (by omega) (by omega) dL_kind_219 ?_
          refine r_iconst hx hb dL_kind_220 ?_
          refine r_iadd hx hb dL_kind_221 ?_
          refine r_kast hx hb G (by omega) (by omega) dL_kind_222 (fun H locs G => ?_)
          refine lv_iload hx hb dL_kind_223 (lv_at hl 5 rfl) ?_
          refine r_if_eq (tgt := 239) hx hb ⟨by omega, by omega⟩ dL_kind_225 (by decide) (fun h_148 => absurd h_148 (by omega)) (fun h_148 => ?_)
          refine lv_iload hx hb dL_kind_228 (lv_at hl 5 rfl) ?_
          refine r_iconst hx hb dL_kind_230 ?_
          refine r_icmp_ne (tgt := 243) hx hb ⟨by omega, by omega⟩ ⟨by decide, by decide⟩ dL_kind_231 (by decide) (fun h_149 => ?_) (fun h_149 => absurd h_149 (by omega))
          refine r_iconst hx hb dL_kind_243 ?_
          refine lv_istore (lv' := [(18, .int (kI 0)), (11, .int (kI 1)), (17, .int (kI lf)), (16, .int (kI dy)), (15, .int (kI pl)), (14, .int (kI rd)), (13, .int (kI st)), (0, .ref (z + 0)), (1, .int (kI k)), (2, .ref q0), (3, .int (kI ri)), (4, .int (kI ca)), (5, .int (kI so)), (6, .int (kI ol)), (7, .int (kI lo)), (8, .int (kI fr)), (9, .int (kI le)), (10, .int (kI se)), (12, .int (kI x))]) hx hb dL_kind_244 hl (by decide) rfl (fun ls hl => ?_)
          refine lv_iload_n hx hb dL_kind_246 rfl (lv_at hl 10 rfl) ?_
          refine lv_iload hx hb dL_kind_247 (lv_at hl 6 rfl) ?_
          refine r_iconst hx hb dL_kind_249 ?_
          refine r_icmp_ne (tgt := 262) hx hb ⟨by omega, by omega⟩ ⟨by decide, by decide⟩ dL_kind_250 (by decide) (fun h_150 => ?_) (fun h_150 => absurd h_150 (by omega))
          refine r_iconst hx hb dL_kind_262 ?_
          refine r_iadd hx hb dL_kind_263 ?_
          refine lv_istore_n (lv' := [(3, .int (kI (ri + 0))), (18, .int (kI 0)), (11, .int (kI 1)), (17, .int (kI lf)), (16, .int (kI dy)), (15, .int (kI pl)), (14, .int (kI rd)), (13, .int (kI st)), (0, .ref (z + 0)), (1, .int (kI k)), (2, .ref q0), (4, .int (kI ca)), (5, .int (kI so)), (6, .int (kI ol)), (7, .int (kI lo)), (8, .int (kI fr)), (9, .int (kI le)), (10, .int (kI se)), (12, .int (kI x))]) hx hb dL_kind_264 rfl hl (by decide) rfl (fun ls hl => ?_)
          refine lv_iload hx hb dL_kind_265 (lv_at hl 11 rfl) ?_
          refine lv_iload hx hb dL_kind_267 (lv_at hl 1 rfl) ?_
          refine r_if_eq (tgt := 276) hx hb ⟨by decide, by decide⟩ dL_kind_269 (by decide) (fun _ => ?_) (fun h_151 => absurd h_151 (by decide))
          refine r_iconst hx hb dL_kind_276 ?_
          refine r_iadd hx hb dL_kind_277 ?_
          refine lv_istore (lv' := [(4, .int (kI (ca + 0))), (3, .int (kI (ri + 0))), (18, .int (kI 0)), (11, .int (kI 1)), (17, .int (kI lf)), (16, .int (kI dy)), (15, .int (kI pl)), (14, .int (kI rd)), (13, .int (kI st)), (0, .ref (z + 0)), (1, .int (kI k)), (2, .ref q0), (5, .int (kI so)), (6, .int (kI ol)), (7, .int (kI lo)), (8, .int (kI fr)), (9, .int (kI le)), (10, .int (kI se)), (12, .int (kI x))]) hx hb dL_kind_278 hl (by decide) rfl (fun ls hl => ?_)
          refine lv_iload hx hb dL_kind_280 (lv_at hl 8 rfl) ?_
          refine r_if_ne (tgt := 290) hx hb ⟨by omega, by omega⟩ dL_kind_282 (by decide) (fun h_152 => ?_) (fun h_152 => absurd h_152 (by omega))
          refine lv_iload hx hb dL_kind_290 (lv_at hl 15 rfl) ?_
          refine lv_istore (lv' := [(8, .int (kI fr)), (4, .int (kI (ca + 0))), (3, .int (kI (ri + 0))), (18, .int (kI 0)), (11, .int (kI 1)), (17, .int (kI lf)), (16, .int (kI dy)), (15, .int (kI pl)), (14, .int (kI rd)), (13, .int (kI st)), (0, .ref (z + 0)), (1, .int (kI k)), (2, .ref q0), (5, .int (kI so)), (6, .int (kI ol)), (7, .int (kI lo)), (9, .int (kI le)), (10, .int (kI se)), (12, .int (kI x))]) hx hb dL_kind_292 hl (by decide) rfl (fun ls hl => ?_)
          refine lv_iload hx hb dL_kind_294 (lv_at hl 3 rfl) ?_
          refine r_if_eq (tgt := 304) hx hb ⟨by decide, by decide⟩ dL_kind_296 (by decide) (fun _ => ?_) (fun h_153 => absurd h_153 (by decide))
          refine lv_iload hx hb dL_kind_304 (lv_at hl 15 rfl) ?_
          refine lv_istore (lv' := [(7, .int (kI lo)), (8, .int (kI fr)), (4, .int (kI (ca + 0))), (3, .int (kI (ri + 0))), (18, .int (kI 0)), (11, .int (kI 1)), (17, .int (kI lf)), (16, .int (kI dy)), (15, .int (kI pl)), (14, .int (kI rd)), (13, .int (kI st)), (0, .ref (z + 0)), (1, .int (kI k)), (2, .ref q0), (5, .int (kI so)), (6, .int (kI ol)), (9, .int (kI le)), (10, .int (kI se)), (12, .int (kI x))]) hx hb dL_kind_306 hl (by decide) rfl (fun ls hl => ?_)
          have jn338 : ∀ (v : Int), (MN (fun y => cbg σ k y) (fun y => σ 5 (k * 16 + y) * 16 + y) (x - 1) v) → (-1 ≤ v ∧ v < 16) → ∀ (H : Heap) (locs : List Loc) (k1 n1 : Nat), (k1 : Int) ≤ 3 + 14 * (15 - x) + 14 → (n1 : Int) ≤ 16 + 84 * (15 - x) + 84 → Wk D T z q0 (fun j => if j = st then f st + 1 else f j) σ s H locs → ∀ (ls : Array Slot), lv_has ls 19 [(7, .int (kI lo)), (8, .int (kI fr)), (4, .int (kI (ca + 0))), (3, .int (kI (ri + 0))), (18, .int (kI 0)), (11, .int (kI 1)), (17, .int (kI lf)), (16, .int (kI dy)), (15, .int (kI pl)), (14, .int (kI rd)), (13, .int (kI st)), (0, .ref (z + 0)), (1, .int (kI k)), (2, .ref q0), (5, .int (kI so)), (6, .int (kI ol)), (9, .int (kI le)), (10, .int (kI se)), (12, .int (kI x))] → W p l e (rmX 9 151 400 2400) s m ([.ref (z + 0), .int (kI k)] : List Value).toArray below meth c H locs k1 n1 (MQ below (QI D T z 133 1 σ) ([.ref (z + 0), .int (kI k)] : List Value).toArray s 400 2400 (Own T z)) (F0 m 338 ls [.int (kI v)]) := by
            intro v hvl hvr H locs k1 n1 hk1 hn1 G ls hl
            refine lv_istore (lv' := [(9, .int (kI v)), (7, .int (kI lo)), (8, .int (kI fr)), (4, .int (kI (ca + 0))), (3, .int (kI (ri + 0))), (18, .int (kI 0)), (11, .int (kI 1)), (17, .int (kI lf)), (16, .int (kI dy)), (15, .int (kI pl)), (14, .int (kI rd)), (13, .int (kI st)), (0, .ref (z + 0)), (1, .int (kI k)), (2, .ref q0), (5, .int (kI so)), (6, .int (kI ol)), (10, .int (kI se)), (12, .int (kI x))]) hx hb dL_kind_338 hl (by decide) rfl (fun ls hl => ?_)
            have jn365 : ∀ (v1 : Int), (VM (fun y => σ 4 (k * 16 + y) = 2) (fun y => dtr σ k y) (x - 1) v1) → (-1 ≤ v1 ∧ v1 ≤ 99) → ∀ (H : Heap) (locs : List Loc) (k1 n1 : Nat), (k1 : Int) ≤ 3 + 14 * (15 - x) + 14 → (n1 : Int) ≤ 16 + 84 * (15 - x) + 84 → Wk D T z q0 (fun j => if j = st then f st + 1 else f j) σ s H locs → ∀ (ls : Array Slot), lv_has ls 19 [(9, .int (kI v)), (7, .int (kI lo)), (8, .int (kI fr)), (4, .int (kI (ca + 0))), (3, .int (kI (ri + 0))), (18, .int (kI 0)), (11, .int (kI 1)), (17, .int (kI lf)), (16, .int (kI dy)), (15, .int (kI pl)), (14, .int (kI rd)), (13, .int (kI st)), (0, .ref (z + 0)), (1, .int (kI k)), (2, .ref q0), (5, .int (kI so)), (6, .int (kI ol)), (10, .int (kI se)), (12, .int (kI x))] → W p l e (rmX 9 151 400 2400) s m ([.ref (z + 0), .int (kI k)] : List Value).toArray below meth c H locs k1 n1 (MQ below (QI D T z 133 1 σ) ([.ref (z + 0), .int (kI k)] : List Value).toArray s 400 2400 (Own T z)) (F0 m 365 ls [.int (kI v1)]) := by
              intro v1 hvs hvsr H locs k1 n1 hk1 hn1 G ls hl
              refine lv_istore (lv' := [(5, .int (kI v1)), (9, .int (kI v)), (7, .int (kI lo)), (8, .int (kI fr)), (4, .int (kI (ca + 0))), (3, .int (kI (ri + 0))), (18, .int (kI 0)), (11, .int (kI 1)), (17, .int (kI lf)), (16, .int (kI dy)), (15, .int (kI pl)), (14, .int (kI rd)), (13, .int (kI st)), (0, .ref (z + 0)), (1, .int (kI k)), (2, .ref q0), (6, .int (kI ol)), (10, .int (kI se)), (12, .int (kI x))]) hx hb dL_kind_365 hl (by decide) rfl (fun ls hl => ?_)
              refine lv_iload hx hb dL_kind_367 (lv_at hl 12 rfl) ?_
              refine r_iconst hx hb dL_kind_369 ?_
              refine r_icmp_ne (tgt := 385) hx hb ⟨by omega, by omega⟩ ⟨by decide, by decide⟩ dL_kind_370 (by decide) (fun h_154 => ?_) (fun h_154 => absurd h_154 (by omega))
              refine lv_iload hx hb dL_kind_385 (lv_at hl 16 rfl) ?_
              refine lv_istore (lv' := [(6, .int (kI ol)), (5, .int (kI v1)), (9, .int (kI v)), (7, .int (kI lo)), (8, .int (kI fr)), (4, .int (kI (ca + 0))), (3, .int (kI (ri + 0))), (18, .int (kI 0)), (11, .int (kI 1)), (17, .int (kI lf)), (16, .int (kI dy)), (15, .int (kI pl)), (14, .int (kI rd)), (13, .int (kI st)), (0, .ref (z + 0)), (1, .int (kI k)), (2, .ref q0), (10, .int (kI se)), (12, .int (kI x))]) hx hb dL_kind_387 hl (by decide) rfl (fun ls hl => ?_)
              refine r_iinc (lv' := [(12, .int (kI (x - 1))), (6, .int (kI ol)), (5, .int (kI v1)), (9, .int (kI v)), (7, .int (kI lo)), (8, .int (kI fr)), (4, .int (kI (ca + 0))), (3, .int (kI (ri + 0))), (18, .int (kI 0)), (11, .int (kI 1)), (17, .int (kI lf)), (16, .int (kI dy)), (15, .int (kI pl)), (14, .int (kI rd)), (13, .int (kI st)), (0, .ref (z + 0)), (1, .int (kI k)), (2, .ref q0), (10, .int (kI se))]) hx hb dL_kind_389 hl (k := 18) rfl (by decide) rfl (fun ls hl => ?_)
              refine lv_goto (tgt := 39) hx hb dL_kind_392 (by decide) ?_
              exact ih39 (x - 1) (ri + 0) (ca + 0) v1 ol lo fr v (fun j => if j = st then f st + 1 else f j) (by omega) (by omega) (hf2) (by rw [show x - 1 + 1 = x by omega]; omega) (by rw [show x - 1 + 1 = x by omega]; omega) (hvs) (hvo) (hlo2) (hfr2) (hvl) (by omega) (by omega) _ _ _ _ (by omega) (by omega) G _ (lv_sub hl [15, 16, 17, 7, 6, 2, 1, 4, 5, 3, 18, 9, 0] rfl)
            refine lv_iload hx hb dL_kind_340 (lv_at hl 11 rfl) ?_
            refine r_iconst hx hb dL_kind_342 ?_
            refine r_icmp_ne (tgt := 363) hx hb ⟨by omega, by omega⟩ ⟨by decide, by decide⟩ dL_kind_343 (by decide) (fun h_155 => ?_) (fun h_155 => absurd h_155 (by omega))
            refine lv_iload hx hb dL_kind_363 (lv_at hl 15 rfl) ?_
            exact jn365 so (hvs) (by omega) _ _ _ _ (by omega) (by omega) G _ (lv_sub hl [0, 1, 2, 3, 4, 5, 6, 7, 8, 9, 10, 11, 12, 13, 14, 15, 16, 17, 18] rfl)
          refine lv_iload hx hb dL_kind_308 (lv_at hl 4 rfl) ?_
          refine r_if_eq (tgt := 336) hx hb ⟨by decide, by decide⟩ dL_kind_310 (by decide) (fun _ => ?_) (fun h_156 => absurd h_156 (by decide))
          refine lv_iload hx hb dL_kind_336 (lv_at hl 16 rfl) ?_
          exact jn338 le (hvl) (by omega) _ _ _ _ (by omega) (by omega) G _ (lv_sub hl [0, 1, 2, 3, 4, 5, 6, 7, 8, 9, 10, 11, 12, 13, 14, 15, 16, 17, 18] rfl)
  exact lp39 17 15 0 0 (-1) (-1) (-1) (-1) (-1) (fun _ => 0) (by omega) (by omega) (fun w _ _ => (Int.sub_self _).symm) ((Int.sub_self _).symm) ((Int.sub_self _).symm) (VM.start) (VX.start) (MN.start) (MN.start) (MN.start) (⟨⟨by decide, by decide⟩, by decide, by decide⟩) (by omega) _ _ _ _ (by omega) (by omega) G _ (lv_sub hl [11, 12, 10, 9, 8, 7, 6, 5, 4, 3, 2, 1, 0] rfl)
