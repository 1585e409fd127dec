/-! THE LAW'S ROUND, from the act to the end of its check: one theorem for each way -/
theorem jud_c {σ : Mem} {k y q : Int} : ((σ 4 (k * 16 + y) ≠ 1 ∨ σ 5 (k * 16 + y) < q) ∧ jud σ k y q = 1) ∨ (σ 4 (k * 16 + y) = 1 ∧ q < σ 5 (k * 16 + y) ∧ jud σ k y q = 2) ∨ (σ 4 (k * 16 + y) = 1 ∧ σ 5 (k * 16 + y) = q ∧ jud σ k y q = 0) := by
  unfold jud; (repeat' split) <;> omega
theorem kat_rg {σ : Mem} {k q : Int} : -1 ≤ kat σ k q ∧ kat σ k q < 16 := by
  have h := kat_or (σ := σ) (k := k) (q := q)
  omega
set_option maxRecDepth 100000 in
set_option maxHeartbeats 4000000 in
theorem lw_askg {p : Program} {e : Env} {s : State} {m : MethodId} {below : List Frame} {meth : Method} {c : Code} {H : Heap} {locs : List Loc} {ls : Array Slot} {D : va_G} {T : Nat → ClassId} {σ : Mem} {z b k0 n0 : Nat} {Q : State → Prop} {n i y u w : Int} (l : Launch) (hst0 : l.stackTraces = false) (hx : p.tables.exec = Jvm.exec) (hb : c.code = cL_law) (hml : c.maxLocals = 23) (hown : s.vm.findClass RL = some m.cls) (hts : ∀ w ∈ Gw, w.before #[Value.ref b] s = true) (hv : Xv s) (hT : hol T < z) (G : Wd D T z 133 σ s H locs) (hG : GI n σ) (hn : 0 ≤ n ∧ n ≤ 800) (hi : 0 ≤ i ∧ i ≤ 44) (hy : 0 ≤ y ∧ y ≤ 2147483647) (hu : u = y / 16) (hw : w = y % 16) (h1 : 12 ≤ w) (hga : atr σ (u % 2) < 100) (hc0 : k0 + 20 ≤ 600130 ∧ n0 + 120 ≤ 7301079) (hl : lv_has ls 23 [(0, .ref b), (1, .ref (z + 0)), (2, .int (kI 1)), (3, .int (kI i)), (4, .int (kI y)), (5, .int (kI u)), (6, .int (kI w)), (7, .int (kI (σ 15 1))), (8, .int (kI (u % 2))), (9, .int (kI (u / 4 % 8))), (10, .int (kI (σ 2 0))), (11, .int (kI (atr σ (u % 2)))), (12, .int (kI (kor σ (u % 2) 2))), (13, .int (kI (σ 9 (u % 2)))), (14, .int (kI (σ 12 (u % 2)))), (15, .int (kI (σ 4 (u % 2 * 16 + u / 4 % 8)))), (16, .int (kI (σ 5 (u % 2 * 16 + u / 4 % 8)))), (17, .int (kI (pok σ (u % 2) (u / 4 % 8) 3))), (18, .int (kI (jud σ (u % 2) (u / 4 % 8) (1 + u / 32 % 4)))), (19, .int (kI (σ 14 1))), (20, .int (kI (σ 14 2)))]) (kk : ∀ (σ1 : Mem) (H1 : Heap) (locs1 : List Loc) (ls1 : Array Slot), Wd D T z 133 σ1 s H1 locs1 → GI (n + 1) σ1 → lv_has ls1 23 [(3, .int (kI i)), (2, .int (kI 1)), (1, .ref (z + 0)), (0, .ref b), (8, .int (kI (u % 2)))] → W p l e room_1 s m #[Value.ref b] below meth c H1 locs1 (k0 + 20) (n0 + 120) Q (F0 m 882 ls1 [])) : W p l e room_1 s m #[Value.ref b] below meth c H locs k0 n0 Q (F0 m 276 ls []) := by
  have hC : ∀ {a b : Nat}, a ≤ 600130 → b ≤ 7301079 → a ≤ room_1.cells ∧ b ≤ room_1.slots := fun h1 h2 => ⟨h1, h2⟩
  have hk4 : 0 ≤ u % 2 ∧ u % 2 < 4 := by omega
  have hx16 : 0 ≤ u / 4 % 8 ∧ u / 4 % 8 < 16 := by omega
  have hxw : 0 ≤ u / 4 % 16 ∧ u / 4 % 16 < 16 := by omega
  have hu0 : 0 ≤ u ∧ u ≤ 134217727 := by omega
  have hz := hG.z
  have hd := hG.i.ic.1
  have hday := hG.i.2.1
  have har := atr_rg (σ := σ) (k := u % 2)
  have hkr := kor_rg (σ := σ) (k := u % 2) (n := 2) (by decide)
  have hac := hG.i.ac hk4
  unfold ACk at hac
  have hky := hG.i.rg hk4 hx16
  have hpk := pok_c (σ := σ) (k := u % 2) (y := u / 4 % 8)
  have hjr := jud_rg (σ := σ) (k := u % 2) (y := u / 4 % 8) (q := 1 + u / 32 % 4)
  have hse := hG.s.2
  have hsea := hG.i.ic.2.1 (u % 2) hk4.1 hk4.2
  refine lv_aload_n hx hb dL_law_276 rfl (lv_at hl 1 rfl) ?_
  refine lv_iload hx hb dL_law_277 (lv_at hl 4 rfl) ?_
  refine r_callK (na := 2) (own := RL) ⟨hx, hb, hml, hown, hts⟩ hT G hv (k_L_acts_ask l hst0 hG (by omega) hy hu (by omega) ) (cSx hts qM_L_167 qS_L_acts qN_L qC_L_acts (by decide +kernel) ⟨Nat.le_of_ble_eq_true rfl, Nat.le_of_ble_eq_true rfl⟩) rfl rfl hl.1 rfl (Nat.le_of_ble_eq_true rfl) dL_law_279 (hC (by omega) (by omega)) (fun H locs G => ?_)
  obtain ⟨τ, hτ⟩ : ∃ τ, τ = svr (pus σ) (u % 2) := ⟨_, rfl⟩
  rw [← hτ] at G
  refine r_name (fun to hto => ?_)
  have hA := ag_g hG (by omega) hk4 hga
  rw [← hτ] at hA
  obtain ⟨a0, aG, a15, a9, ar, a4, aq⟩ := hA
  rw [a0] at hto
  have hmr := hm_rg (σ := τ) (k := u % 2) (w := 2)
  refine lv_istore (lv' := [(21, .int (kI to)), (0, .ref b), (1, .ref (z + 0)), (2, .int (kI 1)), (3, .int (kI i)), (4, .int (kI y)), (5, .int (kI u)), (6, .int (kI w)), (7, .int (kI (σ 15 1))), (8, .int (kI (u % 2))), (9, .int (kI (u / 4 % 8))), (10, .int (kI (σ 2 0))), (11, .int (kI (atr σ (u % 2)))), (12, .int (kI (kor σ (u % 2) 2))), (13, .int (kI (σ 9 (u % 2)))), (14, .int (kI (σ 12 (u % 2)))), (15, .int (kI (σ 4 (u % 2 * 16 + u / 4 % 8)))), (16, .int (kI (σ 5 (u % 2 * 16 + u / 4 % 8)))), (17, .int (kI (pok σ (u % 2) (u / 4 % 8) 3))), (18, .int (kI (jud σ (u % 2) (u / 4 % 8) (1 + u / 32 % 4)))), (19, .int (kI (σ 14 1))), (20, .int (kI (σ 14 2)))]) hx hb dL_law_282 hl (by decide) rfl (fun ls hl => ?_)
  refine lv_iload hx hb dL_law_284 (lv_at hl 0 rfl) ?_
  refine r_ldc (n := -2000000) hx hb hts hown qCon_L_170 (by decide) dL_law_286 ?_
  refine r_icmp_le (tgt := 295) hx hb ⟨by omega, by omega⟩ ⟨by decide, by decide⟩ dL_law_288 (by decide) (fun h_1 => absurd h_1 (by omega)) (fun h_1 => ?_)
  refine r_iconst hx hb dL_law_291 ?_
  refine lv_goto (tgt := 296) hx hb dL_law_292 (by decide) ?_
  refine lv_istore (lv' := [(22, .int (kI 1)), (21, .int (kI to)), (0, .ref b), (1, .ref (z + 0)), (2, .int (kI 1)), (3, .int (kI i)), (4, .int (kI y)), (5, .int (kI u)), (6, .int (kI w)), (7, .int (kI (σ 15 1))), (8, .int (kI (u % 2))), (9, .int (kI (u / 4 % 8))), (10, .int (kI (σ 2 0))), (11, .int (kI (atr σ (u % 2)))), (12, .int (kI (kor σ (u % 2) 2))), (13, .int (kI (σ 9 (u % 2)))), (14, .int (kI (σ 12 (u % 2)))), (15, .int (kI (σ 4 (u % 2 * 16 + u / 4 % 8)))), (16, .int (kI (σ 5 (u % 2 * 16 + u / 4 % 8)))), (17, .int (kI (pok σ (u % 2) (u / 4 % 8) 3))), (18, .int (kI (jud σ (u % 2) (u / 4 % 8) (1 + u / 32 % 4)))), (19, .int (kI (σ 14 1))), (20, .int (kI (σ 14 2)))]) hx hb dL_law_296 hl (by decide) rfl (fun ls hl => ?_)
  refine lv_aload_n hx hb dL_law_298 rfl (lv_at hl 3 rfl) ?_
  refine r_bipush hx hb dL_law_299 (by decide +kernel) ?_
  refine r_callW (na := 2) (own := RL) ⟨hx, hb, hml, hown, hts⟩ G hv (k_L_count_y l hst0 (σ := τ) (w := 9) ⟨by omega, by omega⟩ (aG.s) (by omega)) qC_L_count qM_L_138 qS_L_count qN_L (by decide +kernel) ⟨Nat.le_of_ble_eq_true rfl, Nat.le_of_ble_eq_true rfl⟩ rfl rfl hl.1 rfl (Nat.le_of_ble_eq_true rfl) dL_law_301 (hC (by omega) (by omega)) (fun H locs G => ?_)
  refine r_top (b := τ 15 1) (rfl) ?_
  refine lv_iload hx hb dL_law_304 (lv_at hl 0 rfl) ?_
  refine r_if_eq (tgt := 330) hx hb ⟨by decide, by decide⟩ dL_law_306 (by decide) (fun h_2 => absurd h_2 (by decide)) (fun _ => ?_)
  refine lv_iload hx hb dL_law_309 (lv_at hl 8 rfl) ?_
  refine r_iconst hx hb dL_law_311 ?_
  refine r_icmp_ne (tgt := 323) hx hb ⟨by omega, by omega⟩ ⟨by decide, by decide⟩ dL_law_312 (by decide) (fun h_3 => ?_) (fun h_3 => absurd h_3 (by omega))
  have jn342 : ∀ (_ : Unit), ∀ (H : Heap) (locs : List Loc) (k1 n1 : Nat), (k1 : Int) ≤ k0 + 4 → (n1 : Int) ≤ n0 + 24 → Wd D T z 133 τ s H locs → ∀ (ls : Array Slot), lv_has ls 23 [(22, .int (kI 1)), (21, .int (kI to)), (0, .ref b), (1, .ref (z + 0)), (2, .int (kI 1)), (3, .int (kI i)), (4, .int (kI y)), (5, .int (kI u)), (6, .int (kI w)), (7, .int (kI (σ 15 1))), (8, .int (kI (u % 2))), (9, .int (kI (u / 4 % 8))), (10, .int (kI (σ 2 0))), (11, .int (kI (atr σ (u % 2)))), (12, .int (kI (kor σ (u % 2) 2))), (13, .int (kI (σ 9 (u % 2)))), (14, .int (kI (σ 12 (u % 2)))), (15, .int (kI (σ 4 (u % 2 * 16 + u / 4 % 8)))), (16, .int (kI (σ 5 (u % 2 * 16 + u / 4 % 8)))), (17, .int (kI (pok σ (u % 2) (u / 4 % 8) 3))), (18, .int (kI (jud σ (u % 2) (u / 4 % 8) (1 + u / 32 % 4)))), (19, .int (kI (σ 14 1))), (20, .int (kI (σ 14 2)))] → W p l e room_1 s m #[Value.ref b] below meth c H locs k1 n1 Q (F0 m 342 ls []) := by
    intro _  H locs k1 n1 hk1 hn1 G ls hl
    refine r_iconst hx hb dL_law_342 ?_
    refine lv_goto (tgt := 347) hx hb dL_law_343 (by decide) ?_
    refine lv_istore_n (lv' := [(2, .int (kI 1)), (22, .int (kI 1)), (21, .int (kI to)), (0, .ref b), (1, .ref (z + 0)), (3, .int (kI i)), (4, .int (kI y)), (5, .int (kI u)), (6, .int (kI w)), (7, .int (kI (σ 15 1))), (8, .int (kI (u % 2))), (9, .int (kI (u / 4 % 8))), (10, .int (kI (σ 2 0))), (11, .int (kI (atr σ (u % 2)))), (12, .int (kI (kor σ (u % 2) 2))), (13, .int (kI (σ 9 (u % 2)))), (14, .int (kI (σ 12 (u % 2)))), (15, .int (kI (σ 4 (u % 2 * 16 + u / 4 % 8)))), (16, .int (kI (σ 5 (u % 2 * 16 + u / 4 % 8)))), (17, .int (kI (pok σ (u % 2) (u / 4 % 8) 3))), (18, .int (kI (jud σ (u % 2) (u / 4 % 8) (1 + u / 32 % 4)))), (19, .int (kI (σ 14 1))), (20, .int (kI (σ 14 2)))]) hx hb dL_law_347 rfl hl (by decide) rfl (fun ls hl => ?_)
    refine lv_iload_n hx hb dL_law_348 rfl (lv_at hl 0 rfl) ?_
    refine r_if_eq (tgt := 464) hx hb ⟨by decide, by decide⟩ dL_law_349 (by decide) (fun h_4 => absurd h_4 (by decide)) (fun _ => ?_)
    refine lv_iload hx hb dL_law_352 (lv_at hl 8 rfl) ?_
    refine r_bipush hx hb dL_law_354 (by decide +kernel) ?_
    refine r_icmp_le (tgt := 464) hx hb ⟨by omega, by omega⟩ ⟨by decide, by decide⟩ dL_law_356 (by decide) (fun h_5 => absurd h_5 (by omega)) (fun h_5 => ?_)
    refine lv_iload hx hb dL_law_359 (lv_at hl 2 rfl) ?_
    refine lv_iload hx hb dL_law_361 (lv_at hl 13 rfl) ?_
    refine r_icmp_ne (tgt := 459) hx hb ⟨by omega, by omega⟩ ⟨by omega, by omega⟩ dL_law_363 (by decide) (fun h_6 => absurd h_6 (by omega)) (fun h_6 => ?_)
    refine lv_iload hx hb dL_law_366 (lv_at hl 13 rfl) ?_
    refine r_bipush hx hb dL_law_368 (by decide +kernel) ?_
    refine r_icmp_ge (tgt := 440) hx hb ⟨by omega, by omega⟩ ⟨by decide, by decide⟩ dL_law_370 (by decide) (fun h_7 => absurd h_7 (by omega)) (fun h_7 => ?_)
    refine lv_aload_n hx hb dL_law_373 rfl (lv_at hl 4 rfl) ?_
    refine lv_iload hx hb dL_law_374 (lv_at hl 10 rfl) ?_
    refine r_bipush hx hb dL_law_376 (by decide +kernel) ?_
    refine r_callW (na := 3) (own := RL) ⟨hx, hb, hml, hown, hts⟩ G hv (k_L_kindOf_y l hst0 (σ := τ) (k := u % 2) (w := 6) ⟨by omega, by omega⟩ ⟨by omega, by omega⟩ (aG.s) ⟨by omega, by omega⟩ (by omega)) qC_L_kindOf qM_L_122 qS_L_kindOf qN_L (by decide +kernel) ⟨Nat.le_of_ble_eq_true rfl, Nat.le_of_ble_eq_true rfl⟩ rfl rfl hl.1 rfl (Nat.le_of_ble_eq_true rfl) dL_law_378 (hC (by omega) (by omega)) (fun H locs G => ?_)
    refine r_top (b := τ 9 (u % 2)) (rfl) ?_
    refine lv_iload hx hb dL_law_381 (lv_at hl 15 rfl) ?_
    refine r_iconst hx hb dL_law_383 ?_
    refine r_iadd hx hb dL_law_384 ?_
    refine r_icmp_ne (tgt := 459) hx hb ⟨by omega, by omega⟩ ⟨by omega, by omega⟩ dL_law_385 (by decide) (fun h_8 => absurd h_8 (by omega)) (fun h_8 => ?_)
    refine lv_aload_n hx hb dL_law_388 rfl (lv_at hl 4 rfl) ?_
    refine lv_iload hx hb dL_law_389 (lv_at hl 10 rfl) ?_
    refine lv_iload hx hb dL_law_391 (lv_at hl 13 rfl) ?_
    refine r_iconst hx hb dL_law_393 ?_
    refine r_callW (na := 4) (own := RL) ⟨hx, hb, hml, hown, hts⟩ G hv (k_L_keyOf_y l hst0 (σ := τ) (k := u % 2) (y := atr σ (u % 2)) (w := 0) ⟨by omega, by omega⟩ ⟨by omega, by omega⟩ ⟨by omega, by omega⟩ (aG.s) ⟨⟨by omega, by omega⟩, by omega, by omega⟩ (by omega)) qC_L_keyOf qM_L_124 qS_L_keyOf qN_L (by decide +kernel) ⟨Nat.le_of_ble_eq_true rfl, Nat.le_of_ble_eq_true rfl⟩ rfl rfl hl.1 rfl (Nat.le_of_ble_eq_true rfl) dL_law_394 (hC (by omega) (by omega)) (fun H locs G => ?_)
    refine r_top (b := τ 4 (u % 2 * 16 + atr σ (u % 2))) (pok_0) ?_
    refine r_iconst hx hb dL_law_397 ?_
    refine r_icmp_ne (tgt := 459) hx hb ⟨by omega, by omega⟩ ⟨by decide, by decide⟩ dL_law_398 (by decide) (fun h_9 => absurd h_9 (by omega)) (fun h_9 => ?_)
    refine lv_aload_n hx hb dL_law_401 rfl (lv_at hl 4 rfl) ?_
    refine lv_iload hx hb dL_law_402 (lv_at hl 10 rfl) ?_
    refine r_callW (na := 2) (own := RL) ⟨hx, hb, hml, hown, hts⟩ G hv (k_L_ifAsked_y l hst0 (σ := τ) (k := u % 2) ⟨by omega, by omega⟩ (aG.s) ⟨by omega, by omega⟩) qC_L_ifAsked qM_L_130 qS_L_ifAsked qN_L (by decide +kernel) ⟨Nat.le_of_ble_eq_true rfl, Nat.le_of_ble_eq_true rfl⟩ rfl rfl hl.1 rfl (Nat.le_of_ble_eq_true rfl) dL_law_404 (hC (by omega) (by omega)) (fun H locs G => ?_)
    refine r_name (fun ia hia => ?_)
    have hiaE : (0 ≤ kor σ (u % 2) 2 ∧ ia = kor σ (u % 2) 2) ∨ (kor σ (u % 2) 2 < 0 ∧ hm τ (u % 2) 2 = 0 ∧ ia = 101) ∨ (kor σ (u % 2) 2 < 0 ∧ hm τ (u % 2) 2 ≠ 0 ∧ ia = 102) := by rw [hia, aq]; (repeat' split) <;> omega
    refine lv_iload hx hb dL_law_407 (lv_at hl 14 rfl) ?_
    refine r_if_lt (tgt := 417) hx hb ⟨by omega, by omega⟩ dL_law_409 (by decide) (fun h_10 => ?_) (fun h_10 => ?_)
    · skip
      refine lv_aload_n hx hb dL_law_417 rfl (lv_at hl 4 rfl) ?_
      refine lv_iload hx hb dL_law_418 (lv_at hl 10 rfl) ?_
      refine r_iconst hx hb dL_law_420 ?_
      refine r_callW (na := 3) (own := RL) ⟨hx, hb, hml, hown, hts⟩ G hv (k_L_kindOf_y l hst0 (σ := τ) (k := u % 2) (w := 3) ⟨by omega, by omega⟩ ⟨by omega, by omega⟩ (aG.s) ⟨by omega, by omega⟩ (by omega)) qC_L_kindOf qM_L_122 qS_L_kindOf qN_L (by decide +kernel) ⟨Nat.le_of_ble_eq_true rfl, Nat.le_of_ble_eq_true rfl⟩ rfl rfl hl.1 rfl (Nat.le_of_ble_eq_true rfl) dL_law_421 (hC (by omega) (by omega)) (fun H locs G => ?_)
      refine r_top (b := hm τ (u % 2) 2) (rfl) ?_
      refine r_if_ne (tgt := 432) hx hb ⟨by omega, by omega⟩ dL_law_424 (by decide) (fun h_11 => ?_) (fun h_11 => ?_)
      · skip
        refine r_bipush hx hb dL_law_432 (by decide +kernel) ?_
        refine r_icmp_ne (tgt := 459) hx hb ⟨by omega, by omega⟩ ⟨by decide, by decide⟩ dL_law_434 (by decide) (fun h_12 => absurd h_12 (by omega)) (fun h_12 => ?_)
        refine lv_goto (tgt := 455) hx hb dL_law_437 (by decide) ?_
        refine r_iconst hx hb dL_law_455 ?_
        refine lv_goto (tgt := 460) hx hb dL_law_456 (by decide) ?_
        refine lv_istore_n (lv' := [(2, .int (kI 1)), (22, .int (kI 1)), (21, .int (kI to)), (0, .ref b), (1, .ref (z + 0)), (3, .int (kI i)), (4, .int (kI y)), (5, .int (kI u)), (6, .int (kI w)), (7, .int (kI (σ 15 1))), (8, .int (kI (u % 2))), (9, .int (kI (u / 4 % 8))), (10, .int (kI (σ 2 0))), (11, .int (kI (atr σ (u % 2)))), (12, .int (kI (kor σ (u % 2) 2))), (13, .int (kI (σ 9 (u % 2)))), (14, .int (kI (σ 12 (u % 2)))), (15, .int (kI (σ 4 (u % 2 * 16 + u / 4 % 8)))), (16, .int (kI (σ 5 (u % 2 * 16 + u / 4 % 8)))), (17, .int (kI (pok σ (u % 2) (u / 4 % 8) 3))), (18, .int (kI (jud σ (u % 2) (u / 4 % 8) (1 + u / 32 % 4)))), (19, .int (kI (σ 14 1))), (20, .int (kI (σ 14 2)))]) hx hb dL_law_460 rfl hl (by decide) rfl (fun ls hl => ?_)
        refine lv_goto (tgt := 882) hx hb dL_law_461 (by decide) ?_
        exact W.widen (k := k0 + 20) (n := n0 + 120) (by omega) (by omega) (kk τ _ _ _ G aG (lv_sub hl [5, 0, 4, 3, 10] rfl))
      · skip
        refine r_bipush hx hb dL_law_427 (by decide +kernel) ?_
        refine lv_goto (tgt := 434) hx hb dL_law_429 (by decide) ?_
        refine r_icmp_ne (tgt := 459) hx hb ⟨by omega, by omega⟩ ⟨by decide, by decide⟩ dL_law_434 (by decide) (fun h_13 => absurd h_13 (by omega)) (fun h_13 => ?_)
        refine lv_goto (tgt := 455) hx hb dL_law_437 (by decide) ?_
        refine r_iconst hx hb dL_law_455 ?_
        refine lv_goto (tgt := 460) hx hb dL_law_456 (by decide) ?_
        refine lv_istore_n (lv' := [(2, .int (kI 1)), (22, .int (kI 1)), (21, .int (kI to)), (0, .ref b), (1, .ref (z + 0)), (3, .int (kI i)), (4, .int (kI y)), (5, .int (kI u)), (6, .int (kI w)), (7, .int (kI (σ 15 1))), (8, .int (kI (u % 2))), (9, .int (kI (u / 4 % 8))), (10, .int (kI (σ 2 0))), (11, .int (kI (atr σ (u % 2)))), (12, .int (kI (kor σ (u % 2) 2))), (13, .int (kI (σ 9 (u % 2)))), (14, .int (kI (σ 12 (u % 2)))), (15, .int (kI (σ 4 (u % 2 * 16 + u / 4 % 8)))), (16, .int (kI (σ 5 (u % 2 * 16 + u / 4 % 8)))), (17, .int (kI (pok σ (u % 2) (u / 4 % 8) 3))), (18, .int (kI (jud σ (u % 2) (u / 4 % 8) (1 + u / 32 % 4)))), (19, .int (kI (σ 14 1))), (20, .int (kI (σ 14 2)))]) hx hb dL_law_460 rfl hl (by decide) rfl (fun ls hl => ?_)
        refine lv_goto (tgt := 882) hx hb dL_law_461 (by decide) ?_
        exact W.widen (k := k0 + 20) (n := n0 + 120) (by omega) (by omega) (kk τ _ _ _ G aG (lv_sub hl [5, 0, 4, 3, 10] rfl))
    · skip
      refine lv_iload hx hb dL_law_412 (lv_at hl 14 rfl) ?_
      refine lv_goto (tgt := 434) hx hb dL_law_414 (by decide) ?_
      refine r_icmp_ne (tgt := 459) hx hb ⟨by omega, by omega⟩ ⟨by omega, by omega⟩ dL_law_434 (by decide) (fun h_14 => absurd h_14 (by omega)) (fun h_14 => ?_)
      refine lv_goto (tgt := 455) hx hb dL_law_437 (by decide) ?_
      refine r_iconst hx hb dL_law_455 ?_
      refine lv_goto (tgt := 460) hx hb dL_law_456 (by decide) ?_
      refine lv_istore_n (lv' := [(2, .int (kI 1)), (22, .int (kI 1)), (21, .int (kI to)), (0, .ref b), (1, .ref (z + 0)), (3, .int (kI i)), (4, .int (kI y)), (5, .int (kI u)), (6, .int (kI w)), (7, .int (kI (σ 15 1))), (8, .int (kI (u % 2))), (9, .int (kI (u / 4 % 8))), (10, .int (kI (σ 2 0))), (11, .int (kI (atr σ (u % 2)))), (12, .int (kI (kor σ (u % 2) 2))), (13, .int (kI (σ 9 (u % 2)))), (14, .int (kI (σ 12 (u % 2)))), (15, .int (kI (σ 4 (u % 2 * 16 + u / 4 % 8)))), (16, .int (kI (σ 5 (u % 2 * 16 + u / 4 % 8)))), (17, .int (kI (pok σ (u % 2) (u / 4 % 8) 3))), (18, .int (kI (jud σ (u % 2) (u / 4 % 8) (1 + u / 32 % 4)))), (19, .int (kI (σ 14 1))), (20, .int (kI (σ 14 2)))]) hx hb dL_law_460 rfl hl (by decide) rfl (fun ls hl => ?_)
      refine lv_goto (tgt := 882) hx hb dL_law_461 (by decide) ?_
      exact W.widen (k := k0 + 20) (n := n0 + 120) (by omega) (by omega) (kk τ _ _ _ G aG (lv_sub hl [5, 0, 4, 3, 10] rfl))
  refine lv_iload hx hb dL_law_323 (lv_at hl 9 rfl) ?_
  refine r_bipush hx hb dL_law_325 (by decide +kernel) ?_
  refine r_icmp_ne (tgt := 335) hx hb ⟨by omega, by omega⟩ ⟨by decide, by decide⟩ dL_law_327 (by decide) (fun h_15 => ?_) (fun h_15 => ?_)
  · skip
    refine lv_iload hx hb dL_law_335 (lv_at hl 9 rfl) ?_
    refine r_iconst hx hb dL_law_337 ?_
    refine r_iadd hx hb dL_law_338 ?_
    refine r_icmp_ne (tgt := 346) hx hb ⟨by omega, by omega⟩ ⟨by omega, by omega⟩ dL_law_339 (by decide) (fun h_16 => absurd h_16 (by omega)) (fun h_16 => ?_)
    exact jn342 ()  _ _ _ _ (by omega) (by omega) G _ (lv_sub hl [0, 1, 2, 3, 4, 5, 6, 7, 8, 9, 10, 11, 12, 13, 14, 15, 16, 17, 18, 19, 20, 21, 22] rfl)
  · skip
    refine lv_iload hx hb dL_law_330 (lv_at hl 9 rfl) ?_
    refine lv_goto (tgt := 339) hx hb dL_law_332 (by decide) ?_
    refine r_icmp_ne (tgt := 346) hx hb ⟨by omega, by omega⟩ ⟨by omega, by omega⟩ dL_law_339 (by decide) (fun h_17 => absurd h_17 (by omega)) (fun h_17 => ?_)
    exact jn342 ()  _ _ _ _ (by omega) (by omega) G _ (lv_sub hl [0, 1, 2, 3, 4, 5, 6, 7, 8, 9, 10, 11, 12, 13, 14, 15, 16, 17, 18, 19, 20, 21, 22] rfl)
set_option maxRecDepth 100000 in
set_option maxHeartbeats 4000000 in
theorem lw_askn {p : Program} {e : Env} {s : State} {m : MethodId} {below : List Frame} {meth : Method} {c : Code} {H : Heap} {locs : List Loc} {ls : Array Slot} {D : va_G} {T : Nat → ClassId} {σ : Mem} {z b k0 n0 : Nat} {Q : State → Prop} {n i y u w : Int} (l : Launch) (hst0 : l.stackTraces = false) (hx : p.tables.exec = Jvm.exec) (hb : c.code = cL_law) (hml : c.maxLocals = 23) (hown : s.vm.findClass RL = some m.cls) (hts : ∀ w ∈ Gw, w.before #[Value.ref b] s = true) (hv : Xv s) (hT : hol T < z) (G : Wd D T z 133 σ s H locs) (hG : GI n σ) (hn : 0 ≤ n ∧ n ≤ 800) (hi : 0 ≤ i ∧ i ≤ 44) (hy : 0 ≤ y ∧ y ≤ 2147483647) (hu : u = y / 16) (hw : w = y % 16) (h1 : 12 ≤ w) (hga : ¬ atr σ (u % 2) < 100) (hc0 : k0 + 20 ≤ 600130 ∧ n0 + 120 ≤ 7301079) (hl : lv_has ls 23 [(0, .ref b), (1, .ref (z + 0)), (2, .int (kI 1)), (3, .int (kI i)), (4, .int (kI y)), (5, .int (kI u)), (6, .int (kI w)), (7, .int (kI (σ 15 1))), (8, .int (kI (u % 2))), (9, .int (kI (u / 4 % 8))), (10, .int (kI (σ 2 0))), (11, .int (kI (atr σ (u % 2)))), (12, .int (kI (kor σ (u % 2) 2))), (13, .int (kI (σ 9 (u % 2)))), (14, .int (kI (σ 12 (u % 2)))), (15, .int (kI (σ 4 (u % 2 * 16 + u / 4 % 8)))), (16, .int (kI (σ 5 (u % 2 * 16 + u / 4 % 8)))), (17, .int (kI (pok σ (u % 2) (u / 4 % 8) 3))), (18, .int (kI (jud σ (u % 2) (u / 4 % 8) (1 + u / 32 % 4)))), (19, .int (kI (σ 14 1))), (20, .int (kI (σ 14 2)))]) (kk : ∀ (σ1 : Mem) (H1 : Heap) (locs1 : List Loc) (ls1 : Array Slot), Wd D T z 133 σ1 s H1 locs1 → GI (n + 1) σ1 → lv_has ls1 23 [(3, .int (kI i)), (2, .int (kI 1)), (1, .ref (z + 0)), (0, .ref b), (8, .int (kI (u % 2)))] → W p l e room_1 s m #[Value.ref b] below meth c H1 locs1 (k0 + 20) (n0 + 120) Q (F0 m 882 ls1 [])) : W p l e room_1 s m #[Value.ref b] below meth c H locs k0 n0 Q (F0 m 276 ls []) := by
  have hC : ∀ {a b : Nat}, a ≤ 600130 → b ≤ 7301079 → a ≤ room_1.cells ∧ b ≤ room_1.slots := fun h1 h2 => ⟨h1, h2⟩
  have hk4 : 0 ≤ u % 2 ∧ u % 2 < 4 := by omega
  have hx16 : 0 ≤ u / 4 % 8 ∧ u / 4 % 8 < 16 := by omega
  have hxw : 0 ≤ u / 4 % 16 ∧ u / 4 % 16 < 16 := by omega
  have hu0 : 0 ≤ u ∧ u ≤ 134217727 := by omega
  have hz := hG.z
  have hd := hG.i.ic.1
  have hday := hG.i.2.1
  have har := atr_rg (σ := σ) (k := u % 2)
  have hkr := kor_rg (σ := σ) (k := u % 2) (n := 2) (by decide)
  have hac := hG.i.ac hk4
  unfold ACk at hac
  have hky := hG.i.rg hk4 hx16
  have hpk := pok_c (σ := σ) (k := u % 2) (y := u / 4 % 8)
  have hjr := jud_rg (σ := σ) (k := u % 2) (y := u / 4 % 8) (q := 1 + u / 32 % 4)
  have hse := hG.s.2
  have hsea := hG.i.ic.2.1 (u % 2) hk4.1 hk4.2
  refine lv_aload_n hx hb dL_law_276 rfl (lv_at hl 1 rfl) ?_
  refine lv_iload hx hb dL_law_277 (lv_at hl 4 rfl) ?_
  refine r_callK (na := 2) (own := RL) ⟨hx, hb, hml, hown, hts⟩ hT G hv (k_L_acts_ask l hst0 hG (by omega) hy hu (by omega) ) (cSx hts qM_L_167 qS_L_acts qN_L qC_L_acts (by decide +kernel) ⟨Nat.le_of_ble_eq_true rfl, Nat.le_of_ble_eq_true rfl⟩) rfl rfl hl.1 rfl (Nat.le_of_ble_eq_true rfl) dL_law_279 (hC (by omega) (by omega)) (fun H locs G => ?_)
  obtain ⟨τ, hτ⟩ : ∃ τ, τ = svr (pus σ) (u % 2) := ⟨_, rfl⟩
  rw [← hτ] at G
  refine r_name (fun to hto => ?_)
  have hA := ag_n hG (by omega) hk4 hga
  rw [← hτ] at hA
  obtain ⟨a0, aG, a15, a12⟩ := hA
  rw [a0] at hto
  refine lv_istore (lv' := [(21, .int (kI to)), (0, .ref b), (1, .ref (z + 0)), (2, .int (kI 1)), (3, .int (kI i)), (4, .int (kI y)), (5, .int (kI u)), (6, .int (kI w)), (7, .int (kI (σ 15 1))), (8, .int (kI (u % 2))), (9, .int (kI (u / 4 % 8))), (10, .int (kI (σ 2 0))), (11, .int (kI (atr σ (u % 2)))), (12, .int (kI (kor σ (u % 2) 2))), (13, .int (kI (σ 9 (u % 2)))), (14, .int (kI (σ 12 (u % 2)))), (15, .int (kI (σ 4 (u % 2 * 16 + u / 4 % 8)))), (16, .int (kI (σ 5 (u % 2 * 16 + u / 4 % 8)))), (17, .int (kI (pok σ (u % 2) (u / 4 % 8) 3))), (18, .int (kI (jud σ (u % 2) (u / 4 % 8) (1 + u / 32 % 4)))), (19, .int (kI (σ 14 1))), (20, .int (kI (σ 14 2)))]) hx hb dL_law_282 hl (by decide) rfl (fun ls hl => ?_)
  refine lv_iload hx hb dL_law_284 (lv_at hl 0 rfl) ?_
  refine r_ldc (n := -2000000) hx hb hts hown qCon_L_170 (by decide) dL_law_286 ?_
  refine r_icmp_le (tgt := 295) hx hb ⟨by omega, by omega⟩ ⟨by decide, by decide⟩ dL_law_288 (by decide) (fun h_1 => absurd h_1 (by omega)) (fun h_1 => ?_)
  refine r_iconst hx hb dL_law_291 ?_
  refine lv_goto (tgt := 296) hx hb dL_law_292 (by decide) ?_
  refine lv_istore (lv' := [(22, .int (kI 1)), (21, .int (kI to)), (0, .ref b), (1, .ref (z + 0)), (2, .int (kI 1)), (3, .int (kI i)), (4, .int (kI y)), (5, .int (kI u)), (6, .int (kI w)), (7, .int (kI (σ 15 1))), (8, .int (kI (u % 2))), (9, .int (kI (u / 4 % 8))), (10, .int (kI (σ 2 0))), (11, .int (kI (atr σ (u % 2)))), (12, .int (kI (kor σ (u % 2) 2))), (13, .int (kI (σ 9 (u % 2)))), (14, .int (kI (σ 12 (u % 2)))), (15, .int (kI (σ 4 (u % 2 * 16 + u / 4 % 8)))), (16, .int (kI (σ 5 (u % 2 * 16 + u / 4 % 8)))), (17, .int (kI (pok σ (u % 2) (u / 4 % 8) 3))), (18, .int (kI (jud σ (u % 2) (u / 4 % 8) (1 + u / 32 % 4)))), (19, .int (kI (σ 14 1))), (20, .int (kI (σ 14 2)))]) hx hb dL_law_296 hl (by decide) rfl (fun ls hl => ?_)
  refine lv_aload_n hx hb dL_law_298 rfl (lv_at hl 3 rfl) ?_
  refine r_bipush hx hb dL_law_299 (by decide +kernel) ?_
  refine r_callW (na := 2) (own := RL) ⟨hx, hb, hml, hown, hts⟩ G hv (k_L_count_y l hst0 (σ := τ) (w := 9) ⟨by omega, by omega⟩ (aG.s) (by omega)) qC_L_count qM_L_138 qS_L_count qN_L (by decide +kernel) ⟨Nat.le_of_ble_eq_true rfl, Nat.le_of_ble_eq_true rfl⟩ rfl rfl hl.1 rfl (Nat.le_of_ble_eq_true rfl) dL_law_301 (hC (by omega) (by omega)) (fun H locs G => ?_)
  refine r_top (b := τ 15 1) (rfl) ?_
  refine lv_iload hx hb dL_law_304 (lv_at hl 0 rfl) ?_
  refine r_if_eq (tgt := 330) hx hb ⟨by decide, by decide⟩ dL_law_306 (by decide) (fun h_2 => absurd h_2 (by decide)) (fun _ => ?_)
  refine lv_iload hx hb dL_law_309 (lv_at hl 8 rfl) ?_
  refine r_iconst hx hb dL_law_311 ?_
  refine r_icmp_ne (tgt := 323) hx hb ⟨by omega, by omega⟩ ⟨by decide, by decide⟩ dL_law_312 (by decide) (fun h_3 => ?_) (fun h_3 => absurd h_3 (by omega))
  have jn342 : ∀ (_ : Unit), ∀ (H : Heap) (locs : List Loc) (k1 n1 : Nat), (k1 : Int) ≤ k0 + 4 → (n1 : Int) ≤ n0 + 24 → Wd D T z 133 τ s H locs → ∀ (ls : Array Slot), lv_has ls 23 [(22, .int (kI 1)), (21, .int (kI to)), (0, .ref b), (1, .ref (z + 0)), (2, .int (kI 1)), (3, .int (kI i)), (4, .int (kI y)), (5, .int (kI u)), (6, .int (kI w)), (7, .int (kI (σ 15 1))), (8, .int (kI (u % 2))), (9, .int (kI (u / 4 % 8))), (10, .int (kI (σ 2 0))), (11, .int (kI (atr σ (u % 2)))), (12, .int (kI (kor σ (u % 2) 2))), (13, .int (kI (σ 9 (u % 2)))), (14, .int (kI (σ 12 (u % 2)))), (15, .int (kI (σ 4 (u % 2 * 16 + u / 4 % 8)))), (16, .int (kI (σ 5 (u % 2 * 16 + u / 4 % 8)))), (17, .int (kI (pok σ (u % 2) (u / 4 % 8) 3))), (18, .int (kI (jud σ (u % 2) (u / 4 % 8) (1 + u / 32 % 4)))), (19, .int (kI (σ 14 1))), (20, .int (kI (σ 14 2)))] → W p l e room_1 s m #[Value.ref b] below meth c H locs k1 n1 Q (F0 m 342 ls []) := by
    intro _  H locs k1 n1 hk1 hn1 G ls hl
    refine r_iconst hx hb dL_law_342 ?_
    refine lv_goto (tgt := 347) hx hb dL_law_343 (by decide) ?_
    refine lv_istore_n (lv' := [(2, .int (kI 1)), (22, .int (kI 1)), (21, .int (kI to)), (0, .ref b), (1, .ref (z + 0)), (3, .int (kI i)), (4, .int (kI y)), (5, .int (kI u)), (6, .int (kI w)), (7, .int (kI (σ 15 1))), (8, .int (kI (u % 2))), (9, .int (kI (u / 4 % 8))), (10, .int (kI (σ 2 0))), (11, .int (kI (atr σ (u % 2)))), (12, .int (kI (kor σ (u % 2) 2))), (13, .int (kI (σ 9 (u % 2)))), (14, .int (kI (σ 12 (u % 2)))), (15, .int (kI (σ 4 (u % 2 * 16 + u / 4 % 8)))), (16, .int (kI (σ 5 (u % 2 * 16 + u / 4 % 8)))), (17, .int (kI (pok σ (u % 2) (u / 4 % 8) 3))), (18, .int (kI (jud σ (u % 2) (u / 4 % 8) (1 + u / 32 % 4)))), (19, .int (kI (σ 14 1))), (20, .int (kI (σ 14 2)))]) hx hb dL_law_347 rfl hl (by decide) rfl (fun ls hl => ?_)
    refine lv_iload_n hx hb dL_law_348 rfl (lv_at hl 0 rfl) ?_
    refine r_if_eq (tgt := 464) hx hb ⟨by decide, by decide⟩ dL_law_349 (by decide) (fun h_4 => absurd h_4 (by decide)) (fun _ => ?_)
    refine lv_iload hx hb dL_law_352 (lv_at hl 8 rfl) ?_
    refine r_bipush hx hb dL_law_354 (by decide +kernel) ?_
    refine r_icmp_le (tgt := 464) hx hb ⟨by omega, by omega⟩ ⟨by decide, by decide⟩ dL_law_356 (by decide) (fun h_5 => absurd h_5 (by omega)) (fun h_5 => ?_)
    refine lv_iload hx hb dL_law_359 (lv_at hl 2 rfl) ?_
    refine lv_iload hx hb dL_law_361 (lv_at hl 13 rfl) ?_
    refine r_icmp_ne (tgt := 459) hx hb ⟨by omega, by omega⟩ ⟨by omega, by omega⟩ dL_law_363 (by decide) (fun h_6 => absurd h_6 (by omega)) (fun h_6 => ?_)
    refine lv_iload hx hb dL_law_366 (lv_at hl 13 rfl) ?_
    refine r_bipush hx hb dL_law_368 (by decide +kernel) ?_
    refine r_icmp_ge (tgt := 440) hx hb ⟨by omega, by omega⟩ ⟨by decide, by decide⟩ dL_law_370 (by decide) (fun h_7 => ?_) (fun h_7 => absurd h_7 (by omega))
    refine lv_aload_n hx hb dL_law_440 rfl (lv_at hl 4 rfl) ?_
    refine lv_iload hx hb dL_law_441 (lv_at hl 10 rfl) ?_
    refine r_bipush hx hb dL_law_443 (by decide +kernel) ?_
    refine r_callW (na := 3) (own := RL) ⟨hx, hb, hml, hown, hts⟩ G hv (k_L_kindOf_y l hst0 (σ := τ) (k := u % 2) (w := 8) ⟨by omega, by omega⟩ ⟨by omega, by omega⟩ (aG.s) ⟨by omega, by omega⟩ (by omega)) qC_L_kindOf qM_L_122 qS_L_kindOf qN_L (by decide +kernel) ⟨Nat.le_of_ble_eq_true rfl, Nat.le_of_ble_eq_true rfl⟩ rfl rfl hl.1 rfl (Nat.le_of_ble_eq_true rfl) dL_law_445 (hC (by omega) (by omega)) (fun H locs G => ?_)
    refine r_top (b := τ 12 (u % 2)) (rfl) ?_
    refine lv_iload hx hb dL_law_448 (lv_at hl 16 rfl) ?_
    refine r_iconst hx hb dL_law_450 ?_
    refine r_iadd hx hb dL_law_451 ?_
    refine r_icmp_ne (tgt := 459) hx hb ⟨by omega, by omega⟩ ⟨by omega, by omega⟩ dL_law_452 (by decide) (fun h_8 => absurd h_8 (by omega)) (fun h_8 => ?_)
    refine r_iconst hx hb dL_law_455 ?_
    refine lv_goto (tgt := 460) hx hb dL_law_456 (by decide) ?_
    refine lv_istore_n (lv' := [(2, .int (kI 1)), (22, .int (kI 1)), (21, .int (kI to)), (0, .ref b), (1, .ref (z + 0)), (3, .int (kI i)), (4, .int (kI y)), (5, .int (kI u)), (6, .int (kI w)), (7, .int (kI (σ 15 1))), (8, .int (kI (u % 2))), (9, .int (kI (u / 4 % 8))), (10, .int (kI (σ 2 0))), (11, .int (kI (atr σ (u % 2)))), (12, .int (kI (kor σ (u % 2) 2))), (13, .int (kI (σ 9 (u % 2)))), (14, .int (kI (σ 12 (u % 2)))), (15, .int (kI (σ 4 (u % 2 * 16 + u / 4 % 8)))), (16, .int (kI (σ 5 (u % 2 * 16 + u / 4 % 8)))), (17, .int (kI (pok σ (u % 2) (u / 4 % 8) 3))), (18, .int (kI (jud σ (u % 2) (u / 4 % 8) (1 + u / 32 % 4)))), (19, .int (kI (σ 14 1))), (20, .int (kI (σ 14 2)))]) hx hb dL_law_460 rfl hl (by decide) rfl (fun ls hl => ?_)
    refine lv_goto (tgt := 882) hx hb dL_law_461 (by decide) ?_
    exact W.widen (k := k0 + 20) (n := n0 + 120) (by omega) (by omega) (kk τ _ _ _ G aG (lv_sub hl [5, 0, 4, 3, 10] rfl))
  refine lv_iload hx hb dL_law_323 (lv_at hl 9 rfl) ?_
  refine r_bipush hx hb dL_law_325 (by decide +kernel) ?_
  refine r_icmp_ne (tgt := 335) hx hb ⟨by omega, by omega⟩ ⟨by decide, by decide⟩ dL_law_327 (by decide) (fun h_9 => ?_) (fun h_9 => ?_)
  · skip
    refine lv_iload hx hb dL_law_335 (lv_at hl 9 rfl) ?_
    refine r_iconst hx hb dL_law_337 ?_
    refine r_iadd hx hb dL_law_338 ?_
    refine r_icmp_ne (tgt := 346) hx hb ⟨by omega, by omega⟩ ⟨by omega, by omega⟩ dL_law_339 (by decide) (fun h_10 => absurd h_10 (by omega)) (fun h_10 => ?_)
    exact jn342 ()  _ _ _ _ (by omega) (by omega) G _ (lv_sub hl [0, 1, 2, 3, 4, 5, 6, 7, 8, 9, 10, 11, 12, 13, 14, 15, 16, 17, 18, 19, 20, 21, 22] rfl)
  · skip
    refine lv_iload hx hb dL_law_330 (lv_at hl 9 rfl) ?_
    refine lv_goto (tgt := 339) hx hb dL_law_332 (by decide) ?_
    refine r_icmp_ne (tgt := 346) hx hb ⟨by omega, by omega⟩ ⟨by omega, by omega⟩ dL_law_339 (by decide) (fun h_11 => absurd h_11 (by omega)) (fun h_11 => ?_)
    exact jn342 ()  _ _ _ _ (by omega) (by omega) G _ (lv_sub hl [0, 1, 2, 3, 4, 5, 6, 7, 8, 9, 10, 11, 12, 13, 14, 15, 16, 17, 18, 19, 20, 21, 22] rfl)
set_option maxRecDepth 100000 in
set_option maxHeartbeats 4000000 in
theorem lw_delw {p : Program} {e : Env} {s : State} {m : MethodId} {below : List Frame} {meth : Method} {c : Code} {H : Heap} {locs : List Loc} {ls : Array Slot} {D : va_G} {T : Nat → ClassId} {σ : Mem} {z b k0 n0 : Nat} {Q : State → Prop} {n i y u w : Int} (l : Launch) (hst0 : l.stackTraces = false) (hx : p.tables.exec = Jvm.exec) (hb : c.code = cL_law) (hml : c.maxLocals = 23) (hown : s.vm.findClass RL = some m.cls) (hts : ∀ w ∈ Gw, w.before #[Value.ref b] s = true) (hv : Xv s) (hT : hol T < z) (G : Wd D T z 133 σ s H locs) (hG : GI n σ) (hn : 0 ≤ n ∧ n ≤ 800) (hi : 0 ≤ i ∧ i ≤ 44) (hy : 0 ≤ y ∧ y ≤ 2147483647) (hu : u = y / 16) (hw : w = y % 16) (h1 : 8 ≤ w ∧ w ≤ 11) (hc : σ 4 (u % 2 * 16 + u / 4 % 8) = 1) (hwo : σ 14 1 ≤ σ 5 (u % 2 * 16 + u / 4 % 8)) (hc0 : k0 + 20 ≤ 600130 ∧ n0 + 120 ≤ 7301079) (hl : lv_has ls 23 [(0, .ref b), (1, .ref (z + 0)), (2, .int (kI 1)), (3, .int (kI i)), (4, .int (kI y)), (5, .int (kI u)), (6, .int (kI w)), (7, .int (kI (σ 15 1))), (8, .int (kI (u % 2))), (9, .int (kI (u / 4 % 8))), (10, .int (kI (σ 2 0))), (11, .int (kI (atr σ (u % 2)))), (12, .int (kI (kor σ (u % 2) 2))), (13, .int (kI (σ 9 (u % 2)))), (14, .int (kI (σ 12 (u % 2)))), (15, .int (kI (σ 4 (u % 2 * 16 + u / 4 % 8)))), (16, .int (kI (σ 5 (u % 2 * 16 + u / 4 % 8)))), (17, .int (kI (pok σ (u % 2) (u / 4 % 8) 3))), (18, .int (kI (jud σ (u % 2) (u / 4 % 8) (1 + u / 32 % 4)))), (19, .int (kI (σ 14 1))), (20, .int (kI (σ 14 2)))]) (kk : ∀ (σ1 : Mem) (H1 : Heap) (locs1 : List Loc) (ls1 : Array Slot), Wd D T z 133 σ1 s H1 locs1 → GI (n + 1) σ1 → lv_has ls1 23 [(3, .int (kI i)), (2, .int (kI 1)), (1, .ref (z + 0)), (0, .ref b), (8, .int (kI (u % 2)))] → W p l e room_1 s m #[Value.ref b] below meth c H1 locs1 (k0 + 20) (n0 + 120) Q (F0 m 882 ls1 [])) : W p l e room_1 s m #[Value.ref b] below meth c H locs k0 n0 Q (F0 m 276 ls []) := by
  have hC : ∀ {a b : Nat}, a ≤ 600130 → b ≤ 7301079 → a ≤ room_1.cells ∧ b ≤ room_1.slots := fun h1 h2 => ⟨h1, h2⟩
  have hk4 : 0 ≤ u % 2 ∧ u % 2 < 4 := by omega
  have hx16 : 0 ≤ u / 4 % 8 ∧ u / 4 % 8 < 16 := by omega
  have hxw : 0 ≤ u / 4 % 16 ∧ u / 4 % 16 < 16 := by omega
  have hu0 : 0 ≤ u ∧ u ≤ 134217727 := by omega
  have hz := hG.z
  have hd := hG.i.ic.1
  have hday := hG.i.2.1
  have har := atr_rg (σ := σ) (k := u % 2)
  have hkr := kor_rg (σ := σ) (k := u % 2) (n := 2) (by decide)
  have hac := hG.i.ac hk4
  unfold ACk at hac
  have hky := hG.i.rg hk4 hx16
  have hpk := pok_c (σ := σ) (k := u % 2) (y := u / 4 % 8)
  have hjr := jud_rg (σ := σ) (k := u % 2) (y := u / 4 % 8) (q := 1 + u / 32 % 4)
  have hse := hG.s.2
  have hsea := hG.i.ic.2.1 (u % 2) hk4.1 hk4.2
  refine lv_aload_n hx hb dL_law_276 rfl (lv_at hl 1 rfl) ?_
  refine lv_iload hx hb dL_law_277 (lv_at hl 4 rfl) ?_
  refine r_callK (na := 2) (own := RL) ⟨hx, hb, hml, hown, hts⟩ hT G hv (k_L_acts_dely l hst0 hG (by omega) hy hu (show 8 ≤ y % 16 ∧ y % 16 ≤ 11 by omega) hc) (cSx hts qM_L_167 qS_L_acts qN_L qC_L_acts (by decide +kernel) ⟨Nat.le_of_ble_eq_true rfl, Nat.le_of_ble_eq_true rfl⟩) rfl rfl hl.1 rfl (Nat.le_of_ble_eq_true rfl) dL_law_279 (hC (by omega) (by omega)) (fun H locs G => ?_)
  obtain ⟨τ, hτ⟩ : ∃ τ, τ = dlr (pus σ) (u % 2) (u / 4 % 8) := ⟨_, rfl⟩
  rw [← hτ] at G
  refine r_name (fun to hto => ?_)
  have hA := ad_y hG (by omega) hk4 hx16 hc
  rw [← hτ] at hA
  obtain ⟨aG, a15, a3⟩ := hA
  have a4 : to = 1 ∧ τ 4 (u % 2 * 16 + u / 4 % 8) = 3 := by rcases a3 with h | h; exact ⟨hto.trans h.2.1, h.2.2⟩; exact absurd h.1 (by omega)
  refine lv_istore (lv' := [(21, .int (kI to)), (0, .ref b), (1, .ref (z + 0)), (2, .int (kI 1)), (3, .int (kI i)), (4, .int (kI y)), (5, .int (kI u)), (6, .int (kI w)), (7, .int (kI (σ 15 1))), (8, .int (kI (u % 2))), (9, .int (kI (u / 4 % 8))), (10, .int (kI (σ 2 0))), (11, .int (kI (atr σ (u % 2)))), (12, .int (kI (kor σ (u % 2) 2))), (13, .int (kI (σ 9 (u % 2)))), (14, .int (kI (σ 12 (u % 2)))), (15, .int (kI (σ 4 (u % 2 * 16 + u / 4 % 8)))), (16, .int (kI (σ 5 (u % 2 * 16 + u / 4 % 8)))), (17, .int (kI (pok σ (u % 2) (u / 4 % 8) 3))), (18, .int (kI (jud σ (u % 2) (u / 4 % 8) (1 + u / 32 % 4)))), (19, .int (kI (σ 14 1))), (20, .int (kI (σ 14 2)))]) hx hb dL_law_282 hl (by decide) rfl (fun ls hl => ?_)
  refine lv_iload hx hb dL_law_284 (lv_at hl 0 rfl) ?_
  refine r_ldc (n := -2000000) hx hb hts hown qCon_L_170 (by decide) dL_law_286 ?_
  refine r_icmp_le (tgt := 295) hx hb ⟨by omega, by omega⟩ ⟨by decide, by decide⟩ dL_law_288 (by decide) (fun h_1 => absurd h_1 (by omega)) (fun h_1 => ?_)
  refine r_iconst hx hb dL_law_291 ?_
  refine lv_goto (tgt := 296) hx hb dL_law_292 (by decide) ?_
  refine lv_istore (lv' := [(22, .int (kI 1)), (21, .int (kI to)), (0, .ref b), (1, .ref (z + 0)), (2, .int (kI 1)), (3, .int (kI i)), (4, .int (kI y)), (5, .int (kI u)), (6, .int (kI w)), (7, .int (kI (σ 15 1))), (8, .int (kI (u % 2))), (9, .int (kI (u / 4 % 8))), (10, .int (kI (σ 2 0))), (11, .int (kI (atr σ (u % 2)))), (12, .int (kI (kor σ (u % 2) 2))), (13, .int (kI (σ 9 (u % 2)))), (14, .int (kI (σ 12 (u % 2)))), (15, .int (kI (σ 4 (u % 2 * 16 + u / 4 % 8)))), (16, .int (kI (σ 5 (u % 2 * 16 + u / 4 % 8)))), (17, .int (kI (pok σ (u % 2) (u / 4 % 8) 3))), (18, .int (kI (jud σ (u % 2) (u / 4 % 8) (1 + u / 32 % 4)))), (19, .int (kI (σ 14 1))), (20, .int (kI (σ 14 2)))]) hx hb dL_law_296 hl (by decide) rfl (fun ls hl => ?_)
  refine lv_aload_n hx hb dL_law_298 rfl (lv_at hl 3 rfl) ?_
  refine r_bipush hx hb dL_law_299 (by decide +kernel) ?_
  refine r_callW (na := 2) (own := RL) ⟨hx, hb, hml, hown, hts⟩ G hv (k_L_count_y l hst0 (σ := τ) (w := 9) ⟨by omega, by omega⟩ (aG.s) (by omega)) qC_L_count qM_L_138 qS_L_count qN_L (by decide +kernel) ⟨Nat.le_of_ble_eq_true rfl, Nat.le_of_ble_eq_true rfl⟩ rfl rfl hl.1 rfl (Nat.le_of_ble_eq_true rfl) dL_law_301 (hC (by omega) (by omega)) (fun H locs G => ?_)
  refine r_top (b := τ 15 1) (rfl) ?_
  refine lv_iload hx hb dL_law_304 (lv_at hl 0 rfl) ?_
  refine r_if_eq (tgt := 330) hx hb ⟨by decide, by decide⟩ dL_law_306 (by decide) (fun h_2 => absurd h_2 (by decide)) (fun _ => ?_)
  refine lv_iload hx hb dL_law_309 (lv_at hl 8 rfl) ?_
  refine r_iconst hx hb dL_law_311 ?_
  refine r_icmp_ne (tgt := 323) hx hb ⟨by omega, by omega⟩ ⟨by decide, by decide⟩ dL_law_312 (by decide) (fun h_3 => ?_) (fun h_3 => absurd h_3 (by omega))
  have jn342 : ∀ (_ : Unit), ∀ (H : Heap) (locs : List Loc) (k1 n1 : Nat), (k1 : Int) ≤ k0 + 4 → (n1 : Int) ≤ n0 + 24 → Wd D T z 133 τ s H locs → ∀ (ls : Array Slot), lv_has ls 23 [(22, .int (kI 1)), (21, .int (kI to)), (0, .ref b), (1, .ref (z + 0)), (2, .int (kI 1)), (3, .int (kI i)), (4, .int (kI y)), (5, .int (kI u)), (6, .int (kI w)), (7, .int (kI (σ 15 1))), (8, .int (kI (u % 2))), (9, .int (kI (u / 4 % 8))), (10, .int (kI (σ 2 0))), (11, .int (kI (atr σ (u % 2)))), (12, .int (kI (kor σ (u % 2) 2))), (13, .int (kI (σ 9 (u % 2)))), (14, .int (kI (σ 12 (u % 2)))), (15, .int (kI (σ 4 (u % 2 * 16 + u / 4 % 8)))), (16, .int (kI (σ 5 (u % 2 * 16 + u / 4 % 8)))), (17, .int (kI (pok σ (u % 2) (u / 4 % 8) 3))), (18, .int (kI (jud σ (u % 2) (u / 4 % 8) (1 + u / 32 % 4)))), (19, .int (kI (σ 14 1))), (20, .int (kI (σ 14 2)))] → W p l e room_1 s m #[Value.ref b] below meth c H locs k1 n1 Q (F0 m 342 ls []) := by
    intro _  H locs k1 n1 hk1 hn1 G ls hl
    refine r_iconst hx hb dL_law_342 ?_
    refine lv_goto (tgt := 347) hx hb dL_law_343 (by decide) ?_
    refine lv_istore_n (lv' := [(2, .int (kI 1)), (22, .int (kI 1)), (21, .int (kI to)), (0, .ref b), (1, .ref (z + 0)), (3, .int (kI i)), (4, .int (kI y)), (5, .int (kI u)), (6, .int (kI w)), (7, .int (kI (σ 15 1))), (8, .int (kI (u % 2))), (9, .int (kI (u / 4 % 8))), (10, .int (kI (σ 2 0))), (11, .int (kI (atr σ (u % 2)))), (12, .int (kI (kor σ (u % 2) 2))), (13, .int (kI (σ 9 (u % 2)))), (14, .int (kI (σ 12 (u % 2)))), (15, .int (kI (σ 4 (u % 2 * 16 + u / 4 % 8)))), (16, .int (kI (σ 5 (u % 2 * 16 + u / 4 % 8)))), (17, .int (kI (pok σ (u % 2) (u / 4 % 8) 3))), (18, .int (kI (jud σ (u % 2) (u / 4 % 8) (1 + u / 32 % 4)))), (19, .int (kI (σ 14 1))), (20, .int (kI (σ 14 2)))]) hx hb dL_law_347 rfl hl (by decide) rfl (fun ls hl => ?_)
    refine lv_iload_n hx hb dL_law_348 rfl (lv_at hl 0 rfl) ?_
    refine r_if_eq (tgt := 464) hx hb ⟨by decide, by decide⟩ dL_law_349 (by decide) (fun h_4 => absurd h_4 (by decide)) (fun _ => ?_)
    refine lv_iload hx hb dL_law_352 (lv_at hl 8 rfl) ?_
    refine r_bipush hx hb dL_law_354 (by decide +kernel) ?_
    refine r_icmp_le (tgt := 464) hx hb ⟨by omega, by omega⟩ ⟨by decide, by decide⟩ dL_law_356 (by decide) (fun h_5 => ?_) (fun h_5 => absurd h_5 (by omega))
    refine lv_iload_n hx hb dL_law_464 rfl (lv_at hl 0 rfl) ?_
    refine r_if_eq (tgt := 575) hx hb ⟨by decide, by decide⟩ dL_law_465 (by decide) (fun h_6 => absurd h_6 (by decide)) (fun _ => ?_)
    refine lv_iload hx hb dL_law_468 (lv_at hl 8 rfl) ?_
    refine r_bipush hx hb dL_law_470 (by decide +kernel) ?_
    refine r_icmp_le (tgt := 575) hx hb ⟨by omega, by omega⟩ ⟨by decide, by decide⟩ dL_law_472 (by decide) (fun h_7 => absurd h_7 (by omega)) (fun h_7 => ?_)
    refine lv_iload hx hb dL_law_475 (lv_at hl 17 rfl) ?_
    refine r_iconst hx hb dL_law_477 ?_
    refine r_icmp_eq (tgt := 496) hx hb ⟨by omega, by omega⟩ ⟨by decide, by decide⟩ dL_law_478 (by decide) (fun h_8 => ?_) (fun h_8 => absurd h_8 (by omega))
    refine lv_iload hx hb dL_law_496 (lv_at hl 2 rfl) ?_
    refine lv_iload hx hb dL_law_498 (lv_at hl 18 rfl) ?_
    refine lv_iload hx hb dL_law_500 (lv_at hl 21 rfl) ?_
    refine r_icmp_lt (tgt := 509) hx hb ⟨by omega, by omega⟩ ⟨by omega, by omega⟩ dL_law_502 (by decide) (fun h_9 => absurd h_9 (by omega)) (fun h_9 => ?_)
    refine r_iconst hx hb dL_law_505 ?_
    refine lv_goto (tgt := 510) hx hb dL_law_506 (by decide) ?_
    refine r_icmp_ne (tgt := 570) hx hb ⟨by omega, by omega⟩ ⟨by decide, by decide⟩ dL_law_510 (by decide) (fun h_10 => absurd h_10 (by omega)) (fun h_10 => ?_)
    refine lv_aload_n hx hb dL_law_513 rfl (lv_at hl 4 rfl) ?_
    refine lv_iload hx hb dL_law_514 (lv_at hl 10 rfl) ?_
    refine lv_iload hx hb dL_law_516 (lv_at hl 11 rfl) ?_
    refine r_iconst hx hb dL_law_518 ?_
    refine r_callW (na := 4) (own := RL) ⟨hx, hb, hml, hown, hts⟩ G hv (k_L_keyOf_y l hst0 (σ := τ) (k := u % 2) (y := u / 4 % 8) (w := 0) ⟨by omega, by omega⟩ ⟨by omega, by omega⟩ ⟨by omega, by omega⟩ (aG.s) ⟨⟨by omega, by omega⟩, by omega, by omega⟩ (by omega)) qC_L_keyOf qM_L_124 qS_L_keyOf qN_L (by decide +kernel) ⟨Nat.le_of_ble_eq_true rfl, Nat.le_of_ble_eq_true rfl⟩ rfl rfl hl.1 rfl (Nat.le_of_ble_eq_true rfl) dL_law_519 (hC (by omega) (by omega)) (fun H locs G => ?_)
    refine r_top (b := τ 4 (u % 2 * 16 + u / 4 % 8)) (pok_0) ?_
    refine lv_iload hx hb dL_law_522 (lv_at hl 2 rfl) ?_
    refine r_iconst hx hb dL_law_524 ?_
    refine r_icmp_ne (tgt := 532) hx hb ⟨by omega, by omega⟩ ⟨by decide, by decide⟩ dL_law_525 (by decide) (fun h_11 => absurd h_11 (by omega)) (fun h_11 => ?_)
    refine r_iconst hx hb dL_law_528 ?_
    refine lv_goto (tgt := 533) hx hb dL_law_529 (by decide) ?_
    refine r_icmp_ne (tgt := 570) hx hb ⟨by omega, by omega⟩ ⟨by decide, by decide⟩ dL_law_533 (by decide) (fun h_12 => absurd h_12 (by omega)) (fun h_12 => ?_)
    refine lv_iload hx hb dL_law_536 (lv_at hl 2 rfl) ?_
    refine r_iconst hx hb dL_law_538 ?_
    refine r_icmp_eq (tgt := 566) hx hb ⟨by omega, by omega⟩ ⟨by decide, by decide⟩ dL_law_539 (by decide) (fun h_13 => ?_) (fun h_13 => absurd h_13 (by omega))
    refine r_iconst hx hb dL_law_566 ?_
    refine lv_goto (tgt := 571) hx hb dL_law_567 (by decide) ?_
    refine lv_istore_n (lv' := [(2, .int (kI 1)), (22, .int (kI 1)), (21, .int (kI to)), (0, .ref b), (1, .ref (z + 0)), (3, .int (kI i)), (4, .int (kI y)), (5, .int (kI u)), (6, .int (kI w)), (7, .int (kI (σ 15 1))), (8, .int (kI (u % 2))), (9, .int (kI (u / 4 % 8))), (10, .int (kI (σ 2 0))), (11, .int (kI (atr σ (u % 2)))), (12, .int (kI (kor σ (u % 2) 2))), (13, .int (kI (σ 9 (u % 2)))), (14, .int (kI (σ 12 (u % 2)))), (15, .int (kI (σ 4 (u % 2 * 16 + u / 4 % 8)))), (16, .int (kI (σ 5 (u % 2 * 16 + u / 4 % 8)))), (17, .int (kI (pok σ (u % 2) (u / 4 % 8) 3))), (18, .int (kI (jud σ (u % 2) (u / 4 % 8) (1 + u / 32 % 4)))), (19, .int (kI (σ 14 1))), (20, .int (kI (σ 14 2)))]) hx hb dL_law_571 rfl hl (by decide) rfl (fun ls hl => ?_)
    refine lv_goto (tgt := 882) hx hb dL_law_572 (by decide) ?_
    exact W.widen (k := k0 + 20) (n := n0 + 120) (by omega) (by omega) (kk τ _ _ _ G aG (lv_sub hl [5, 0, 4, 3, 10] rfl))
  refine lv_iload hx hb dL_law_323 (lv_at hl 9 rfl) ?_
  refine r_bipush hx hb dL_law_325 (by decide +kernel) ?_
  refine r_icmp_ne (tgt := 335) hx hb ⟨by omega, by omega⟩ ⟨by decide, by decide⟩ dL_law_327 (by decide) (fun h_14 => ?_) (fun h_14 => ?_)
  · skip
    refine lv_iload hx hb dL_law_335 (lv_at hl 9 rfl) ?_
    refine r_iconst hx hb dL_law_337 ?_
    refine r_iadd hx hb dL_law_338 ?_
    refine r_icmp_ne (tgt := 346) hx hb ⟨by omega, by omega⟩ ⟨by omega, by omega⟩ dL_law_339 (by decide) (fun h_15 => absurd h_15 (by omega)) (fun h_15 => ?_)
    exact jn342 ()  _ _ _ _ (by omega) (by omega) G _ (lv_sub hl [0, 1, 2, 3, 4, 5, 6, 7, 8, 9, 10, 11, 12, 13, 14, 15, 16, 17, 18, 19, 20, 21, 22] rfl)
  · skip
    refine lv_iload hx hb dL_law_330 (lv_at hl 9 rfl) ?_
    refine lv_goto (tgt := 339) hx hb dL_law_332 (by decide) ?_
    refine r_icmp_ne (tgt := 346) hx hb ⟨by omega, by omega⟩ ⟨by omega, by omega⟩ dL_law_339 (by decide) (fun h_16 => absurd h_16 (by omega)) (fun h_16 => ?_)
    exact jn342 ()  _ _ _ _ (by omega) (by omega) G _ (lv_sub hl [0, 1, 2, 3, 4, 5, 6, 7, 8, 9, 10, 11, 12, 13, 14, 15, 16, 17, 18, 19, 20, 21, 22] rfl)
set_option maxRecDepth 100000 in
set_option maxHeartbeats 4000000 in
theorem lw_deln {p : Program} {e : Env} {s : State} {m : MethodId} {below : List Frame} {meth : Method} {c : Code} {H : Heap} {locs : List Loc} {ls : Array Slot} {D : va_G} {T : Nat → ClassId} {σ : Mem} {z b k0 n0 : Nat} {Q : State → Prop} {n i y u w : Int} (l : Launch) (hst0 : l.stackTraces = false) (hx : p.tables.exec = Jvm.exec) (hb : c.code = cL_law) (hml : c.maxLocals = 23) (hown : s.vm.findClass RL = some m.cls) (hts : ∀ w ∈ Gw, w.before #[Value.ref b] s = true) (hv : Xv s) (hT : hol T < z) (G : Wd D T z 133 σ s H locs) (hG : GI n σ) (hn : 0 ≤ n ∧ n ≤ 800) (hi : 0 ≤ i ∧ i ≤ 44) (hy : 0 ≤ y ∧ y ≤ 2147483647) (hu : u = y / 16) (hw : w = y % 16) (h1 : 8 ≤ w ∧ w ≤ 11) (hc : σ 4 (u % 2 * 16 + u / 4 % 8) = 1) (hwo : ¬ σ 14 1 ≤ σ 5 (u % 2 * 16 + u / 4 % 8)) (hc0 : k0 + 20 ≤ 600130 ∧ n0 + 120 ≤ 7301079) (hl : lv_has ls 23 [(0, .ref b), (1, .ref (z + 0)), (2, .int (kI 1)), (3, .int (kI i)), (4, .int (kI y)), (5, .int (kI u)), (6, .int (kI w)), (7, .int (kI (σ 15 1))), (8, .int (kI (u % 2))), (9, .int (kI (u / 4 % 8))), (10, .int (kI (σ 2 0))), (11, .int (kI (atr σ (u % 2)))), (12, .int (kI (kor σ (u % 2) 2))), (13, .int (kI (σ 9 (u % 2)))), (14, .int (kI (σ 12 (u % 2)))), (15, .int (kI (σ 4 (u % 2 * 16 + u / 4 % 8)))), (16, .int (kI (σ 5 (u % 2 * 16 + u / 4 % 8)))), (17, .int (kI (pok σ (u % 2) (u / 4 % 8) 3))), (18, .int (kI (jud σ (u % 2) (u / 4 % 8) (1 + u / 32 % 4)))), (19, .int (kI (σ 14 1))), (20, .int (kI (σ 14 2)))]) (kk : ∀ (σ1 : Mem) (H1 : Heap) (locs1 : List Loc) (ls1 : Array Slot), Wd D T z 133 σ1 s H1 locs1 → GI (n + 1) σ1 → lv_has ls1 23 [(3, .int (kI i)), (2, .int (kI 1)), (1, .ref (z + 0)), (0, .ref b), (8, .int (kI (u % 2)))] → W p l e room_1 s m #[Value.ref b] below meth c H1 locs1 (k0 + 20) (n0 + 120) Q (F0 m 882 ls1 [])) : W p l e room_1 s m #[Value.ref b] below meth c H locs k0 n0 Q (F0 m 276 ls []) := by
  have hC : ∀ {a b : Nat}, a ≤ 600130 → b ≤ 7301079 → a ≤ room_1.cells ∧ b ≤ room_1.slots := fun h1 h2 => ⟨h1, h2⟩
  have hk4 : 0 ≤ u % 2 ∧ u % 2 < 4 := by omega
  have hx16 : 0 ≤ u / 4 % 8 ∧ u / 4 % 8 < 16 := by omega
  have hxw : 0 ≤ u / 4 % 16 ∧ u / 4 % 16 < 16 := by omega
  have hu0 : 0 ≤ u ∧ u ≤ 134217727 := by omega
  have hz := hG.z
  have hd := hG.i.ic.1
  have hday := hG.i.2.1
  have har := atr_rg (σ := σ) (k := u % 2)
  have hkr := kor_rg (σ := σ) (k := u % 2) (n := 2) (by decide)
  have hac := hG.i.ac hk4
  unfold ACk at hac
  have hky := hG.i.rg hk4 hx16
  have hpk := pok_c (σ := σ) (k := u % 2) (y := u / 4 % 8)
  have hjr := jud_rg (σ := σ) (k := u % 2) (y := u / 4 % 8) (q := 1 + u / 32 % 4)
  have hse := hG.s.2
  have hsea := hG.i.ic.2.1 (u % 2) hk4.1 hk4.2
  refine lv_aload_n hx hb dL_law_276 rfl (lv_at hl 1 rfl) ?_
  refine lv_iload hx hb dL_law_277 (lv_at hl 4 rfl) ?_
  refine r_callK (na := 2) (own := RL) ⟨hx, hb, hml, hown, hts⟩ hT G hv (k_L_acts_dely l hst0 hG (by omega) hy hu (show 8 ≤ y % 16 ∧ y % 16 ≤ 11 by omega) hc) (cSx hts qM_L_167 qS_L_acts qN_L qC_L_acts (by decide +kernel) ⟨Nat.le_of_ble_eq_true rfl, Nat.le_of_ble_eq_true rfl⟩) rfl rfl hl.1 rfl (Nat.le_of_ble_eq_true rfl) dL_law_279 (hC (by omega) (by omega)) (fun H locs G => ?_)
  obtain ⟨τ, hτ⟩ : ∃ τ, τ = dlr (pus σ) (u % 2) (u / 4 % 8) := ⟨_, rfl⟩
  rw [← hτ] at G
  refine r_name (fun to hto => ?_)
  have hA := ad_y hG (by omega) hk4 hx16 hc
  rw [← hτ] at hA
  obtain ⟨aG, a15, a3⟩ := hA
  have a4 : to = 0 ∧ τ 4 (u % 2 * 16 + u / 4 % 8) = 2 ∧ kat τ (u % 2) 0 = u / 4 % 8 ∧ pok τ (u % 2) (u / 4 % 8) 3 = 0 := by rcases a3 with h | h; exact absurd h.1 (by omega); exact ⟨hto.trans h.2.1, h.2.2⟩
  refine lv_istore (lv' := [(21, .int (kI to)), (0, .ref b), (1, .ref (z + 0)), (2, .int (kI 1)), (3, .int (kI i)), (4, .int (kI y)), (5, .int (kI u)), (6, .int (kI w)), (7, .int (kI (σ 15 1))), (8, .int (kI (u % 2))), (9, .int (kI (u / 4 % 8))), (10, .int (kI (σ 2 0))), (11, .int (kI (atr σ (u % 2)))), (12, .int (kI (kor σ (u % 2) 2))), (13, .int (kI (σ 9 (u % 2)))), (14, .int (kI (σ 12 (u % 2)))), (15, .int (kI (σ 4 (u % 2 * 16 + u / 4 % 8)))), (16, .int (kI (σ 5 (u % 2 * 16 + u / 4 % 8)))), (17, .int (kI (pok σ (u % 2) (u / 4 % 8) 3))), (18, .int (kI (jud σ (u % 2) (u / 4 % 8) (1 + u / 32 % 4)))), (19, .int (kI (σ 14 1))), (20, .int (kI (σ 14 2)))]) hx hb dL_law_282 hl (by decide) rfl (fun ls hl => ?_)
  refine lv_iload hx hb dL_law_284 (lv_at hl 0 rfl) ?_
  refine r_ldc (n := -2000000) hx hb hts hown qCon_L_170 (by decide) dL_law_286 ?_
  refine r_icmp_le (tgt := 295) hx hb ⟨by omega, by omega⟩ ⟨by decide, by decide⟩ dL_law_288 (by decide) (fun h_1 => absurd h_1 (by omega)) (fun h_1 => ?_)
  refine r_iconst hx hb dL_law_291 ?_
  refine lv_goto (tgt := 296) hx hb dL_law_292 (by decide) ?_
  refine lv_istore (lv' := [(22, .int (kI 1)), (21, .int (kI to)), (0, .ref b), (1, .ref (z + 0)), (2, .int (kI 1)), (3, .int (kI i)), (4, .int (kI y)), (5, .int (kI u)), (6, .int (kI w)), (7, .int (kI (σ 15 1))), (8, .int (kI (u % 2))), (9, .int (kI (u / 4 % 8))), (10, .int (kI (σ 2 0))), (11, .int (kI (atr σ (u % 2)))), (12, .int (kI (kor σ (u % 2) 2))), (13, .int (kI (σ 9 (u % 2)))), (14, .int (kI (σ 12 (u % 2)))), (15, .int (kI (σ 4 (u % 2 * 16 + u / 4 % 8)))), (16, .int (kI (σ 5 (u % 2 * 16 + u / 4 % 8)))), (17, .int (kI (pok σ (u % 2) (u / 4 % 8) 3))), (18, .int (kI (jud σ (u % 2) (u / 4 % 8) (1 + u / 32 % 4)))), (19, .int (kI (σ 14 1))), (20, .int (kI (σ 14 2)))]) hx hb dL_law_296 hl (by decide) rfl (fun ls hl => ?_)
  refine lv_aload_n hx hb dL_law_298 rfl (lv_at hl 3 rfl) ?_
  refine r_bipush hx hb dL_law_299 (by decide +kernel) ?_
  refine r_callW (na := 2) (own := RL) ⟨hx, hb, hml, hown, hts⟩ G hv (k_L_count_y l hst0 (σ := τ) (w := 9) ⟨by omega, by omega⟩ (aG.s) (by omega)) qC_L_count qM_L_138 qS_L_count qN_L (by decide +kernel) ⟨Nat.le_of_ble_eq_true rfl, Nat.le_of_ble_eq_true rfl⟩ rfl rfl hl.1 rfl (Nat.le_of_ble_eq_true rfl) dL_law_301 (hC (by omega) (by omega)) (fun H locs G => ?_)
  refine r_top (b := τ 15 1) (rfl) ?_
  refine lv_iload hx hb dL_law_304 (lv_at hl 0 rfl) ?_
  refine r_if_eq (tgt := 330) hx hb ⟨by decide, by decide⟩ dL_law_306 (by decide) (fun h_2 => absurd h_2 (by decide)) (fun _ => ?_)
  refine lv_iload hx hb dL_law_309 (lv_at hl 8 rfl) ?_
  refine r_iconst hx hb dL_law_311 ?_
  refine r_icmp_ne (tgt := 323) hx hb ⟨by omega, by omega⟩ ⟨by decide, by decide⟩ dL_law_312 (by decide) (fun h_3 => ?_) (fun h_3 => absurd h_3 (by omega))
  have jn342 : ∀ (_ : Unit), ∀ (H : Heap) (locs : List Loc) (k1 n1 : Nat), (k1 : Int) ≤ k0 + 4 → (n1 : Int) ≤ n0 + 24 → Wd D T z 133 τ s H locs → ∀ (ls : Array Slot), lv_has ls 23 [(22, .int (kI 1)), (21, .int (kI to)), (0, .ref b), (1, .ref (z + 0)), (2, .int (kI 1)), (3, .int (kI i)), (4, .int (kI y)), (5, .int (kI u)), (6, .int (kI w)), (7, .int (kI (σ 15 1))), (8, .int (kI (u % 2))), (9, .int (kI (u / 4 % 8))), (10, .int (kI (σ 2 0))), (11, .int (kI (atr σ (u % 2)))), (12, .int (kI (kor σ (u % 2) 2))), (13, .int (kI (σ 9 (u % 2)))), (14, .int (kI (σ 12 (u % 2)))), (15, .int (kI (σ 4 (u % 2 * 16 + u / 4 % 8)))), (16, .int (kI (σ 5 (u % 2 * 16 + u / 4 % 8)))), (17, .int (kI (pok σ (u % 2) (u / 4 % 8) 3))), (18, .int (kI (jud σ (u % 2) (u / 4 % 8) (1 + u / 32 % 4)))), (19, .int (kI (σ 14 1))), (20, .int (kI (σ 14 2)))] → W p l e room_1 s m #[Value.ref b] below meth c H locs k1 n1 Q (F0 m 342 ls []) := by
    intro _  H locs k1 n1 hk1 hn1 G ls hl
    refine r_iconst hx hb dL_law_342 ?_
    refine lv_goto (tgt := 347) hx hb dL_law_343 (by decide) ?_
    refine lv_istore_n (lv' := [(2, .int (kI 1)), (22, .int (kI 1)), (21, .int (kI to)), (0, .ref b), (1, .ref (z + 0)), (3, .int (kI i)), (4, .int (kI y)), (5, .int (kI u)), (6, .int (kI w)), (7, .int (kI (σ 15 1))), (8, .int (kI (u % 2))), (9, .int (kI (u / 4 % 8))), (10, .int (kI (σ 2 0))), (11, .int (kI (atr σ (u % 2)))), (12, .int (kI (kor σ (u % 2) 2))), (13, .int (kI (σ 9 (u % 2)))), (14, .int (kI (σ 12 (u % 2)))), (15, .int (kI (σ 4 (u % 2 * 16 + u / 4 % 8)))), (16, .int (kI (σ 5 (u % 2 * 16 + u / 4 % 8)))), (17, .int (kI (pok σ (u % 2) (u / 4 % 8) 3))), (18, .int (kI (jud σ (u % 2) (u / 4 % 8) (1 + u / 32 % 4)))), (19, .int (kI (σ 14 1))), (20, .int (kI (σ 14 2)))]) hx hb dL_law_347 rfl hl (by decide) rfl (fun ls hl => ?_)
    refine lv_iload_n hx hb dL_law_348 rfl (lv_at hl 0 rfl) ?_
    refine r_if_eq (tgt := 464) hx hb ⟨by decide, by decide⟩ dL_law_349 (by decide) (fun h_4 => absurd h_4 (by decide)) (fun _ => ?_)
    refine lv_iload hx hb dL_law_352 (lv_at hl 8 rfl) ?_
    refine r_bipush hx hb dL_law_354 (by decide +kernel) ?_
    refine r_icmp_le (tgt := 464) hx hb ⟨by omega, by omega⟩ ⟨by decide, by decide⟩ dL_law_356 (by decide) (fun h_5 => ?_) (fun h_5 => absurd h_5 (by omega))
    refine lv_iload_n hx hb dL_law_464 rfl (lv_at hl 0 rfl) ?_
    refine r_if_eq (tgt := 575) hx hb ⟨by decide, by decide⟩ dL_law_465 (by decide) (fun h_6 => absurd h_6 (by decide)) (fun _ => ?_)
    refine lv_iload hx hb dL_law_468 (lv_at hl 8 rfl) ?_
    refine r_bipush hx hb dL_law_470 (by decide +kernel) ?_
    refine r_icmp_le (tgt := 575) hx hb ⟨by omega, by omega⟩ ⟨by decide, by decide⟩ dL_law_472 (by decide) (fun h_7 => absurd h_7 (by omega)) (fun h_7 => ?_)
    refine lv_iload hx hb dL_law_475 (lv_at hl 17 rfl) ?_
    refine r_iconst hx hb dL_law_477 ?_
    refine r_icmp_eq (tgt := 496) hx hb ⟨by omega, by omega⟩ ⟨by decide, by decide⟩ dL_law_478 (by decide) (fun h_8 => ?_) (fun h_8 => absurd h_8 (by omega))
    refine lv_iload hx hb dL_law_496 (lv_at hl 2 rfl) ?_
    refine lv_iload hx hb dL_law_498 (lv_at hl 18 rfl) ?_
    refine lv_iload hx hb dL_law_500 (lv_at hl 21 rfl) ?_
    refine r_icmp_lt (tgt := 509) hx hb ⟨by omega, by omega⟩ ⟨by omega, by omega⟩ dL_law_502 (by decide) (fun h_9 => ?_) (fun h_9 => absurd h_9 (by omega))
    refine r_iconst hx hb dL_law_509 ?_
    refine r_icmp_ne (tgt := 570) hx hb ⟨by omega, by omega⟩ ⟨by decide, by decide⟩ dL_law_510 (by decide) (fun h_10 => absurd h_10 (by omega)) (fun h_10 => ?_)
    refine lv_aload_n hx hb dL_law_513 rfl (lv_at hl 4 rfl) ?_
    refine lv_iload hx hb dL_law_514 (lv_at hl 10 rfl) ?_
    refine lv_iload hx hb dL_law_516 (lv_at hl 11 rfl) ?_
    refine r_iconst hx hb dL_law_518 ?_
    refine r_callW (na := 4) (own := RL) ⟨hx, hb, hml, hown, hts⟩ G hv (k_L_keyOf_y l hst0 (σ := τ) (k := u % 2) (y := u / 4 % 8) (w := 0) ⟨by omega, by omega⟩ ⟨by omega, by omega⟩ ⟨by omega, by omega⟩ (aG.s) ⟨⟨by omega, by omega⟩, by omega, by omega⟩ (by omega)) qC_L_keyOf qM_L_124 qS_L_keyOf qN_L (by decide +kernel) ⟨Nat.le_of_ble_eq_true rfl, Nat.le_of_ble_eq_true rfl⟩ rfl rfl hl.1 rfl (Nat.le_of_ble_eq_true rfl) dL_law_519 (hC (by omega) (by omega)) (fun H locs G => ?_)
    refine r_top (b := τ 4 (u % 2 * 16 + u / 4 % 8)) (pok_0) ?_
    refine lv_iload hx hb dL_law_522 (lv_at hl 2 rfl) ?_
    refine r_iconst hx hb dL_law_524 ?_
    refine r_icmp_ne (tgt := 532) hx hb ⟨by omega, by omega⟩ ⟨by decide, by decide⟩ dL_law_525 (by decide) (fun h_11 => ?_) (fun h_11 => absurd h_11 (by omega))
    refine r_iconst hx hb dL_law_532 ?_
    refine r_icmp_ne (tgt := 570) hx hb ⟨by omega, by omega⟩ ⟨by decide, by decide⟩ dL_law_533 (by decide) (fun h_12 => absurd h_12 (by omega)) (fun h_12 => ?_)
    refine lv_iload hx hb dL_law_536 (lv_at hl 2 rfl) ?_
    refine r_iconst hx hb dL_law_538 ?_
    refine r_icmp_eq (tgt := 566) hx hb ⟨by omega, by omega⟩ ⟨by decide, by decide⟩ dL_law_539 (by decide) (fun h_13 => absurd h_13 (by omega)) (fun h_13 => ?_)
    refine lv_aload_n hx hb dL_law_542 rfl (lv_at hl 4 rfl) ?_
    refine lv_iload hx hb dL_law_543 (lv_at hl 10 rfl) ?_
    refine r_iconst hx hb dL_law_545 ?_
    refine r_callW (na := 3) (own := RL) ⟨hx, hb, hml, hown, hts⟩ G hv (k_L_pile_y l hst0 (σ := τ) (k := u % 2) (q := 0) ⟨by omega, by omega⟩ ⟨by omega, by omega⟩ (aG.s) ⟨by omega, by omega⟩ (by omega)) qC_L_pile qM_L_126 qS_L_pile qN_L (by decide +kernel) ⟨Nat.le_of_ble_eq_true rfl, Nat.le_of_ble_eq_true rfl⟩ rfl rfl hl.1 rfl (Nat.le_of_ble_eq_true rfl) dL_law_546 (hC (by omega) (by omega)) (fun H locs G => ?_)
    refine r_top (b := u / 4 % 8) (a4.2.2.1) ?_
    refine lv_iload hx hb dL_law_549 (lv_at hl 11 rfl) ?_
    refine r_icmp_ne (tgt := 570) hx hb ⟨by omega, by omega⟩ ⟨by omega, by omega⟩ dL_law_551 (by decide) (fun h_14 => absurd h_14 (by omega)) (fun h_14 => ?_)
    refine lv_aload_n hx hb dL_law_554 rfl (lv_at hl 4 rfl) ?_
    refine lv_iload hx hb dL_law_555 (lv_at hl 10 rfl) ?_
    refine lv_iload hx hb dL_law_557 (lv_at hl 11 rfl) ?_
    refine r_iconst hx hb dL_law_559 ?_
    refine r_callW (na := 4) (own := RL) ⟨hx, hb, hml, hown, hts⟩ G hv (k_L_keyOf_y l hst0 (σ := τ) (k := u % 2) (y := u / 4 % 8) (w := 3) ⟨by omega, by omega⟩ ⟨by omega, by omega⟩ ⟨by omega, by omega⟩ (aG.s) ⟨⟨by omega, by omega⟩, by omega, by omega⟩ (by omega)) qC_L_keyOf qM_L_124 qS_L_keyOf qN_L (by decide +kernel) ⟨Nat.le_of_ble_eq_true rfl, Nat.le_of_ble_eq_true rfl⟩ rfl rfl hl.1 rfl (Nat.le_of_ble_eq_true rfl) dL_law_560 (hC (by omega) (by omega)) (fun H locs G => ?_)
    refine r_top (b := 0) (a4.2.2.2) ?_
    refine r_if_ne (tgt := 570) hx hb ⟨by decide, by decide⟩ dL_law_563 (by decide) (fun h_15 => absurd h_15 (by decide)) (fun _ => ?_)
    refine r_iconst hx hb dL_law_566 ?_
    refine lv_goto (tgt := 571) hx hb dL_law_567 (by decide) ?_
    refine lv_istore_n (lv' := [(2, .int (kI 1)), (22, .int (kI 1)), (21, .int (kI to)), (0, .ref b), (1, .ref (z + 0)), (3, .int (kI i)), (4, .int (kI y)), (5, .int (kI u)), (6, .int (kI w)), (7, .int (kI (σ 15 1))), (8, .int (kI (u % 2))), (9, .int (kI (u / 4 % 8))), (10, .int (kI (σ 2 0))), (11, .int (kI (atr σ (u % 2)))), (12, .int (kI (kor σ (u % 2) 2))), (13, .int (kI (σ 9 (u % 2)))), (14, .int (kI (σ 12 (u % 2)))), (15, .int (kI (σ 4 (u % 2 * 16 + u / 4 % 8)))), (16, .int (kI (σ 5 (u % 2 * 16 + u / 4 % 8)))), (17, .int (kI (pok σ (u % 2) (u / 4 % 8) 3))), (18, .int (kI (jud σ (u % 2) (u / 4 % 8) (1 + u / 32 % 4)))), (19, .int (kI (σ 14 1))), (20, .int (kI (σ 14 2)))]) hx hb dL_law_571 rfl hl (by decide) rfl (fun ls hl => ?_)
    refine lv_goto (tgt := 882) hx hb dL_law_572 (by decide) ?_
    exact W.widen (k := k0 + 20) (n := n0 + 120) (by omega) (by omega) (kk τ _ _ _ G aG (lv_sub hl [5, 0, 4, 3, 10] rfl))
  refine lv_iload hx hb dL_law_323 (lv_at hl 9 rfl) ?_
  refine r_bipush hx hb dL_law_325 (by decide +kernel) ?_
  refine r_icmp_ne (tgt := 335) hx hb ⟨by omega, by omega⟩ ⟨by decide, by decide⟩ dL_law_327 (by decide) (fun h_16 => ?_) (fun h_16 => ?_)
  · skip
    refine lv_iload hx hb dL_law_335 (lv_at hl 9 rfl) ?_
    refine r_iconst hx hb dL_law_337 ?_
    refine r_iadd hx hb dL_law_338 ?_
    refine r_icmp_ne (tgt := 346) hx hb ⟨by omega, by omega⟩ ⟨by omega, by omega⟩ dL_law_339 (by decide) (fun h_17 => absurd h_17 (by omega)) (fun h_17 => ?_)
    exact jn342 ()  _ _ _ _ (by omega) (by omega) G _ (lv_sub hl [0, 1, 2, 3, 4, 5, 6, 7, 8, 9, 10, 11, 12, 13, 14, 15, 16, 17, 18, 19, 20, 21, 22] rfl)
  · skip
    refine lv_iload hx hb dL_law_330 (lv_at hl 9 rfl) ?_
    refine lv_goto (tgt := 339) hx hb dL_law_332 (by decide) ?_
    refine r_icmp_ne (tgt := 346) hx hb ⟨by omega, by omega⟩ ⟨by omega, by omega⟩ dL_law_339 (by decide) (fun h_18 => absurd h_18 (by omega)) (fun h_18 => ?_)
    exact jn342 ()  _ _ _ _ (by omega) (by omega) G _ (lv_sub hl [0, 1, 2, 3, 4, 5, 6, 7, 8, 9, 10, 11, 12, 13, 14, 15, 16, 17, 18, 19, 20, 21, 22] rfl)
set_option maxRecDepth 100000 in
set_option maxHeartbeats 4000000 in
theorem lw_delx {p : Program} {e : Env} {s : State} {m : MethodId} {below : List Frame} {meth : Method} {c : Code} {H : Heap} {locs : List Loc} {ls : Array Slot} {D : va_G} {T : Nat → ClassId} {σ : Mem} {z b k0 n0 : Nat} {Q : State → Prop} {n i y u w : Int} (l : Launch) (hst0 : l.stackTraces = false) (hx : p.tables.exec = Jvm.exec) (hb : c.code = cL_law) (hml : c.maxLocals = 23) (hown : s.vm.findClass RL = some m.cls) (hts : ∀ w ∈ Gw, w.before #[Value.ref b] s = true) (hv : Xv s) (hT : hol T < z) (G : Wd D T z 133 σ s H locs) (hG : GI n σ) (hn : 0 ≤ n ∧ n ≤ 800) (hi : 0 ≤ i ∧ i ≤ 44) (hy : 0 ≤ y ∧ y ≤ 2147483647) (hu : u = y / 16) (hw : w = y % 16) (h1 : 8 ≤ w ∧ w ≤ 11) (hc : ¬ σ 4 (u % 2 * 16 + u / 4 % 8) = 1) (hc0 : k0 + 20 ≤ 600130 ∧ n0 + 120 ≤ 7301079) (hl : lv_has ls 23 [(0, .ref b), (1, .ref (z + 0)), (2, .int (kI 1)), (3, .int (kI i)), (4, .int (kI y)), (5, .int (kI u)), (6, .int (kI w)), (7, .int (kI (σ 15 1))), (8, .int (kI (u % 2))), (9, .int (kI (u / 4 % 8))), (10, .int (kI (σ 2 0))), (11, .int (kI (atr σ (u % 2)))), (12, .int (kI (kor σ (u % 2) 2))), (13, .int (kI (σ 9 (u % 2)))), (14, .int (kI (σ 12 (u % 2)))), (15, .int (kI (σ 4 (u % 2 * 16 + u / 4 % 8)))), (16, .int (kI (σ 5 (u % 2 * 16 + u / 4 % 8)))), (17, .int (kI (pok σ (u % 2) (u / 4 % 8) 3))), (18, .int (kI (jud σ (u % 2) (u / 4 % 8) (1 + u / 32 % 4)))), (19, .int (kI (σ 14 1))), (20, .int (kI (σ 14 2)))]) (kk : ∀ (σ1 : Mem) (H1 : Heap) (locs1 : List Loc) (ls1 : Array Slot), Wd D T z 133 σ1 s H1 locs1 → GI (n + 1) σ1 → lv_has ls1 23 [(3, .int (kI i)), (2, .int (kI 1)), (1, .ref (z + 0)), (0, .ref b), (8, .int (kI (u % 2)))] → W p l e room_1 s m #[Value.ref b] below meth c H1 locs1 (k0 + 20) (n0 + 120) Q (F0 m 882 ls1 [])) : W p l e room_1 s m #[Value.ref b] below meth c H locs k0 n0 Q (F0 m 276 ls []) := by
  have hC : ∀ {a b : Nat}, a ≤ 600130 → b ≤ 7301079 → a ≤ room_1.cells ∧ b ≤ room_1.slots := fun h1 h2 => ⟨h1, h2⟩
  have hk4 : 0 ≤ u % 2 ∧ u % 2 < 4 := by omega
  have hx16 : 0 ≤ u / 4 % 8 ∧ u / 4 % 8 < 16 := by omega
  have hxw : 0 ≤ u / 4 % 16 ∧ u / 4 % 16 < 16 := by omega
  have hu0 : 0 ≤ u ∧ u ≤ 134217727 := by omega
  have hz := hG.z
  have hd := hG.i.ic.1
  have hday := hG.i.2.1
  have har := atr_rg (σ := σ) (k := u % 2)
  have hkr := kor_rg (σ := σ) (k := u % 2) (n := 2) (by decide)
  have hac := hG.i.ac hk4
  unfold ACk at hac
  have hky := hG.i.rg hk4 hx16
  have hpk := pok_c (σ := σ) (k := u % 2) (y := u / 4 % 8)
  have hjr := jud_rg (σ := σ) (k := u % 2) (y := u / 4 % 8) (q := 1 + u / 32 % 4)
  have hse := hG.s.2
  have hsea := hG.i.ic.2.1 (u % 2) hk4.1 hk4.2
  refine lv_aload_n hx hb dL_law_276 rfl (lv_at hl 1 rfl) ?_
  refine lv_iload hx hb dL_law_277 (lv_at hl 4 rfl) ?_
  refine r_callK (na := 2) (own := RL) ⟨hx, hb, hml, hown, hts⟩ hT G hv (k_L_acts_deln l hst0 hG (by omega) hy hu (show 8 ≤ y % 16 ∧ y % 16 ≤ 11 by omega) hc) (cSx hts qM_L_167 qS_L_acts qN_L qC_L_acts (by decide +kernel) ⟨Nat.le_of_ble_eq_true rfl, Nat.le_of_ble_eq_true rfl⟩) rfl rfl hl.1 rfl (Nat.le_of_ble_eq_true rfl) dL_law_279 (hC (by omega) (by omega)) (fun H locs G => ?_)
  have aG := hG.up
  refine lv_istore (lv' := [(21, .int (kI (-2000002))), (0, .ref b), (1, .ref (z + 0)), (2, .int (kI 1)), (3, .int (kI i)), (4, .int (kI y)), (5, .int (kI u)), (6, .int (kI w)), (7, .int (kI (σ 15 1))), (8, .int (kI (u % 2))), (9, .int (kI (u / 4 % 8))), (10, .int (kI (σ 2 0))), (11, .int (kI (atr σ (u % 2)))), (12, .int (kI (kor σ (u % 2) 2))), (13, .int (kI (σ 9 (u % 2)))), (14, .int (kI (σ 12 (u % 2)))), (15, .int (kI (σ 4 (u % 2 * 16 + u / 4 % 8)))), (16, .int (kI (σ 5 (u % 2 * 16 + u / 4 % 8)))), (17, .int (kI (pok σ (u % 2) (u / 4 % 8) 3))), (18, .int (kI (jud σ (u % 2) (u / 4 % 8) (1 + u / 32 % 4)))), (19, .int (kI (σ 14 1))), (20, .int (kI (σ 14 2)))]) hx hb dL_law_282 hl (by decide) rfl (fun ls hl => ?_)
  refine lv_iload hx hb dL_law_284 (lv_at hl 0 rfl) ?_
  refine r_ldc (n := -2000000) hx hb hts hown qCon_L_170 (by decide) dL_law_286 ?_
  refine r_icmp_le (tgt := 295) hx hb ⟨by decide, by decide⟩ ⟨by decide, by decide⟩ dL_law_288 (by decide) (fun _ => ?_) (fun h_1 => absurd h_1 (by decide))
  refine r_iconst hx hb dL_law_295 ?_
  refine lv_istore (lv' := [(22, .int (kI 0)), (21, .int (kI (-2000002))), (0, .ref b), (1, .ref (z + 0)), (2, .int (kI 1)), (3, .int (kI i)), (4, .int (kI y)), (5, .int (kI u)), (6, .int (kI w)), (7, .int (kI (σ 15 1))), (8, .int (kI (u % 2))), (9, .int (kI (u / 4 % 8))), (10, .int (kI (σ 2 0))), (11, .int (kI (atr σ (u % 2)))), (12, .int (kI (kor σ (u % 2) 2))), (13, .int (kI (σ 9 (u % 2)))), (14, .int (kI (σ 12 (u % 2)))), (15, .int (kI (σ 4 (u % 2 * 16 + u / 4 % 8)))), (16, .int (kI (σ 5 (u % 2 * 16 + u / 4 % 8)))), (17, .int (kI (pok σ (u % 2) (u / 4 % 8) 3))), (18, .int (kI (jud σ (u % 2) (u / 4 % 8) (1 + u / 32 % 4)))), (19, .int (kI (σ 14 1))), (20, .int (kI (σ 14 2)))]) hx hb dL_law_296 hl (by decide) rfl (fun ls hl => ?_)
  refine lv_aload_n hx hb dL_law_298 rfl (lv_at hl 3 rfl) ?_
  refine r_bipush hx hb dL_law_299 (by decide +kernel) ?_
  refine r_callW (na := 2) (own := RL) ⟨hx, hb, hml, hown, hts⟩ G hv (k_L_count_y l hst0 (σ := σ) (w := 9) ⟨by omega, by omega⟩ (aG.s) (by omega)) qC_L_count qM_L_138 qS_L_count qN_L (by decide +kernel) ⟨Nat.le_of_ble_eq_true rfl, Nat.le_of_ble_eq_true rfl⟩ rfl rfl hl.1 rfl (Nat.le_of_ble_eq_true rfl) dL_law_301 (hC (by omega) (by omega)) (fun H locs G => ?_)
  refine r_top (b := σ 15 1) (rfl) ?_
  refine lv_iload hx hb dL_law_304 (lv_at hl 0 rfl) ?_
  refine r_if_eq (tgt := 330) hx hb ⟨by decide, by decide⟩ dL_law_306 (by decide) (fun _ => ?_) (fun h_2 => absurd h_2 (by decide))
  refine lv_iload hx hb dL_law_330 (lv_at hl 9 rfl) ?_
  refine lv_goto (tgt := 339) hx hb dL_law_332 (by decide) ?_
  refine r_icmp_ne (tgt := 346) hx hb ⟨by omega, by omega⟩ ⟨by omega, by omega⟩ dL_law_339 (by decide) (fun h_3 => absurd h_3 (by omega)) (fun h_3 => ?_)
  refine r_iconst hx hb dL_law_342 ?_
  refine lv_goto (tgt := 347) hx hb dL_law_343 (by decide) ?_
  refine lv_istore_n (lv' := [(2, .int (kI 1)), (22, .int (kI 0)), (21, .int (kI (-2000002))), (0, .ref b), (1, .ref (z + 0)), (3, .int (kI i)), (4, .int (kI y)), (5, .int (kI u)), (6, .int (kI w)), (7, .int (kI (σ 15 1))), (8, .int (kI (u % 2))), (9, .int (kI (u / 4 % 8))), (10, .int (kI (σ 2 0))), (11, .int (kI (atr σ (u % 2)))), (12, .int (kI (kor σ (u % 2) 2))), (13, .int (kI (σ 9 (u % 2)))), (14, .int (kI (σ 12 (u % 2)))), (15, .int (kI (σ 4 (u % 2 * 16 + u / 4 % 8)))), (16, .int (kI (σ 5 (u % 2 * 16 + u / 4 % 8)))), (17, .int (kI (pok σ (u % 2) (u / 4 % 8) 3))), (18, .int (kI (jud σ (u % 2) (u / 4 % 8) (1 + u / 32 % 4)))), (19, .int (kI (σ 14 1))), (20, .int (kI (σ 14 2)))]) hx hb dL_law_347 rfl hl (by decide) rfl (fun ls hl => ?_)
  refine lv_iload_n hx hb dL_law_348 rfl (lv_at hl 0 rfl) ?_
  refine r_if_eq (tgt := 464) hx hb ⟨by decide, by decide⟩ dL_law_349 (by decide) (fun h_4 => absurd h_4 (by decide)) (fun _ => ?_)
  refine lv_iload hx hb dL_law_352 (lv_at hl 8 rfl) ?_
  refine r_bipush hx hb dL_law_354 (by decide +kernel) ?_
  refine r_icmp_le (tgt := 464) hx hb ⟨by omega, by omega⟩ ⟨by decide, by decide⟩ dL_law_356 (by decide) (fun h_5 => ?_) (fun h_5 => absurd h_5 (by omega))
  refine lv_iload_n hx hb dL_law_464 rfl (lv_at hl 0 rfl) ?_
  refine r_if_eq (tgt := 575) hx hb ⟨by decide, by decide⟩ dL_law_465 (by decide) (fun h_6 => absurd h_6 (by decide)) (fun _ => ?_)
  refine lv_iload hx hb dL_law_468 (lv_at hl 8 rfl) ?_
  refine r_bipush hx hb dL_law_470 (by decide +kernel) ?_
  refine r_icmp_le (tgt := 575) hx hb ⟨by omega, by omega⟩ ⟨by decide, by decide⟩ dL_law_472 (by decide) (fun h_7 => absurd h_7 (by omega)) (fun h_7 => ?_)
  refine lv_iload hx hb dL_law_475 (lv_at hl 17 rfl) ?_
  refine r_iconst hx hb dL_law_477 ?_
  refine r_icmp_eq (tgt := 496) hx hb ⟨by omega, by omega⟩ ⟨by decide, by decide⟩ dL_law_478 (by decide) (fun h_8 => absurd h_8 (by omega)) (fun h_8 => ?_)
  refine lv_iload hx hb dL_law_481 (lv_at hl 2 rfl) ?_
  refine r_ldc (n := -2000002) hx hb hts hown qCon_L_27 (by decide) dL_law_483 ?_
  refine r_icmp_ne (tgt := 492) hx hb ⟨by decide, by decide⟩ ⟨by decide, by decide⟩ dL_law_485 (by decide) (fun h_9 => absurd h_9 (by decide)) (fun _ => ?_)
  refine r_iconst hx hb dL_law_488 ?_
  refine lv_goto (tgt := 571) hx hb dL_law_489 (by decide) ?_
  refine lv_istore_n (lv' := [(2, .int (kI 1)), (22, .int (kI 0)), (21, .int (kI (-2000002))), (0, .ref b), (1, .ref (z + 0)), (3, .int (kI i)), (4, .int (kI y)), (5, .int (kI u)), (6, .int (kI w)), (7, .int (kI (σ 15 1))), (8, .int (kI (u % 2))), (9, .int (kI (u / 4 % 8))), (10, .int (kI (σ 2 0))), (11, .int (kI (atr σ (u % 2)))), (12, .int (kI (kor σ (u % 2) 2))), (13, .int (kI (σ 9 (u % 2)))), (14, .int (kI (σ 12 (u % 2)))), (15, .int (kI (σ 4 (u % 2 * 16 + u / 4 % 8)))), (16, .int (kI (σ 5 (u % 2 * 16 + u / 4 % 8)))), (17, .int (kI (pok σ (u % 2) (u / 4 % 8) 3))), (18, .int (kI (jud σ (u % 2) (u / 4 % 8) (1 + u / 32 % 4)))), (19, .int (kI (σ 14 1))), (20, .int (kI (σ 14 2)))]) hx hb dL_law_571 rfl hl (by decide) rfl (fun ls hl => ?_)
  refine lv_goto (tgt := 882) hx hb dL_law_572 (by decide) ?_
  exact W.widen (k := k0 + 20) (n := n0 + 120) (by omega) (by omega) (kk σ _ _ _ G aG (lv_sub hl [5, 0, 4, 3, 10] rfl))
set_option maxRecDepth 100000 in
set_option maxHeartbeats 4000000 in
theorem lw_brby {p : Program} {e : Env} {s : State} {m : MethodId} {below : List Frame} {meth : Method} {c : Code} {H : Heap} {locs : List Loc} {ls : Array Slot} {D : va_G} {T : Nat → ClassId} {σ : Mem} {z b k0 n0 : Nat} {Q : State → Prop} {n i y u w : Int} (l : Launch) (hst0 : l.stackTraces = false) (hx : p.tables.exec = Jvm.exec) (hb : c.code = cL_law) (hml : c.maxLocals = 23) (hown : s.vm.findClass RL = some m.cls) (hts : ∀ w ∈ Gw, w.before #[Value.ref b] s = true) (hv : Xv s) (hT : hol T < z) (G : Wd D T z 133 σ s H locs) (hG : GI n σ) (hn : 0 ≤ n ∧ n ≤ 800) (hi : 0 ≤ i ∧ i ≤ 44) (hy : 0 ≤ y ∧ y ≤ 2147483647) (hu : u = y / 16) (hw : w = y % 16) (h1 : w = 4) (hc : cbb σ (u % 2) (u / 4 % 8)) (hc0 : k0 + 20 ≤ 600130 ∧ n0 + 120 ≤ 7301079) (hl : lv_has ls 23 [(0, .ref b), (1, .ref (z + 0)), (2, .int (kI 1)), (3, .int (kI i)), (4, .int (kI y)), (5, .int (kI u)), (6, .int (kI w)), (7, .int (kI (σ 15 1))), (8, .int (kI (u % 2))), (9, .int (kI (u / 4 % 8))), (10, .int (kI (σ 2 0))), (11, .int (kI (atr σ (u % 2)))), (12, .int (kI (kor σ (u % 2) 2))), (13, .int (kI (σ 9 (u % 2)))), (14, .int (kI (σ 12 (u % 2)))), (15, .int (kI (σ 4 (u % 2 * 16 + u / 4 % 8)))), (16, .int (kI (σ 5 (u % 2 * 16 + u / 4 % 8)))), (17, .int (kI (pok σ (u % 2) (u / 4 % 8) 3))), (18, .int (kI (jud σ (u % 2) (u / 4 % 8) (1 + u / 32 % 4)))), (19, .int (kI (σ 14 1))), (20, .int (kI (σ 14 2)))]) (kk : ∀ (σ1 : Mem) (H1 : Heap) (locs1 : List Loc) (ls1 : Array Slot), Wd D T z 133 σ1 s H1 locs1 → GI (n + 1) σ1 → lv_has ls1 23 [(3, .int (kI i)), (2, .int (kI 1)), (1, .ref (z + 0)), (0, .ref b), (8, .int (kI (u % 2)))] → W p l e room_1 s m #[Value.ref b] below meth c H1 locs1 (k0 + 20) (n0 + 120) Q (F0 m 882 ls1 [])) : W p l e room_1 s m #[Value.ref b] below meth c H locs k0 n0 Q (F0 m 276 ls []) := by
  have hC : ∀ {a b : Nat}, a ≤ 600130 → b ≤ 7301079 → a ≤ room_1.cells ∧ b ≤ room_1.slots := fun h1 h2 => ⟨h1, h2⟩
  have hk4 : 0 ≤ u % 2 ∧ u % 2 < 4 := by omega
  have hx16 : 0 ≤ u / 4 % 8 ∧ u / 4 % 8 < 16 := by omega
  have hxw : 0 ≤ u / 4 % 16 ∧ u / 4 % 16 < 16 := by omega
  have hu0 : 0 ≤ u ∧ u ≤ 134217727 := by omega
  have hz := hG.z
  have hd := hG.i.ic.1
  have hday := hG.i.2.1
  have har := atr_rg (σ := σ) (k := u % 2)
  have hkr := kor_rg (σ := σ) (k := u % 2) (n := 2) (by decide)
  have hac := hG.i.ac hk4
  unfold ACk at hac
  have hky := hG.i.rg hk4 hx16
  have hpk := pok_c (σ := σ) (k := u % 2) (y := u / 4 % 8)
  have hjr := jud_rg (σ := σ) (k := u % 2) (y := u / 4 % 8) (q := 1 + u / 32 % 4)
  have hse := hG.s.2
  have hsea := hG.i.ic.2.1 (u % 2) hk4.1 hk4.2
  refine lv_aload_n hx hb dL_law_276 rfl (lv_at hl 1 rfl) ?_
  refine lv_iload hx hb dL_law_277 (lv_at hl 4 rfl) ?_
  refine r_callK (na := 2) (own := RL) ⟨hx, hb, hml, hown, hts⟩ hT G hv (k_L_acts_brby l hst0 hG (by omega) hy hu (show y % 16 = 4 by omega) hc) (cSx hts qM_L_167 qS_L_acts qN_L qC_L_acts (by decide +kernel) ⟨Nat.le_of_ble_eq_true rfl, Nat.le_of_ble_eq_true rfl⟩) rfl rfl hl.1 rfl (Nat.le_of_ble_eq_true rfl) dL_law_279 (hC (by omega) (by omega)) (fun H locs G => ?_)
  obtain ⟨τ, hτ⟩ : ∃ τ, τ = brb (pus σ) (u % 2) (u / 4 % 8) := ⟨_, rfl⟩
  rw [← hτ] at G
  refine r_name (fun to hto => ?_)
  have hcc := hc
  have hc1 := hcc.1
  have hc2 := hcc.2
  have hA := ab_y hG (by omega) hk4 hx16 hc1
  rw [← hτ] at hA
  obtain ⟨a0, aG, a15, a4, a5⟩ := hA
  rw [a0] at hto
  refine lv_istore (lv' := [(21, .int (kI to)), (0, .ref b), (1, .ref (z + 0)), (2, .int (kI 1)), (3, .int (kI i)), (4, .int (kI y)), (5, .int (kI u)), (6, .int (kI w)), (7, .int (kI (σ 15 1))), (8, .int (kI (u % 2))), (9, .int (kI (u / 4 % 8))), (10, .int (kI (σ 2 0))), (11, .int (kI (atr σ (u % 2)))), (12, .int (kI (kor σ (u % 2) 2))), (13, .int (kI (σ 9 (u % 2)))), (14, .int (kI (σ 12 (u % 2)))), (15, .int (kI (σ 4 (u % 2 * 16 + u / 4 % 8)))), (16, .int (kI (σ 5 (u % 2 * 16 + u / 4 % 8)))), (17, .int (kI (pok σ (u % 2) (u / 4 % 8) 3))), (18, .int (kI (jud σ (u % 2) (u / 4 % 8) (1 + u / 32 % 4)))), (19, .int (kI (σ 14 1))), (20, .int (kI (σ 14 2)))]) hx hb dL_law_282 hl (by decide) rfl (fun ls hl => ?_)
  refine lv_iload hx hb dL_law_284 (lv_at hl 0 rfl) ?_
  refine r_ldc (n := -2000000) hx hb hts hown qCon_L_170 (by decide) dL_law_286 ?_
  refine r_icmp_le (tgt := 295) hx hb ⟨by omega, by omega⟩ ⟨by decide, by decide⟩ dL_law_288 (by decide) (fun h_1 => absurd h_1 (by omega)) (fun h_1 => ?_)
  refine r_iconst hx hb dL_law_291 ?_
  refine lv_goto (tgt := 296) hx hb dL_law_292 (by decide) ?_
  refine lv_istore (lv' := [(22, .int (kI 1)), (21, .int (kI to)), (0, .ref b), (1, .ref (z + 0)), (2, .int (kI 1)), (3, .int (kI i)), (4, .int (kI y)), (5, .int (kI u)), (6, .int (kI w)), (7, .int (kI (σ 15 1))), (8, .int (kI (u % 2))), (9, .int (kI (u / 4 % 8))), (10, .int (kI (σ 2 0))), (11, .int (kI (atr σ (u % 2)))), (12, .int (kI (kor σ (u % 2) 2))), (13, .int (kI (σ 9 (u % 2)))), (14, .int (kI (σ 12 (u % 2)))), (15, .int (kI (σ 4 (u % 2 * 16 + u / 4 % 8)))), (16, .int (kI (σ 5 (u % 2 * 16 + u / 4 % 8)))), (17, .int (kI (pok σ (u % 2) (u / 4 % 8) 3))), (18, .int (kI (jud σ (u % 2) (u / 4 % 8) (1 + u / 32 % 4)))), (19, .int (kI (σ 14 1))), (20, .int (kI (σ 14 2)))]) hx hb dL_law_296 hl (by decide) rfl (fun ls hl => ?_)
  refine lv_aload_n hx hb dL_law_298 rfl (lv_at hl 3 rfl) ?_
  refine r_bipush hx hb dL_law_299 (by decide +kernel) ?_
  refine r_callW (na := 2) (own := RL) ⟨hx, hb, hml, hown, hts⟩ G hv (k_L_count_y l hst0 (σ := τ) (w := 9) ⟨by omega, by omega⟩ (aG.s) (by omega)) qC_L_count qM_L_138 qS_L_count qN_L (by decide +kernel) ⟨Nat.le_of_ble_eq_true rfl, Nat.le_of_ble_eq_true rfl⟩ rfl rfl hl.1 rfl (Nat.le_of_ble_eq_true rfl) dL_law_301 (hC (by omega) (by omega)) (fun H locs G => ?_)
  refine r_top (b := τ 15 1) (rfl) ?_
  refine lv_iload hx hb dL_law_304 (lv_at hl 0 rfl) ?_
  refine r_if_eq (tgt := 330) hx hb ⟨by decide, by decide⟩ dL_law_306 (by decide) (fun h_2 => absurd h_2 (by decide)) (fun _ => ?_)
  refine lv_iload hx hb dL_law_309 (lv_at hl 8 rfl) ?_
  refine r_iconst hx hb dL_law_311 ?_
  refine r_icmp_ne (tgt := 323) hx hb ⟨by omega, by omega⟩ ⟨by decide, by decide⟩ dL_law_312 (by decide) (fun h_3 => ?_) (fun h_3 => absurd h_3 (by omega))
  have jn342 : ∀ (_ : Unit), ∀ (H : Heap) (locs : List Loc) (k1 n1 : Nat), (k1 : Int) ≤ k0 + 4 → (n1 : Int) ≤ n0 + 24 → Wd D T z 133 τ s H locs → ∀ (ls : Array Slot), lv_has ls 23 [(22, .int (kI 1)), (21, .int (kI to)), (0, .ref b), (1, .ref (z + 0)), (2, .int (kI 1)), (3, .int (kI i)), (4, .int (kI y)), (5, .int (kI u)), (6, .int (kI w)), (7, .int (kI (σ 15 1))), (8, .int (kI (u % 2))), (9, .int (kI (u / 4 % 8))), (10, .int (kI (σ 2 0))), (11, .int (kI (atr σ (u % 2)))), (12, .int (kI (kor σ (u % 2) 2))), (13, .int (kI (σ 9 (u % 2)))), (14, .int (kI (σ 12 (u % 2)))), (15, .int (kI (σ 4 (u % 2 * 16 + u / 4 % 8)))), (16, .int (kI (σ 5 (u % 2 * 16 + u / 4 % 8)))), (17, .int (kI (pok σ (u % 2) (u / 4 % 8) 3))), (18, .int (kI (jud σ (u % 2) (u / 4 % 8) (1 + u / 32 % 4)))), (19, .int (kI (σ 14 1))), (20, .int (kI (σ 14 2)))] → W p l e room_1 s m #[Value.ref b] below meth c H locs k1 n1 Q (F0 m 342 ls []) := by
    intro _  H locs k1 n1 hk1 hn1 G ls hl
    refine r_iconst hx hb dL_law_342 ?_
    refine lv_goto (tgt := 347) hx hb dL_law_343 (by decide) ?_
    refine lv_istore_n (lv' := [(2, .int (kI 1)), (22, .int (kI 1)), (21, .int (kI to)), (0, .ref b), (1, .ref (z + 0)), (3, .int (kI i)), (4, .int (kI y)), (5, .int (kI u)), (6, .int (kI w)), (7, .int (kI (σ 15 1))), (8, .int (kI (u % 2))), (9, .int (kI (u / 4 % 8))), (10, .int (kI (σ 2 0))), (11, .int (kI (atr σ (u % 2)))), (12, .int (kI (kor σ (u % 2) 2))), (13, .int (kI (σ 9 (u % 2)))), (14, .int (kI (σ 12 (u % 2)))), (15, .int (kI (σ 4 (u % 2 * 16 + u / 4 % 8)))), (16, .int (kI (σ 5 (u % 2 * 16 + u / 4 % 8)))), (17, .int (kI (pok σ (u % 2) (u / 4 % 8) 3))), (18, .int (kI (jud σ (u % 2) (u / 4 % 8) (1 + u / 32 % 4)))), (19, .int (kI (σ 14 1))), (20, .int (kI (σ 14 2)))]) hx hb dL_law_347 rfl hl (by decide) rfl (fun ls hl => ?_)
    refine lv_iload_n hx hb dL_law_348 rfl (lv_at hl 0 rfl) ?_
    refine r_if_eq (tgt := 464) hx hb ⟨by decide, by decide⟩ dL_law_349 (by decide) (fun h_4 => absurd h_4 (by decide)) (fun _ => ?_)
    refine lv_iload hx hb dL_law_352 (lv_at hl 8 rfl) ?_
    refine r_bipush hx hb dL_law_354 (by decide +kernel) ?_
    refine r_icmp_le (tgt := 464) hx hb ⟨by omega, by omega⟩ ⟨by decide, by decide⟩ dL_law_356 (by decide) (fun h_5 => ?_) (fun h_5 => absurd h_5 (by omega))
    refine lv_iload_n hx hb dL_law_464 rfl (lv_at hl 0 rfl) ?_
    refine r_if_eq (tgt := 575) hx hb ⟨by decide, by decide⟩ dL_law_465 (by decide) (fun h_6 => absurd h_6 (by decide)) (fun _ => ?_)
    refine lv_iload hx hb dL_law_468 (lv_at hl 8 rfl) ?_
    refine r_bipush hx hb dL_law_470 (by decide +kernel) ?_
    refine r_icmp_le (tgt := 575) hx hb ⟨by omega, by omega⟩ ⟨by decide, by decide⟩ dL_law_472 (by decide) (fun h_7 => ?_) (fun h_7 => absurd h_7 (by omega))
    refine lv_iload_n hx hb dL_law_575 rfl (lv_at hl 0 rfl) ?_
    refine r_if_eq (tgt := 656) hx hb ⟨by decide, by decide⟩ dL_law_576 (by decide) (fun h_8 => absurd h_8 (by decide)) (fun _ => ?_)
    refine lv_iload hx hb dL_law_579 (lv_at hl 8 rfl) ?_
    refine r_iconst hx hb dL_law_581 ?_
    refine r_icmp_ne (tgt := 656) hx hb ⟨by omega, by omega⟩ ⟨by decide, by decide⟩ dL_law_582 (by decide) (fun h_9 => absurd h_9 (by omega)) (fun h_9 => ?_)
    refine lv_iload hx hb dL_law_585 (lv_at hl 17 rfl) ?_
    refine r_iconst hx hb dL_law_587 ?_
    refine r_icmp_ne (tgt := 640) hx hb ⟨by omega, by omega⟩ ⟨by decide, by decide⟩ dL_law_588 (by decide) (fun h_10 => absurd h_10 (by omega)) (fun h_10 => ?_)
    refine lv_iload hx hb dL_law_591 (lv_at hl 19 rfl) ?_
    refine lv_iload hx hb dL_law_593 (lv_at hl 22 rfl) ?_
    refine r_icmp_gt (tgt := 640) hx hb ⟨by omega, by omega⟩ ⟨by omega, by omega⟩ dL_law_595 (by decide) (fun h_11 => absurd h_11 (by omega)) (fun h_11 => ?_)
    refine lv_iload hx hb dL_law_598 (lv_at hl 2 rfl) ?_
    refine lv_iload hx hb dL_law_600 (lv_at hl 18 rfl) ?_
    refine r_icmp_ne (tgt := 636) hx hb ⟨by omega, by omega⟩ ⟨by omega, by omega⟩ dL_law_602 (by decide) (fun h_12 => absurd h_12 (by omega)) (fun h_12 => ?_)
    refine lv_aload_n hx hb dL_law_605 rfl (lv_at hl 4 rfl) ?_
    refine lv_iload hx hb dL_law_606 (lv_at hl 10 rfl) ?_
    refine lv_iload hx hb dL_law_608 (lv_at hl 11 rfl) ?_
    refine r_iconst hx hb dL_law_610 ?_
    refine r_callW (na := 4) (own := RL) ⟨hx, hb, hml, hown, hts⟩ G hv (k_L_keyOf_y l hst0 (σ := τ) (k := u % 2) (y := u / 4 % 8) (w := 0) ⟨by omega, by omega⟩ ⟨by omega, by omega⟩ ⟨by omega, by omega⟩ (aG.s) ⟨⟨by omega, by omega⟩, by omega, by omega⟩ (by omega)) qC_L_keyOf qM_L_124 qS_L_keyOf qN_L (by decide +kernel) ⟨Nat.le_of_ble_eq_true rfl, Nat.le_of_ble_eq_true rfl⟩ rfl rfl hl.1 rfl (Nat.le_of_ble_eq_true rfl) dL_law_611 (hC (by omega) (by omega)) (fun H locs G => ?_)
    refine r_top (b := τ 4 (u % 2 * 16 + u / 4 % 8)) (pok_0) ?_
    refine r_iconst hx hb dL_law_614 ?_
    refine r_icmp_ne (tgt := 636) hx hb ⟨by omega, by omega⟩ ⟨by decide, by decide⟩ dL_law_615 (by decide) (fun h_13 => absurd h_13 (by omega)) (fun h_13 => ?_)
    refine lv_aload_n hx hb dL_law_618 rfl (lv_at hl 4 rfl) ?_
    refine lv_iload hx hb dL_law_619 (lv_at hl 10 rfl) ?_
    refine lv_iload hx hb dL_law_621 (lv_at hl 11 rfl) ?_
    refine r_iconst hx hb dL_law_623 ?_
    refine r_callW (na := 4) (own := RL) ⟨hx, hb, hml, hown, hts⟩ G hv (k_L_keyOf_y l hst0 (σ := τ) (k := u % 2) (y := u / 4 % 8) (w := 1) ⟨by omega, by omega⟩ ⟨by omega, by omega⟩ ⟨by omega, by omega⟩ (aG.s) ⟨⟨by omega, by omega⟩, by omega, by omega⟩ (by omega)) qC_L_keyOf qM_L_124 qS_L_keyOf qN_L (by decide +kernel) ⟨Nat.le_of_ble_eq_true rfl, Nat.le_of_ble_eq_true rfl⟩ rfl rfl hl.1 rfl (Nat.le_of_ble_eq_true rfl) dL_law_624 (hC (by omega) (by omega)) (fun H locs G => ?_)
    refine r_top (b := τ 5 (u % 2 * 16 + u / 4 % 8)) (pok_1) ?_
    refine lv_iload hx hb dL_law_627 (lv_at hl 18 rfl) ?_
    refine r_icmp_ne (tgt := 636) hx hb ⟨by omega, by omega⟩ ⟨by omega, by omega⟩ dL_law_629 (by decide) (fun h_14 => absurd h_14 (by omega)) (fun h_14 => ?_)
    refine r_iconst hx hb dL_law_632 ?_
    refine lv_goto (tgt := 652) hx hb dL_law_633 (by decide) ?_
    refine lv_istore_n (lv' := [(2, .int (kI 1)), (22, .int (kI 1)), (21, .int (kI to)), (0, .ref b), (1, .ref (z + 0)), (3, .int (kI i)), (4, .int (kI y)), (5, .int (kI u)), (6, .int (kI w)), (7, .int (kI (σ 15 1))), (8, .int (kI (u % 2))), (9, .int (kI (u / 4 % 8))), (10, .int (kI (σ 2 0))), (11, .int (kI (atr σ (u % 2)))), (12, .int (kI (kor σ (u % 2) 2))), (13, .int (kI (σ 9 (u % 2)))), (14, .int (kI (σ 12 (u % 2)))), (15, .int (kI (σ 4 (u % 2 * 16 + u / 4 % 8)))), (16, .int (kI (σ 5 (u % 2 * 16 + u / 4 % 8)))), (17, .int (kI (pok σ (u % 2) (u / 4 % 8) 3))), (18, .int (kI (jud σ (u % 2) (u / 4 % 8) (1 + u / 32 % 4)))), (19, .int (kI (σ 14 1))), (20, .int (kI (σ 14 2)))]) hx hb dL_law_652 rfl hl (by decide) rfl (fun ls hl => ?_)
    refine lv_goto (tgt := 882) hx hb dL_law_653 (by decide) ?_
    exact W.widen (k := k0 + 20) (n := n0 + 120) (by omega) (by omega) (kk τ _ _ _ G aG (lv_sub hl [5, 0, 4, 3, 10] rfl))
  refine lv_iload hx hb dL_law_323 (lv_at hl 9 rfl) ?_
  refine r_bipush hx hb dL_law_325 (by decide +kernel) ?_
  refine r_icmp_ne (tgt := 335) hx hb ⟨by omega, by omega⟩ ⟨by decide, by decide⟩ dL_law_327 (by decide) (fun h_15 => ?_) (fun h_15 => ?_)
  · skip
    refine lv_iload hx hb dL_law_335 (lv_at hl 9 rfl) ?_
    refine r_iconst hx hb dL_law_337 ?_
    refine r_iadd hx hb dL_law_338 ?_
    refine r_icmp_ne (tgt := 346) hx hb ⟨by omega, by omega⟩ ⟨by omega, by omega⟩ dL_law_339 (by decide) (fun h_16 => absurd h_16 (by omega)) (fun h_16 => ?_)
    exact jn342 ()  _ _ _ _ (by omega) (by omega) G _ (lv_sub hl [0, 1, 2, 3, 4, 5, 6, 7, 8, 9, 10, 11, 12, 13, 14, 15, 16, 17, 18, 19, 20, 21, 22] rfl)
  · skip
    refine lv_iload hx hb dL_law_330 (lv_at hl 9 rfl) ?_
    refine lv_goto (tgt := 339) hx hb dL_law_332 (by decide) ?_
    refine r_icmp_ne (tgt := 346) hx hb ⟨by omega, by omega⟩ ⟨by omega, by omega⟩ dL_law_339 (by decide) (fun h_17 => absurd h_17 (by omega)) (fun h_17 => ?_)
    exact jn342 ()  _ _ _ _ (by omega) (by omega) G _ (lv_sub hl [0, 1, 2, 3, 4, 5, 6, 7, 8, 9, 10, 11, 12, 13, 14, 15, 16, 17, 18, 19, 20, 21, 22] rfl)
set_option maxRecDepth 100000 in
set_option maxHeartbeats 4000000 in
theorem lw_brbx {p : Program} {e : Env} {s : State} {m : MethodId} {below : List Frame} {meth : Method} {c : Code} {H : Heap} {locs : List Loc} {ls : Array Slot} {D : va_G} {T : Nat → ClassId} {σ : Mem} {z b k0 n0 : Nat} {Q : State → Prop} {n i y u w : Int} (l : Launch) (hst0 : l.stackTraces = false) (hx : p.tables.exec = Jvm.exec) (hb : c.code = cL_law) (hml : c.maxLocals = 23) (hown : s.vm.findClass RL = some m.cls) (hts : ∀ w ∈ Gw, w.before #[Value.ref b] s = true) (hv : Xv s) (hT : hol T < z) (G : Wd D T z 133 σ s H locs) (hG : GI n σ) (hn : 0 ≤ n ∧ n ≤ 800) (hi : 0 ≤ i ∧ i ≤ 44) (hy : 0 ≤ y ∧ y ≤ 2147483647) (hu : u = y / 16) (hw : w = y % 16) (h1 : w = 4) (hc : ¬ cbb σ (u % 2) (u / 4 % 8)) (hc0 : k0 + 20 ≤ 600130 ∧ n0 + 120 ≤ 7301079) (hl : lv_has ls 23 [(0, .ref b), (1, .ref (z + 0)), (2, .int (kI 1)), (3, .int (kI i)), (4, .int (kI y)), (5, .int (kI u)), (6, .int (kI w)), (7, .int (kI (σ 15 1))), (8, .int (kI (u % 2))), (9, .int (kI (u / 4 % 8))), (10, .int (kI (σ 2 0))), (11, .int (kI (atr σ (u % 2)))), (12, .int (kI (kor σ (u % 2) 2))), (13, .int (kI (σ 9 (u % 2)))), (14, .int (kI (σ 12 (u % 2)))), (15, .int (kI (σ 4 (u % 2 * 16 + u / 4 % 8)))), (16, .int (kI (σ 5 (u % 2 * 16 + u / 4 % 8)))), (17, .int (kI (pok σ (u % 2) (u / 4 % 8) 3))), (18, .int (kI (jud σ (u % 2) (u / 4 % 8) (1 + u / 32 % 4)))), (19, .int (kI (σ 14 1))), (20, .int (kI (σ 14 2)))]) (kk : ∀ (σ1 : Mem) (H1 : Heap) (locs1 : List Loc) (ls1 : Array Slot), Wd D T z 133 σ1 s H1 locs1 → GI (n + 1) σ1 → lv_has ls1 23 [(3, .int (kI i)), (2, .int (kI 1)), (1, .ref (z + 0)), (0, .ref b), (8, .int (kI (u % 2)))] → W p l e room_1 s m #[Value.ref b] below meth c H1 locs1 (k0 + 20) (n0 + 120) Q (F0 m 882 ls1 [])) : W p l e room_1 s m #[Value.ref b] below meth c H locs k0 n0 Q (F0 m 276 ls []) := by
  have hC : ∀ {a b : Nat}, a ≤ 600130 → b ≤ 7301079 → a ≤ room_1.cells ∧ b ≤ room_1.slots := fun h1 h2 => ⟨h1, h2⟩
  have hk4 : 0 ≤ u % 2 ∧ u % 2 < 4 := by omega
  have hx16 : 0 ≤ u / 4 % 8 ∧ u / 4 % 8 < 16 := by omega
  have hxw : 0 ≤ u / 4 % 16 ∧ u / 4 % 16 < 16 := by omega
  have hu0 : 0 ≤ u ∧ u ≤ 134217727 := by omega
  have hz := hG.z
  have hd := hG.i.ic.1
  have hday := hG.i.2.1
  have har := atr_rg (σ := σ) (k := u % 2)
  have hkr := kor_rg (σ := σ) (k := u % 2) (n := 2) (by decide)
  have hac := hG.i.ac hk4
  unfold ACk at hac
  have hky := hG.i.rg hk4 hx16
  have hpk := pok_c (σ := σ) (k := u % 2) (y := u / 4 % 8)
  have hjr := jud_rg (σ := σ) (k := u % 2) (y := u / 4 % 8) (q := 1 + u / 32 % 4)
  have hse := hG.s.2
  have hsea := hG.i.ic.2.1 (u % 2) hk4.1 hk4.2
  refine lv_aload_n hx hb dL_law_276 rfl (lv_at hl 1 rfl) ?_
  refine lv_iload hx hb dL_law_277 (lv_at hl 4 rfl) ?_
  refine r_callK (na := 2) (own := RL) ⟨hx, hb, hml, hown, hts⟩ hT G hv (k_L_acts_brbn l hst0 hG (by omega) hy hu (show y % 16 = 4 by omega) hc) (cSx hts qM_L_167 qS_L_acts qN_L qC_L_acts (by decide +kernel) ⟨Nat.le_of_ble_eq_true rfl, Nat.le_of_ble_eq_true rfl⟩) rfl rfl hl.1 rfl (Nat.le_of_ble_eq_true rfl) dL_law_279 (hC (by omega) (by omega)) (fun H locs G => ?_)
  have aG := hG.up
  have hcn : σ 4 (u % 2 * 16 + u / 4 % 8) = 2 → σ 14 2 < σ 2 0 - σ 7 (u % 2 * 16 + u / 4 % 8) := fun q => by by_cases g : σ 2 0 - σ 7 (u % 2 * 16 + u / 4 % 8) ≤ σ 14 2; exact absurd ⟨q, g⟩ hc; omega
  refine lv_istore (lv' := [(21, .int (kI (-2000002))), (0, .ref b), (1, .ref (z + 0)), (2, .int (kI 1)), (3, .int (kI i)), (4, .int (kI y)), (5, .int (kI u)), (6, .int (kI w)), (7, .int (kI (σ 15 1))), (8, .int (kI (u % 2))), (9, .int (kI (u / 4 % 8))), (10, .int (kI (σ 2 0))), (11, .int (kI (atr σ (u % 2)))), (12, .int (kI (kor σ (u % 2) 2))), (13, .int (kI (σ 9 (u % 2)))), (14, .int (kI (σ 12 (u % 2)))), (15, .int (kI (σ 4 (u % 2 * 16 + u / 4 % 8)))), (16, .int (kI (σ 5 (u % 2 * 16 + u / 4 % 8)))), (17, .int (kI (pok σ (u % 2) (u / 4 % 8) 3))), (18, .int (kI (jud σ (u % 2) (u / 4 % 8) (1 + u / 32 % 4)))), (19, .int (kI (σ 14 1))), (20, .int (kI (σ 14 2)))]) hx hb dL_law_282 hl (by decide) rfl (fun ls hl => ?_)
  refine lv_iload hx hb dL_law_284 (lv_at hl 0 rfl) ?_
  refine r_ldc (n := -2000000) hx hb hts hown qCon_L_170 (by decide) dL_law_286 ?_
  refine r_icmp_le (tgt := 295) hx hb ⟨by decide, by decide⟩ ⟨by decide, by decide⟩ dL_law_288 (by decide) (fun _ => ?_) (fun h_1 => absurd h_1 (by decide))
  refine r_iconst hx hb dL_law_295 ?_
  refine lv_istore (lv' := [(22, .int (kI 0)), (21, .int (kI (-2000002))), (0, .ref b), (1, .ref (z + 0)), (2, .int (kI 1)), (3, .int (kI i)), (4, .int (kI y)), (5, .int (kI u)), (6, .int (kI w)), (7, .int (kI (σ 15 1))), (8, .int (kI (u % 2))), (9, .int (kI (u / 4 % 8))), (10, .int (kI (σ 2 0))), (11, .int (kI (atr σ (u % 2)))), (12, .int (kI (kor σ (u % 2) 2))), (13, .int (kI (σ 9 (u % 2)))), (14, .int (kI (σ 12 (u % 2)))), (15, .int (kI (σ 4 (u % 2 * 16 + u / 4 % 8)))), (16, .int (kI (σ 5 (u % 2 * 16 + u / 4 % 8)))), (17, .int (kI (pok σ (u % 2) (u / 4 % 8) 3))), (18, .int (kI (jud σ (u % 2) (u / 4 % 8) (1 + u / 32 % 4)))), (19, .int (kI (σ 14 1))), (20, .int (kI (σ 14 2)))]) hx hb dL_law_296 hl (by decide) rfl (fun ls hl => ?_)
  refine lv_aload_n hx hb dL_law_298 rfl (lv_at hl 3 rfl) ?_
  refine r_bipush hx hb dL_law_299 (by decide +kernel) ?_
  refine r_callW (na := 2) (own := RL) ⟨hx, hb, hml, hown, hts⟩ G hv (k_L_count_y l hst0 (σ := σ) (w := 9) ⟨by omega, by omega⟩ (aG.s) (by omega)) qC_L_count qM_L_138 qS_L_count qN_L (by decide +kernel) ⟨Nat.le_of_ble_eq_true rfl, Nat.le_of_ble_eq_true rfl⟩ rfl rfl hl.1 rfl (Nat.le_of_ble_eq_true rfl) dL_law_301 (hC (by omega) (by omega)) (fun H locs G => ?_)
  refine r_top (b := σ 15 1) (rfl) ?_
  refine lv_iload hx hb dL_law_304 (lv_at hl 0 rfl) ?_
  refine r_if_eq (tgt := 330) hx hb ⟨by decide, by decide⟩ dL_law_306 (by decide) (fun _ => ?_) (fun h_2 => absurd h_2 (by decide))
  refine lv_iload hx hb dL_law_330 (lv_at hl 9 rfl) ?_
  refine lv_goto (tgt := 339) hx hb dL_law_332 (by decide) ?_
  refine r_icmp_ne (tgt := 346) hx hb ⟨by omega, by omega⟩ ⟨by omega, by omega⟩ dL_law_339 (by decide) (fun h_3 => absurd h_3 (by omega)) (fun h_3 => ?_)
  refine r_iconst hx hb dL_law_342 ?_
  refine lv_goto (tgt := 347) hx hb dL_law_343 (by decide) ?_
  refine lv_istore_n (lv' := [(2, .int (kI 1)), (22, .int (kI 0)), (21, .int (kI (-2000002))), (0, .ref b), (1, .ref (z + 0)), (3, .int (kI i)), (4, .int (kI y)), (5, .int (kI u)), (6, .int (kI w)), (7, .int (kI (σ 15 1))), (8, .int (kI (u % 2))), (9, .int (kI (u / 4 % 8))), (10, .int (kI (σ 2 0))), (11, .int (kI (atr σ (u % 2)))), (12, .int (kI (kor σ (u % 2) 2))), (13, .int (kI (σ 9 (u % 2)))), (14, .int (kI (σ 12 (u % 2)))), (15, .int (kI (σ 4 (u % 2 * 16 + u / 4 % 8)))), (16, .int (kI (σ 5 (u % 2 * 16 + u / 4 % 8)))), (17, .int (kI (pok σ (u % 2) (u / 4 % 8) 3))), (18, .int (kI (jud σ (u % 2) (u / 4 % 8) (1 + u / 32 % 4)))), (19, .int (kI (σ 14 1))), (20, .int (kI (σ 14 2)))]) hx hb dL_law_347 rfl hl (by decide) rfl (fun ls hl => ?_)
  refine lv_iload_n hx hb dL_law_348 rfl (lv_at hl 0 rfl) ?_
  refine r_if_eq (tgt := 464) hx hb ⟨by decide, by decide⟩ dL_law_349 (by decide) (fun h_4 => absurd h_4 (by decide)) (fun _ => ?_)
  refine lv_iload hx hb dL_law_352 (lv_at hl 8 rfl) ?_
  refine r_bipush hx hb dL_law_354 (by decide +kernel) ?_
  refine r_icmp_le (tgt := 464) hx hb ⟨by omega, by omega⟩ ⟨by decide, by decide⟩ dL_law_356 (by decide) (fun h_5 => ?_) (fun h_5 => absurd h_5 (by omega))
  refine lv_iload_n hx hb dL_law_464 rfl (lv_at hl 0 rfl) ?_
  refine r_if_eq (tgt := 575) hx hb ⟨by decide, by decide⟩ dL_law_465 (by decide) (fun h_6 => absurd h_6 (by decide)) (fun _ => ?_)
  refine lv_iload hx hb dL_law_468 (lv_at hl 8 rfl) ?_
  refine r_bipush hx hb dL_law_470 (by decide +kernel) ?_
  refine r_icmp_le (tgt := 575) hx hb ⟨by omega, by omega⟩ ⟨by decide, by decide⟩ dL_law_472 (by decide) (fun h_7 => ?_) (fun h_7 => absurd h_7 (by omega))
  refine lv_iload_n hx hb dL_law_575 rfl (lv_at hl 0 rfl) ?_
  refine r_if_eq (tgt := 656) hx hb ⟨by decide, by decide⟩ dL_law_576 (by decide) (fun h_8 => absurd h_8 (by decide)) (fun _ => ?_)
  refine lv_iload hx hb dL_law_579 (lv_at hl 8 rfl) ?_
  refine r_iconst hx hb dL_law_581 ?_
  refine r_icmp_ne (tgt := 656) hx hb ⟨by omega, by omega⟩ ⟨by decide, by decide⟩ dL_law_582 (by decide) (fun h_9 => absurd h_9 (by omega)) (fun h_9 => ?_)
  refine lv_iload hx hb dL_law_585 (lv_at hl 17 rfl) ?_
  refine r_iconst hx hb dL_law_587 ?_
  refine r_icmp_ne (tgt := 640) hx hb ⟨by omega, by omega⟩ ⟨by decide, by decide⟩ dL_law_588 (by decide) (fun h_10 => ?_) (fun h_10 => ?_)
  · skip
    refine lv_iload hx hb dL_law_640 (lv_at hl 2 rfl) ?_
    refine r_ldc (n := -2000002) hx hb hts hown qCon_L_27 (by decide) dL_law_642 ?_
    refine r_icmp_ne (tgt := 651) hx hb ⟨by decide, by decide⟩ ⟨by decide, by decide⟩ dL_law_644 (by decide) (fun h_11 => absurd h_11 (by decide)) (fun _ => ?_)
    refine r_iconst hx hb dL_law_647 ?_
    refine lv_goto (tgt := 652) hx hb dL_law_648 (by decide) ?_
    refine lv_istore_n (lv' := [(2, .int (kI 1)), (22, .int (kI 0)), (21, .int (kI (-2000002))), (0, .ref b), (1, .ref (z + 0)), (3, .int (kI i)), (4, .int (kI y)), (5, .int (kI u)), (6, .int (kI w)), (7, .int (kI (σ 15 1))), (8, .int (kI (u % 2))), (9, .int (kI (u / 4 % 8))), (10, .int (kI (σ 2 0))), (11, .int (kI (atr σ (u % 2)))), (12, .int (kI (kor σ (u % 2) 2))), (13, .int (kI (σ 9 (u % 2)))), (14, .int (kI (σ 12 (u % 2)))), (15, .int (kI (σ 4 (u % 2 * 16 + u / 4 % 8)))), (16, .int (kI (σ 5 (u % 2 * 16 + u / 4 % 8)))), (17, .int (kI (pok σ (u % 2) (u / 4 % 8) 3))), (18, .int (kI (jud σ (u % 2) (u / 4 % 8) (1 + u / 32 % 4)))), (19, .int (kI (σ 14 1))), (20, .int (kI (σ 14 2)))]) hx hb dL_law_652 rfl hl (by decide) rfl (fun ls hl => ?_)
    refine lv_goto (tgt := 882) hx hb dL_law_653 (by decide) ?_
    exact W.widen (k := k0 + 20) (n := n0 + 120) (by omega) (by omega) (kk σ _ _ _ G aG (lv_sub hl [5, 0, 4, 3, 10] rfl))
  · skip
    refine lv_iload hx hb dL_law_591 (lv_at hl 19 rfl) ?_
    refine lv_iload hx hb dL_law_593 (lv_at hl 22 rfl) ?_
    refine r_icmp_gt (tgt := 640) hx hb ⟨by omega, by omega⟩ ⟨by omega, by omega⟩ dL_law_595 (by decide) (fun h_12 => ?_) (fun h_12 => absurd h_12 (by omega))
    refine lv_iload hx hb dL_law_640 (lv_at hl 2 rfl) ?_
    refine r_ldc (n := -2000002) hx hb hts hown qCon_L_27 (by decide) dL_law_642 ?_
    refine r_icmp_ne (tgt := 651) hx hb ⟨by decide, by decide⟩ ⟨by decide, by decide⟩ dL_law_644 (by decide) (fun h_13 => absurd h_13 (by decide)) (fun _ => ?_)
    refine r_iconst hx hb dL_law_647 ?_
    refine lv_goto (tgt := 652) hx hb dL_law_648 (by decide) ?_
    refine lv_istore_n (lv' := [(2, .int (kI 1)), (22, .int (kI 0)), (21, .int (kI (-2000002))), (0, .ref b), (1, .ref (z + 0)), (3, .int (kI i)), (4, .int (kI y)), (5, .int (kI u)), (6, .int (kI w)), (7, .int (kI (σ 15 1))), (8, .int (kI (u % 2))), (9, .int (kI (u / 4 % 8))), (10, .int (kI (σ 2 0))), (11, .int (kI (atr σ (u % 2)))), (12, .int (kI (kor σ (u % 2) 2))), (13, .int (kI (σ 9 (u % 2)))), (14, .int (kI (σ 12 (u % 2)))), (15, .int (kI (σ 4 (u % 2 * 16 + u / 4 % 8)))), (16, .int (kI (σ 5 (u % 2 * 16 + u / 4 % 8)))), (17, .int (kI (pok σ (u % 2) (u / 4 % 8) 3))), (18, .int (kI (jud σ (u % 2) (u / 4 % 8) (1 + u / 32 % 4)))), (19, .int (kI (σ 14 1))), (20, .int (kI (σ 14 2)))]) hx hb dL_law_652 rfl hl (by decide) rfl (fun ls hl => ?_)
    refine lv_goto (tgt := 882) hx hb dL_law_653 (by decide) ?_
    exact W.widen (k := k0 + 20) (n := n0 + 120) (by omega) (by omega) (kk σ _ _ _ G aG (lv_sub hl [5, 0, 4, 3, 10] rfl))
set_option maxRecDepth 100000 in
set_option maxHeartbeats 4000000 in
theorem lw_fol {p : Program} {e : Env} {s : State} {m : MethodId} {below : List Frame} {meth : Method} {c : Code} {H : Heap} {locs : List Loc} {ls : Array Slot} {D : va_G} {T : Nat → ClassId} {σ : Mem} {z b k0 n0 : Nat} {Q : State → Prop} {n i y u w : Int} (l : Launch) (hst0 : l.stackTraces = false) (hx : p.tables.exec = Jvm.exec) (hb : c.code = cL_law) (hml : c.maxLocals = 23) (hown : s.vm.findClass RL = some m.cls) (hts : ∀ w ∈ Gw, w.before #[Value.ref b] s = true) (hv : Xv s) (hT : hol T < z) (G : Wd D T z 133 σ s H locs) (hG : GI n σ) (hn : 0 ≤ n ∧ n ≤ 800) (hi : 0 ≤ i ∧ i ≤ 44) (hy : 0 ≤ y ∧ y ≤ 2147483647) (hu : u = y / 16) (hw : w = y % 16) (h1 : w = 7) (hc0 : k0 + 20 ≤ 600130 ∧ n0 + 120 ≤ 7301079) (hl : lv_has ls 23 [(0, .ref b), (1, .ref (z + 0)), (2, .int (kI 1)), (3, .int (kI i)), (4, .int (kI y)), (5, .int (kI u)), (6, .int (kI w)), (7, .int (kI (σ 15 1))), (8, .int (kI (u % 2))), (9, .int (kI (u / 4 % 8))), (10, .int (kI (σ 2 0))), (11, .int (kI (atr σ (u % 2)))), (12, .int (kI (kor σ (u % 2) 2))), (13, .int (kI (σ 9 (u % 2)))), (14, .int (kI (σ 12 (u % 2)))), (15, .int (kI (σ 4 (u % 2 * 16 + u / 4 % 8)))), (16, .int (kI (σ 5 (u % 2 * 16 + u / 4 % 8)))), (17, .int (kI (pok σ (u % 2) (u / 4 % 8) 3))), (18, .int (kI (jud σ (u % 2) (u / 4 % 8) (1 + u / 32 % 4)))), (19, .int (kI (σ 14 1))), (20, .int (kI (σ 14 2)))]) (kk : ∀ (σ1 : Mem) (H1 : Heap) (locs1 : List Loc) (ls1 : Array Slot), Wd D T z 133 σ1 s H1 locs1 → GI (n + 1) σ1 → lv_has ls1 23 [(3, .int (kI i)), (2, .int (kI 1)), (1, .ref (z + 0)), (0, .ref b), (8, .int (kI (u % 2)))] → W p l e room_1 s m #[Value.ref b] below meth c H1 locs1 (k0 + 20) (n0 + 120) Q (F0 m 882 ls1 [])) : W p l e room_1 s m #[Value.ref b] below meth c H locs k0 n0 Q (F0 m 276 ls []) := by
  have hC : ∀ {a b : Nat}, a ≤ 600130 → b ≤ 7301079 → a ≤ room_1.cells ∧ b ≤ room_1.slots := fun h1 h2 => ⟨h1, h2⟩
  have hk4 : 0 ≤ u % 2 ∧ u % 2 < 4 := by omega
  have hx16 : 0 ≤ u / 4 % 8 ∧ u / 4 % 8 < 16 := by omega
  have hxw : 0 ≤ u / 4 % 16 ∧ u / 4 % 16 < 16 := by omega
  have hu0 : 0 ≤ u ∧ u ≤ 134217727 := by omega
  have hz := hG.z
  have hd := hG.i.ic.1
  have hday := hG.i.2.1
  have har := atr_rg (σ := σ) (k := u % 2)
  have hkr := kor_rg (σ := σ) (k := u % 2) (n := 2) (by decide)
  have hac := hG.i.ac hk4
  unfold ACk at hac
  have hky := hG.i.rg hk4 hx16
  have hpk := pok_c (σ := σ) (k := u % 2) (y := u / 4 % 8)
  have hjr := jud_rg (σ := σ) (k := u % 2) (y := u / 4 % 8) (q := 1 + u / 32 % 4)
  have hse := hG.s.2
  have hsea := hG.i.ic.2.1 (u % 2) hk4.1 hk4.2
  refine lv_aload_n hx hb dL_law_276 rfl (lv_at hl 1 rfl) ?_
  refine lv_iload hx hb dL_law_277 (lv_at hl 4 rfl) ?_
  refine r_callK (na := 2) (own := RL) ⟨hx, hb, hml, hown, hts⟩ hT G hv (k_L_acts_fol l hst0 hG (by omega) hy hu (show y % 16 = 7 by omega) ) (cSx hts qM_L_167 qS_L_acts qN_L qC_L_acts (by decide +kernel) ⟨Nat.le_of_ble_eq_true rfl, Nat.le_of_ble_eq_true rfl⟩) rfl rfl hl.1 rfl (Nat.le_of_ble_eq_true rfl) dL_law_279 (hC (by omega) (by omega)) (fun H locs G => ?_)
  obtain ⟨τ, hτ⟩ : ∃ τ, τ = nfo (pus σ) (jud (pus σ) (u % 2) (u / 4 % 8) (1 + u / 32 % 4)) := ⟨_, rfl⟩
  rw [← hτ] at G
  refine r_name (fun to hto => ?_)
  have hA := af_y (k := u % 2) (y := u / 4 % 8) (q := 1 + u / 32 % 4) (w := jud (pus σ) (u % 2) (u / 4 % 8) (1 + u / 32 % 4)) hG (by omega)
  rw [← hτ] at hA
  obtain ⟨a0, aG, a15⟩ := hA
  rw [a0] at hto
  have hjc := jud_c (σ := σ) (k := u % 2) (y := u / 4 % 8) (q := 1 + u / 32 % 4)
  refine lv_istore (lv' := [(21, .int (kI to)), (0, .ref b), (1, .ref (z + 0)), (2, .int (kI 1)), (3, .int (kI i)), (4, .int (kI y)), (5, .int (kI u)), (6, .int (kI w)), (7, .int (kI (σ 15 1))), (8, .int (kI (u % 2))), (9, .int (kI (u / 4 % 8))), (10, .int (kI (σ 2 0))), (11, .int (kI (atr σ (u % 2)))), (12, .int (kI (kor σ (u % 2) 2))), (13, .int (kI (σ 9 (u % 2)))), (14, .int (kI (σ 12 (u % 2)))), (15, .int (kI (σ 4 (u % 2 * 16 + u / 4 % 8)))), (16, .int (kI (σ 5 (u % 2 * 16 + u / 4 % 8)))), (17, .int (kI (pok σ (u % 2) (u / 4 % 8) 3))), (18, .int (kI (jud σ (u % 2) (u / 4 % 8) (1 + u / 32 % 4)))), (19, .int (kI (σ 14 1))), (20, .int (kI (σ 14 2)))]) hx hb dL_law_282 hl (by decide) rfl (fun ls hl => ?_)
  refine lv_iload hx hb dL_law_284 (lv_at hl 0 rfl) ?_
  refine r_ldc (n := -2000000) hx hb hts hown qCon_L_170 (by decide) dL_law_286 ?_
  refine r_icmp_le (tgt := 295) hx hb ⟨by omega, by omega⟩ ⟨by decide, by decide⟩ dL_law_288 (by decide) (fun h_1 => absurd h_1 (by omega)) (fun h_1 => ?_)
  refine r_iconst hx hb dL_law_291 ?_
  refine lv_goto (tgt := 296) hx hb dL_law_292 (by decide) ?_
  refine lv_istore (lv' := [(22, .int (kI 1)), (21, .int (kI to)), (0, .ref b), (1, .ref (z + 0)), (2, .int (kI 1)), (3, .int (kI i)), (4, .int (kI y)), (5, .int (kI u)), (6, .int (kI w)), (7, .int (kI (σ 15 1))), (8, .int (kI (u % 2))), (9, .int (kI (u / 4 % 8))), (10, .int (kI (σ 2 0))), (11, .int (kI (atr σ (u % 2)))), (12, .int (kI (kor σ (u % 2) 2))), (13, .int (kI (σ 9 (u % 2)))), (14, .int (kI (σ 12 (u % 2)))), (15, .int (kI (σ 4 (u % 2 * 16 + u / 4 % 8)))), (16, .int (kI (σ 5 (u % 2 * 16 + u / 4 % 8)))), (17, .int (kI (pok σ (u % 2) (u / 4 % 8) 3))), (18, .int (kI (jud σ (u % 2) (u / 4 % 8) (1 + u / 32 % 4)))), (19, .int (kI (σ 14 1))), (20, .int (kI (σ 14 2)))]) hx hb dL_law_296 hl (by decide) rfl (fun ls hl => ?_)
  refine lv_aload_n hx hb dL_law_298 rfl (lv_at hl 3 rfl) ?_
  refine r_bipush hx hb dL_law_299 (by decide +kernel) ?_
  refine r_callW (na := 2) (own := RL) ⟨hx, hb, hml, hown, hts⟩ G hv (k_L_count_y l hst0 (σ := τ) (w := 9) ⟨by omega, by omega⟩ (aG.s) (by omega)) qC_L_count qM_L_138 qS_L_count qN_L (by decide +kernel) ⟨Nat.le_of_ble_eq_true rfl, Nat.le_of_ble_eq_true rfl⟩ rfl rfl hl.1 rfl (Nat.le_of_ble_eq_true rfl) dL_law_301 (hC (by omega) (by omega)) (fun H locs G => ?_)
  refine r_top (b := τ 15 1) (rfl) ?_
  refine lv_iload hx hb dL_law_304 (lv_at hl 0 rfl) ?_
  refine r_if_eq (tgt := 330) hx hb ⟨by decide, by decide⟩ dL_law_306 (by decide) (fun h_2 => absurd h_2 (by decide)) (fun _ => ?_)
  refine lv_iload hx hb dL_law_309 (lv_at hl 8 rfl) ?_
  refine r_iconst hx hb dL_law_311 ?_
  refine r_icmp_ne (tgt := 323) hx hb ⟨by omega, by omega⟩ ⟨by decide, by decide⟩ dL_law_312 (by decide) (fun h_3 => ?_) (fun h_3 => absurd h_3 (by omega))
  have jn342 : ∀ (_ : Unit), ∀ (H : Heap) (locs : List Loc) (k1 n1 : Nat), (k1 : Int) ≤ k0 + 4 → (n1 : Int) ≤ n0 + 24 → Wd D T z 133 τ s H locs → ∀ (ls : Array Slot), lv_has ls 23 [(22, .int (kI 1)), (21, .int (kI to)), (0, .ref b), (1, .ref (z + 0)), (2, .int (kI 1)), (3, .int (kI i)), (4, .int (kI y)), (5, .int (kI u)), (6, .int (kI w)), (7, .int (kI (σ 15 1))), (8, .int (kI (u % 2))), (9, .int (kI (u / 4 % 8))), (10, .int (kI (σ 2 0))), (11, .int (kI (atr σ (u % 2)))), (12, .int (kI (kor σ (u % 2) 2))), (13, .int (kI (σ 9 (u % 2)))), (14, .int (kI (σ 12 (u % 2)))), (15, .int (kI (σ 4 (u % 2 * 16 + u / 4 % 8)))), (16, .int (kI (σ 5 (u % 2 * 16 + u / 4 % 8)))), (17, .int (kI (pok σ (u % 2) (u / 4 % 8) 3))), (18, .int (kI (jud σ (u % 2) (u / 4 % 8) (1 + u / 32 % 4)))), (19, .int (kI (σ 14 1))), (20, .int (kI (σ 14 2)))] → W p l e room_1 s m #[Value.ref b] below meth c H locs k1 n1 Q (F0 m 342 ls []) := by
    intro _  H locs k1 n1 hk1 hn1 G ls hl
    refine r_iconst hx hb dL_law_342 ?_
    refine lv_goto (tgt := 347) hx hb dL_law_343 (by decide) ?_
    refine lv_istore_n (lv' := [(2, .int (kI 1)), (22, .int (kI 1)), (21, .int (kI to)), (0, .ref b), (1, .ref (z + 0)), (3, .int (kI i)), (4, .int (kI y)), (5, .int (kI u)), (6, .int (kI w)), (7, .int (kI (σ 15 1))), (8, .int (kI (u % 2))), (9, .int (kI (u / 4 % 8))), (10, .int (kI (σ 2 0))), (11, .int (kI (atr σ (u % 2)))), (12, .int (kI (kor σ (u % 2) 2))), (13, .int (kI (σ 9 (u % 2)))), (14, .int (kI (σ 12 (u % 2)))), (15, .int (kI (σ 4 (u % 2 * 16 + u / 4 % 8)))), (16, .int (kI (σ 5 (u % 2 * 16 + u / 4 % 8)))), (17, .int (kI (pok σ (u % 2) (u / 4 % 8) 3))), (18, .int (kI (jud σ (u % 2) (u / 4 % 8) (1 + u / 32 % 4)))), (19, .int (kI (σ 14 1))), (20, .int (kI (σ 14 2)))]) hx hb dL_law_347 rfl hl (by decide) rfl (fun ls hl => ?_)
    refine lv_iload_n hx hb dL_law_348 rfl (lv_at hl 0 rfl) ?_
    refine r_if_eq (tgt := 464) hx hb ⟨by decide, by decide⟩ dL_law_349 (by decide) (fun h_4 => absurd h_4 (by decide)) (fun _ => ?_)
    refine lv_iload hx hb dL_law_352 (lv_at hl 8 rfl) ?_
    refine r_bipush hx hb dL_law_354 (by decide +kernel) ?_
    refine r_icmp_le (tgt := 464) hx hb ⟨by omega, by omega⟩ ⟨by decide, by decide⟩ dL_law_356 (by decide) (fun h_5 => ?_) (fun h_5 => absurd h_5 (by omega))
    refine lv_iload_n hx hb dL_law_464 rfl (lv_at hl 0 rfl) ?_
    refine r_if_eq (tgt := 575) hx hb ⟨by decide, by decide⟩ dL_law_465 (by decide) (fun h_6 => absurd h_6 (by decide)) (fun _ => ?_)
    refine lv_iload hx hb dL_law_468 (lv_at hl 8 rfl) ?_
    refine r_bipush hx hb dL_law_470 (by decide +kernel) ?_
    refine r_icmp_le (tgt := 575) hx hb ⟨by omega, by omega⟩ ⟨by decide, by decide⟩ dL_law_472 (by decide) (fun h_7 => ?_) (fun h_7 => absurd h_7 (by omega))
    refine lv_iload_n hx hb dL_law_575 rfl (lv_at hl 0 rfl) ?_
    refine r_if_eq (tgt := 656) hx hb ⟨by decide, by decide⟩ dL_law_576 (by decide) (fun h_8 => absurd h_8 (by decide)) (fun _ => ?_)
    refine lv_iload hx hb dL_law_579 (lv_at hl 8 rfl) ?_
    refine r_iconst hx hb dL_law_581 ?_
    refine r_icmp_ne (tgt := 656) hx hb ⟨by omega, by omega⟩ ⟨by decide, by decide⟩ dL_law_582 (by decide) (fun h_9 => ?_) (fun h_9 => absurd h_9 (by omega))
    refine lv_iload_n hx hb dL_law_656 rfl (lv_at hl 0 rfl) ?_
    refine r_if_eq (tgt := 731) hx hb ⟨by decide, by decide⟩ dL_law_657 (by decide) (fun h_10 => absurd h_10 (by decide)) (fun _ => ?_)
    refine lv_iload hx hb dL_law_660 (lv_at hl 8 rfl) ?_
    refine r_bipush hx hb dL_law_662 (by decide +kernel) ?_
    refine r_icmp_ne (tgt := 731) hx hb ⟨by omega, by omega⟩ ⟨by decide, by decide⟩ dL_law_664 (by decide) (fun h_11 => absurd h_11 (by omega)) (fun h_11 => ?_)
    refine lv_iload hx hb dL_law_667 (lv_at hl 2 rfl) ?_
    refine lv_iload hx hb dL_law_669 (lv_at hl 20 rfl) ?_
    refine r_icmp_ne (tgt := 726) hx hb ⟨by omega, by omega⟩ ⟨by omega, by omega⟩ dL_law_671 (by decide) (fun h_12 => absurd h_12 (by omega)) (fun h_12 => ?_)
    refine lv_iload hx hb dL_law_674 (lv_at hl 20 rfl) ?_
    refine lv_iload hx hb dL_law_676 (lv_at hl 17 rfl) ?_
    refine r_iconst hx hb dL_law_678 ?_
    refine r_icmp_ne (tgt := 696) hx hb ⟨by omega, by omega⟩ ⟨by decide, by decide⟩ dL_law_679 (by decide) (fun h_13 => ?_) (fun h_13 => ?_)
    · skip
      refine r_iconst hx hb dL_law_696 ?_
      refine lv_goto (tgt := 719) hx hb dL_law_697 (by decide) ?_
      refine r_icmp_ne (tgt := 726) hx hb ⟨by omega, by omega⟩ ⟨by decide, by decide⟩ dL_law_719 (by decide) (fun h_14 => absurd h_14 (by omega)) (fun h_14 => ?_)
      refine r_iconst hx hb dL_law_722 ?_
      refine lv_goto (tgt := 727) hx hb dL_law_723 (by decide) ?_
      refine lv_istore_n (lv' := [(2, .int (kI 1)), (22, .int (kI 1)), (21, .int (kI to)), (0, .ref b), (1, .ref (z + 0)), (3, .int (kI i)), (4, .int (kI y)), (5, .int (kI u)), (6, .int (kI w)), (7, .int (kI (σ 15 1))), (8, .int (kI (u % 2))), (9, .int (kI (u / 4 % 8))), (10, .int (kI (σ 2 0))), (11, .int (kI (atr σ (u % 2)))), (12, .int (kI (kor σ (u % 2) 2))), (13, .int (kI (σ 9 (u % 2)))), (14, .int (kI (σ 12 (u % 2)))), (15, .int (kI (σ 4 (u % 2 * 16 + u / 4 % 8)))), (16, .int (kI (σ 5 (u % 2 * 16 + u / 4 % 8)))), (17, .int (kI (pok σ (u % 2) (u / 4 % 8) 3))), (18, .int (kI (jud σ (u % 2) (u / 4 % 8) (1 + u / 32 % 4)))), (19, .int (kI (σ 14 1))), (20, .int (kI (σ 14 2)))]) hx hb dL_law_727 rfl hl (by decide) rfl (fun ls hl => ?_)
      refine lv_goto (tgt := 882) hx hb dL_law_728 (by decide) ?_
      exact W.widen (k := k0 + 20) (n := n0 + 120) (by omega) (by omega) (kk τ _ _ _ G aG (lv_sub hl [5, 0, 4, 3, 10] rfl))
    · skip
      refine lv_iload hx hb dL_law_682 (lv_at hl 18 rfl) ?_
      refine r_iconst hx hb dL_law_684 ?_
      refine lv_iload hx hb dL_law_685 (lv_at hl 7 rfl) ?_
      refine r_bipush hx hb dL_law_687 (by decide +kernel) ?_
      refine r_idiv hx hb dL_law_689 (by omega) (by omega) (by omega) (by omega) ?_
      refine r_iconst hx hb dL_law_690 ?_
      refine r_irem hx hb dL_law_691 (by omega) (by omega) (by omega) (by omega) ?_
      refine r_iadd hx hb dL_law_692 ?_
      refine r_icmp_ge (tgt := 700) hx hb ⟨by omega, by omega⟩ ⟨by omega, by omega⟩ dL_law_693 (by decide) (fun h_15 => ?_) (fun h_15 => ?_)
      · skip
        refine lv_iload hx hb dL_law_700 (lv_at hl 18 rfl) ?_
        refine r_iconst hx hb dL_law_702 ?_
        refine lv_iload hx hb dL_law_703 (lv_at hl 7 rfl) ?_
        refine r_bipush hx hb dL_law_705 (by decide +kernel) ?_
        refine r_idiv hx hb dL_law_707 (by omega) (by omega) (by omega) (by omega) ?_
        refine r_iconst hx hb dL_law_708 ?_
        refine r_irem hx hb dL_law_709 (by omega) (by omega) (by omega) (by omega) ?_
        refine r_iadd hx hb dL_law_710 ?_
        refine r_icmp_ne (tgt := 718) hx hb ⟨by omega, by omega⟩ ⟨by omega, by omega⟩ dL_law_711 (by decide) (fun h_16 => ?_) (fun h_16 => ?_)
        · skip
          refine r_iconst hx hb dL_law_718 ?_
          refine r_icmp_ne (tgt := 726) hx hb ⟨by omega, by omega⟩ ⟨by decide, by decide⟩ dL_law_719 (by decide) (fun h_17 => absurd h_17 (by omega)) (fun h_17 => ?_)
          refine r_iconst hx hb dL_law_722 ?_
          refine lv_goto (tgt := 727) hx hb dL_law_723 (by decide) ?_
          refine lv_istore_n (lv' := [(2, .int (kI 1)), (22, .int (kI 1)), (21, .int (kI to)), (0, .ref b), (1, .ref (z + 0)), (3, .int (kI i)), (4, .int (kI y)), (5, .int (kI u)), (6, .int (kI w)), (7, .int (kI (σ 15 1))), (8, .int (kI (u % 2))), (9, .int (kI (u / 4 % 8))), (10, .int (kI (σ 2 0))), (11, .int (kI (atr σ (u % 2)))), (12, .int (kI (kor σ (u % 2) 2))), (13, .int (kI (σ 9 (u % 2)))), (14, .int (kI (σ 12 (u % 2)))), (15, .int (kI (σ 4 (u % 2 * 16 + u / 4 % 8)))), (16, .int (kI (σ 5 (u % 2 * 16 + u / 4 % 8)))), (17, .int (kI (pok σ (u % 2) (u / 4 % 8) 3))), (18, .int (kI (jud σ (u % 2) (u / 4 % 8) (1 + u / 32 % 4)))), (19, .int (kI (σ 14 1))), (20, .int (kI (σ 14 2)))]) hx hb dL_law_727 rfl hl (by decide) rfl (fun ls hl => ?_)
          refine lv_goto (tgt := 882) hx hb dL_law_728 (by decide) ?_
          exact W.widen (k := k0 + 20) (n := n0 + 120) (by omega) (by omega) (kk τ _ _ _ G aG (lv_sub hl [5, 0, 4, 3, 10] rfl))
        · skip
          refine r_iconst hx hb dL_law_714 ?_
          refine lv_goto (tgt := 719) hx hb dL_law_715 (by decide) ?_
          refine r_icmp_ne (tgt := 726) hx hb ⟨by omega, by omega⟩ ⟨by decide, by decide⟩ dL_law_719 (by decide) (fun h_18 => absurd h_18 (by omega)) (fun h_18 => ?_)
          refine r_iconst hx hb dL_law_722 ?_
          refine lv_goto (tgt := 727) hx hb dL_law_723 (by decide) ?_
          refine lv_istore_n (lv' := [(2, .int (kI 1)), (22, .int (kI 1)), (21, .int (kI to)), (0, .ref b), (1, .ref (z + 0)), (3, .int (kI i)), (4, .int (kI y)), (5, .int (kI u)), (6, .int (kI w)), (7, .int (kI (σ 15 1))), (8, .int (kI (u % 2))), (9, .int (kI (u / 4 % 8))), (10, .int (kI (σ 2 0))), (11, .int (kI (atr σ (u % 2)))), (12, .int (kI (kor σ (u % 2) 2))), (13, .int (kI (σ 9 (u % 2)))), (14, .int (kI (σ 12 (u % 2)))), (15, .int (kI (σ 4 (u % 2 * 16 + u / 4 % 8)))), (16, .int (kI (σ 5 (u % 2 * 16 + u / 4 % 8)))), (17, .int (kI (pok σ (u % 2) (u / 4 % 8) 3))), (18, .int (kI (jud σ (u % 2) (u / 4 % 8) (1 + u / 32 % 4)))), (19, .int (kI (σ 14 1))), (20, .int (kI (σ 14 2)))]) hx hb dL_law_727 rfl hl (by decide) rfl (fun ls hl => ?_)
          refine lv_goto (tgt := 882) hx hb dL_law_728 (by decide) ?_
          exact W.widen (k := k0 + 20) (n := n0 + 120) (by omega) (by omega) (kk τ _ _ _ G aG (lv_sub hl [5, 0, 4, 3, 10] rfl))
      · skip
        refine r_iconst hx hb dL_law_696 ?_
        refine lv_goto (tgt := 719) hx hb dL_law_697 (by decide) ?_
        refine r_icmp_ne (tgt := 726) hx hb ⟨by omega, by omega⟩ ⟨by decide, by decide⟩ dL_law_719 (by decide) (fun h_19 => absurd h_19 (by omega)) (fun h_19 => ?_)
        refine r_iconst hx hb dL_law_722 ?_
        refine lv_goto (tgt := 727) hx hb dL_law_723 (by decide) ?_
        refine lv_istore_n (lv' := [(2, .int (kI 1)), (22, .int (kI 1)), (21, .int (kI to)), (0, .ref b), (1, .ref (z + 0)), (3, .int (kI i)), (4, .int (kI y)), (5, .int (kI u)), (6, .int (kI w)), (7, .int (kI (σ 15 1))), (8, .int (kI (u % 2))), (9, .int (kI (u / 4 % 8))), (10, .int (kI (σ 2 0))), (11, .int (kI (atr σ (u % 2)))), (12, .int (kI (kor σ (u % 2) 2))), (13, .int (kI (σ 9 (u % 2)))), (14, .int (kI (σ 12 (u % 2)))), (15, .int (kI (σ 4 (u % 2 * 16 + u / 4 % 8)))), (16, .int (kI (σ 5 (u % 2 * 16 + u / 4 % 8)))), (17, .int (kI (pok σ (u % 2) (u / 4 % 8) 3))), (18, .int (kI (jud σ (u % 2) (u / 4 % 8) (1 + u / 32 % 4)))), (19, .int (kI (σ 14 1))), (20, .int (kI (σ 14 2)))]) hx hb dL_law_727 rfl hl (by decide) rfl (fun ls hl => ?_)
        refine lv_goto (tgt := 882) hx hb dL_law_728 (by decide) ?_
        exact W.widen (k := k0 + 20) (n := n0 + 120) (by omega) (by omega) (kk τ _ _ _ G aG (lv_sub hl [5, 0, 4, 3, 10] rfl))
  refine lv_iload hx hb dL_law_323 (lv_at hl 9 rfl) ?_
  refine r_bipush hx hb dL_law_325 (by decide +kernel) ?_
  refine r_icmp_ne (tgt := 335) hx hb ⟨by omega, by omega⟩ ⟨by decide, by decide⟩ dL_law_327 (by decide) (fun h_20 => ?_) (fun h_20 => ?_)
  · skip
    refine lv_iload hx hb dL_law_335 (lv_at hl 9 rfl) ?_
    refine r_iconst hx hb dL_law_337 ?_
    refine r_iadd hx hb dL_law_338 ?_
    refine r_icmp_ne (tgt := 346) hx hb ⟨by omega, by omega⟩ ⟨by omega, by omega⟩ dL_law_339 (by decide) (fun h_21 => absurd h_21 (by omega)) (fun h_21 => ?_)
    exact jn342 ()  _ _ _ _ (by omega) (by omega) G _ (lv_sub hl [0, 1, 2, 3, 4, 5, 6, 7, 8, 9, 10, 11, 12, 13, 14, 15, 16, 17, 18, 19, 20, 21, 22] rfl)
  · skip
    refine lv_iload hx hb dL_law_330 (lv_at hl 9 rfl) ?_
    refine lv_goto (tgt := 339) hx hb dL_law_332 (by decide) ?_
    refine r_icmp_ne (tgt := 346) hx hb ⟨by omega, by omega⟩ ⟨by omega, by omega⟩ dL_law_339 (by decide) (fun h_22 => absurd h_22 (by omega)) (fun h_22 => ?_)
    exact jn342 ()  _ _ _ _ (by omega) (by omega) G _ (lv_sub hl [0, 1, 2, 3, 4, 5, 6, 7, 8, 9, 10, 11, 12, 13, 14, 15, 16, 17, 18, 19, 20, 21, 22] rfl)
set_option maxRecDepth 100000 in
set_option maxHeartbeats 4000000 in
theorem lw_pas {p : Program} {e : Env} {s : State} {m : MethodId} {below : List Frame} {meth : Method} {c : Code} {H : Heap} {locs : List Loc} {ls : Array Slot} {D : va_G} {T : Nat → ClassId} {σ : Mem} {z b k0 n0 : Nat} {Q : State → Prop} {n i y u w : Int} (l : Launch) (hst0 : l.stackTraces = false) (hx : p.tables.exec = Jvm.exec) (hb : c.code = cL_law) (hml : c.maxLocals = 23) (hown : s.vm.findClass RL = some m.cls) (hts : ∀ w ∈ Gw, w.before #[Value.ref b] s = true) (hv : Xv s) (hT : hol T < z) (G : Wd D T z 133 σ s H locs) (hG : GI n σ) (hn : 0 ≤ n ∧ n ≤ 800) (hi : 0 ≤ i ∧ i ≤ 44) (hy : 0 ≤ y ∧ y ≤ 2147483647) (hu : u = y / 16) (hw : w = y % 16) (h1 : 5 ≤ w ∧ w ≤ 6) (hc0 : k0 + 20 ≤ 600130 ∧ n0 + 120 ≤ 7301079) (hl : lv_has ls 23 [(0, .ref b), (1, .ref (z + 0)), (2, .int (kI 1)), (3, .int (kI i)), (4, .int (kI y)), (5, .int (kI u)), (6, .int (kI w)), (7, .int (kI (σ 15 1))), (8, .int (kI (u % 2))), (9, .int (kI (u / 4 % 8))), (10, .int (kI (σ 2 0))), (11, .int (kI (atr σ (u % 2)))), (12, .int (kI (kor σ (u % 2) 2))), (13, .int (kI (σ 9 (u % 2)))), (14, .int (kI (σ 12 (u % 2)))), (15, .int (kI (σ 4 (u % 2 * 16 + u / 4 % 8)))), (16, .int (kI (σ 5 (u % 2 * 16 + u / 4 % 8)))), (17, .int (kI (pok σ (u % 2) (u / 4 % 8) 3))), (18, .int (kI (jud σ (u % 2) (u / 4 % 8) (1 + u / 32 % 4)))), (19, .int (kI (σ 14 1))), (20, .int (kI (σ 14 2)))]) (kk : ∀ (σ1 : Mem) (H1 : Heap) (locs1 : List Loc) (ls1 : Array Slot), Wd D T z 133 σ1 s H1 locs1 → GI (n + 1) σ1 → lv_has ls1 23 [(3, .int (kI i)), (2, .int (kI 1)), (1, .ref (z + 0)), (0, .ref b), (8, .int (kI (u % 2)))] → W p l e room_1 s m #[Value.ref b] below meth c H1 locs1 (k0 + 20) (n0 + 120) Q (F0 m 882 ls1 [])) : W p l e room_1 s m #[Value.ref b] below meth c H locs k0 n0 Q (F0 m 276 ls []) := by
  have hC : ∀ {a b : Nat}, a ≤ 600130 → b ≤ 7301079 → a ≤ room_1.cells ∧ b ≤ room_1.slots := fun h1 h2 => ⟨h1, h2⟩
  have hk4 : 0 ≤ u % 2 ∧ u % 2 < 4 := by omega
  have hx16 : 0 ≤ u / 4 % 8 ∧ u / 4 % 8 < 16 := by omega
  have hxw : 0 ≤ u / 4 % 16 ∧ u / 4 % 16 < 16 := by omega
  have hu0 : 0 ≤ u ∧ u ≤ 134217727 := by omega
  have hz := hG.z
  have hd := hG.i.ic.1
  have hday := hG.i.2.1
  have har := atr_rg (σ := σ) (k := u % 2)
  have hkr := kor_rg (σ := σ) (k := u % 2) (n := 2) (by decide)
  have hac := hG.i.ac hk4
  unfold ACk at hac
  have hky := hG.i.rg hk4 hx16
  have hpk := pok_c (σ := σ) (k := u % 2) (y := u / 4 % 8)
  have hjr := jud_rg (σ := σ) (k := u % 2) (y := u / 4 % 8) (q := 1 + u / 32 % 4)
  have hse := hG.s.2
  have hsea := hG.i.ic.2.1 (u % 2) hk4.1 hk4.2
  refine lv_aload_n hx hb dL_law_276 rfl (lv_at hl 1 rfl) ?_
  refine lv_iload hx hb dL_law_277 (lv_at hl 4 rfl) ?_
  refine r_callK (na := 2) (own := RL) ⟨hx, hb, hml, hown, hts⟩ hT G hv (k_L_acts_pas l hst0 hG (by omega) hy hu (show 5 ≤ y % 16 ∧ y % 16 ≤ 6 by omega) ) (cSx hts qM_L_167 qS_L_acts qN_L qC_L_acts (by decide +kernel) ⟨Nat.le_of_ble_eq_true rfl, Nat.le_of_ble_eq_true rfl⟩) rfl rfl hl.1 rfl (Nat.le_of_ble_eq_true rfl) dL_law_279 (hC (by omega) (by omega)) (fun H locs G => ?_)
  obtain ⟨τ, hτ⟩ : ∃ τ, τ = up (pus σ) 2 0 (pus σ 2 0 + (1 + u % 5)) := ⟨_, rfl⟩
  rw [← hτ] at G
  refine r_name (fun to hto => ?_)
  have hA := ap_y (q := 1 + u % 5) hG (by omega) (by omega)
  rw [← hτ] at hA
  obtain ⟨aG, a15, a2⟩ := hA
  rw [← hτ] at hto
  have hrr := hra_rg (σ := τ)
  have hdt := aG.i.ic.1
  refine lv_istore (lv' := [(21, .int (kI to)), (0, .ref b), (1, .ref (z + 0)), (2, .int (kI 1)), (3, .int (kI i)), (4, .int (kI y)), (5, .int (kI u)), (6, .int (kI w)), (7, .int (kI (σ 15 1))), (8, .int (kI (u % 2))), (9, .int (kI (u / 4 % 8))), (10, .int (kI (σ 2 0))), (11, .int (kI (atr σ (u % 2)))), (12, .int (kI (kor σ (u % 2) 2))), (13, .int (kI (σ 9 (u % 2)))), (14, .int (kI (σ 12 (u % 2)))), (15, .int (kI (σ 4 (u % 2 * 16 + u / 4 % 8)))), (16, .int (kI (σ 5 (u % 2 * 16 + u / 4 % 8)))), (17, .int (kI (pok σ (u % 2) (u / 4 % 8) 3))), (18, .int (kI (jud σ (u % 2) (u / 4 % 8) (1 + u / 32 % 4)))), (19, .int (kI (σ 14 1))), (20, .int (kI (σ 14 2)))]) hx hb dL_law_282 hl (by decide) rfl (fun ls hl => ?_)
  refine lv_iload hx hb dL_law_284 (lv_at hl 0 rfl) ?_
  refine r_ldc (n := -2000000) hx hb hts hown qCon_L_170 (by decide) dL_law_286 ?_
  refine r_icmp_le (tgt := 295) hx hb ⟨by omega, by omega⟩ ⟨by decide, by decide⟩ dL_law_288 (by decide) (fun h_1 => absurd h_1 (by omega)) (fun h_1 => ?_)
  refine r_iconst hx hb dL_law_291 ?_
  refine lv_goto (tgt := 296) hx hb dL_law_292 (by decide) ?_
  refine lv_istore (lv' := [(22, .int (kI 1)), (21, .int (kI to)), (0, .ref b), (1, .ref (z + 0)), (2, .int (kI 1)), (3, .int (kI i)), (4, .int (kI y)), (5, .int (kI u)), (6, .int (kI w)), (7, .int (kI (σ 15 1))), (8, .int (kI (u % 2))), (9, .int (kI (u / 4 % 8))), (10, .int (kI (σ 2 0))), (11, .int (kI (atr σ (u % 2)))), (12, .int (kI (kor σ (u % 2) 2))), (13, .int (kI (σ 9 (u % 2)))), (14, .int (kI (σ 12 (u % 2)))), (15, .int (kI (σ 4 (u % 2 * 16 + u / 4 % 8)))), (16, .int (kI (σ 5 (u % 2 * 16 + u / 4 % 8)))), (17, .int (kI (pok σ (u % 2) (u / 4 % 8) 3))), (18, .int (kI (jud σ (u % 2) (u / 4 % 8) (1 + u / 32 % 4)))), (19, .int (kI (σ 14 1))), (20, .int (kI (σ 14 2)))]) hx hb dL_law_296 hl (by decide) rfl (fun ls hl => ?_)
  refine lv_aload_n hx hb dL_law_298 rfl (lv_at hl 3 rfl) ?_
  refine r_bipush hx hb dL_law_299 (by decide +kernel) ?_
  refine r_callW (na := 2) (own := RL) ⟨hx, hb, hml, hown, hts⟩ G hv (k_L_count_y l hst0 (σ := τ) (w := 9) ⟨by omega, by omega⟩ (aG.s) (by omega)) qC_L_count qM_L_138 qS_L_count qN_L (by decide +kernel) ⟨Nat.le_of_ble_eq_true rfl, Nat.le_of_ble_eq_true rfl⟩ rfl rfl hl.1 rfl (Nat.le_of_ble_eq_true rfl) dL_law_301 (hC (by omega) (by omega)) (fun H locs G => ?_)
  refine r_top (b := τ 15 1) (rfl) ?_
  refine lv_iload hx hb dL_law_304 (lv_at hl 0 rfl) ?_
  refine r_if_eq (tgt := 330) hx hb ⟨by decide, by decide⟩ dL_law_306 (by decide) (fun h_2 => absurd h_2 (by decide)) (fun _ => ?_)
  refine lv_iload hx hb dL_law_309 (lv_at hl 8 rfl) ?_
  refine r_iconst hx hb dL_law_311 ?_
  refine r_icmp_ne (tgt := 323) hx hb ⟨by omega, by omega⟩ ⟨by decide, by decide⟩ dL_law_312 (by decide) (fun h_3 => ?_) (fun h_3 => absurd h_3 (by omega))
  have jn342 : ∀ (_ : Unit), ∀ (H : Heap) (locs : List Loc) (k1 n1 : Nat), (k1 : Int) ≤ k0 + 4 → (n1 : Int) ≤ n0 + 24 → Wd D T z 133 τ s H locs → ∀ (ls : Array Slot), lv_has ls 23 [(22, .int (kI 1)), (21, .int (kI to)), (0, .ref b), (1, .ref (z + 0)), (2, .int (kI 1)), (3, .int (kI i)), (4, .int (kI y)), (5, .int (kI u)), (6, .int (kI w)), (7, .int (kI (σ 15 1))), (8, .int (kI (u % 2))), (9, .int (kI (u / 4 % 8))), (10, .int (kI (σ 2 0))), (11, .int (kI (atr σ (u % 2)))), (12, .int (kI (kor σ (u % 2) 2))), (13, .int (kI (σ 9 (u % 2)))), (14, .int (kI (σ 12 (u % 2)))), (15, .int (kI (σ 4 (u % 2 * 16 + u / 4 % 8)))), (16, .int (kI (σ 5 (u % 2 * 16 + u / 4 % 8)))), (17, .int (kI (pok σ (u % 2) (u / 4 % 8) 3))), (18, .int (kI (jud σ (u % 2) (u / 4 % 8) (1 + u / 32 % 4)))), (19, .int (kI (σ 14 1))), (20, .int (kI (σ 14 2)))] → W p l e room_1 s m #[Value.ref b] below meth c H locs k1 n1 Q (F0 m 342 ls []) := by
    intro _  H locs k1 n1 hk1 hn1 G ls hl
    refine r_iconst hx hb dL_law_342 ?_
    refine lv_goto (tgt := 347) hx hb dL_law_343 (by decide) ?_
    refine lv_istore_n (lv' := [(2, .int (kI 1)), (22, .int (kI 1)), (21, .int (kI to)), (0, .ref b), (1, .ref (z + 0)), (3, .int (kI i)), (4, .int (kI y)), (5, .int (kI u)), (6, .int (kI w)), (7, .int (kI (σ 15 1))), (8, .int (kI (u % 2))), (9, .int (kI (u / 4 % 8))), (10, .int (kI (σ 2 0))), (11, .int (kI (atr σ (u % 2)))), (12, .int (kI (kor σ (u % 2) 2))), (13, .int (kI (σ 9 (u % 2)))), (14, .int (kI (σ 12 (u % 2)))), (15, .int (kI (σ 4 (u % 2 * 16 + u / 4 % 8)))), (16, .int (kI (σ 5 (u % 2 * 16 + u / 4 % 8)))), (17, .int (kI (pok σ (u % 2) (u / 4 % 8) 3))), (18, .int (kI (jud σ (u % 2) (u / 4 % 8) (1 + u / 32 % 4)))), (19, .int (kI (σ 14 1))), (20, .int (kI (σ 14 2)))]) hx hb dL_law_347 rfl hl (by decide) rfl (fun ls hl => ?_)
    refine lv_iload_n hx hb dL_law_348 rfl (lv_at hl 0 rfl) ?_
    refine r_if_eq (tgt := 464) hx hb ⟨by decide, by decide⟩ dL_law_349 (by decide) (fun h_4 => absurd h_4 (by decide)) (fun _ => ?_)
    refine lv_iload hx hb dL_law_352 (lv_at hl 8 rfl) ?_
    refine r_bipush hx hb dL_law_354 (by decide +kernel) ?_
    refine r_icmp_le (tgt := 464) hx hb ⟨by omega, by omega⟩ ⟨by decide, by decide⟩ dL_law_356 (by decide) (fun h_5 => ?_) (fun h_5 => absurd h_5 (by omega))
    refine lv_iload_n hx hb dL_law_464 rfl (lv_at hl 0 rfl) ?_
    refine r_if_eq (tgt := 575) hx hb ⟨by decide, by decide⟩ dL_law_465 (by decide) (fun h_6 => absurd h_6 (by decide)) (fun _ => ?_)
    refine lv_iload hx hb dL_law_468 (lv_at hl 8 rfl) ?_
    refine r_bipush hx hb dL_law_470 (by decide +kernel) ?_
    refine r_icmp_le (tgt := 575) hx hb ⟨by omega, by omega⟩ ⟨by decide, by decide⟩ dL_law_472 (by decide) (fun h_7 => ?_) (fun h_7 => absurd h_7 (by omega))
    refine lv_iload_n hx hb dL_law_575 rfl (lv_at hl 0 rfl) ?_
    refine r_if_eq (tgt := 656) hx hb ⟨by decide, by decide⟩ dL_law_576 (by decide) (fun h_8 => absurd h_8 (by decide)) (fun _ => ?_)
    refine lv_iload hx hb dL_law_579 (lv_at hl 8 rfl) ?_
    refine r_iconst hx hb dL_law_581 ?_
    refine r_icmp_ne (tgt := 656) hx hb ⟨by omega, by omega⟩ ⟨by decide, by decide⟩ dL_law_582 (by decide) (fun h_9 => ?_) (fun h_9 => absurd h_9 (by omega))
    refine lv_iload_n hx hb dL_law_656 rfl (lv_at hl 0 rfl) ?_
    refine r_if_eq (tgt := 731) hx hb ⟨by decide, by decide⟩ dL_law_657 (by decide) (fun h_10 => absurd h_10 (by decide)) (fun _ => ?_)
    refine lv_iload hx hb dL_law_660 (lv_at hl 8 rfl) ?_
    refine r_bipush hx hb dL_law_662 (by decide +kernel) ?_
    refine r_icmp_ne (tgt := 731) hx hb ⟨by omega, by omega⟩ ⟨by decide, by decide⟩ dL_law_664 (by decide) (fun h_11 => ?_) (fun h_11 => absurd h_11 (by omega))
    refine lv_iload_n hx hb dL_law_731 rfl (lv_at hl 0 rfl) ?_
    refine r_if_eq (tgt := 784) hx hb ⟨by decide, by decide⟩ dL_law_732 (by decide) (fun h_12 => absurd h_12 (by decide)) (fun _ => ?_)
    have jn748 : ∀ (_ : Unit), ∀ (H : Heap) (locs : List Loc) (k1 n1 : Nat), (k1 : Int) ≤ k0 + 4 → (n1 : Int) ≤ n0 + 24 → Wd D T z 133 τ s H locs → ∀ (ls : Array Slot), lv_has ls 23 [(2, .int (kI 1)), (22, .int (kI 1)), (21, .int (kI to)), (0, .ref b), (1, .ref (z + 0)), (3, .int (kI i)), (4, .int (kI y)), (5, .int (kI u)), (6, .int (kI w)), (7, .int (kI (σ 15 1))), (8, .int (kI (u % 2))), (9, .int (kI (u / 4 % 8))), (10, .int (kI (σ 2 0))), (11, .int (kI (atr σ (u % 2)))), (12, .int (kI (kor σ (u % 2) 2))), (13, .int (kI (σ 9 (u % 2)))), (14, .int (kI (σ 12 (u % 2)))), (15, .int (kI (σ 4 (u % 2 * 16 + u / 4 % 8)))), (16, .int (kI (σ 5 (u % 2 * 16 + u / 4 % 8)))), (17, .int (kI (pok σ (u % 2) (u / 4 % 8) 3))), (18, .int (kI (jud σ (u % 2) (u / 4 % 8) (1 + u / 32 % 4)))), (19, .int (kI (σ 14 1))), (20, .int (kI (σ 14 2)))] → W p l e room_1 s m #[Value.ref b] below meth c H locs k1 n1 Q (F0 m 748 ls []) := by
      intro _  H locs k1 n1 hk1 hn1 G ls hl
      refine lv_iload hx hb dL_law_748 (lv_at hl 2 rfl) ?_
      refine lv_aload_n hx hb dL_law_750 rfl (lv_at hl 4 rfl) ?_
      refine r_iconst hx hb dL_law_751 ?_
      refine r_callW (na := 2) (own := RL) ⟨hx, hb, hml, hown, hts⟩ G hv (k_L_count_y l hst0 (σ := τ) (w := 4) ⟨by omega, by omega⟩ (aG.s) (by omega)) qC_L_count qM_L_138 qS_L_count qN_L (by decide +kernel) ⟨Nat.le_of_ble_eq_true rfl, Nat.le_of_ble_eq_true rfl⟩ rfl rfl hl.1 rfl (Nat.le_of_ble_eq_true rfl) dL_law_752 (hC (by omega) (by omega)) (fun H locs G => ?_)
      refine r_top (b := hra τ) (rfl) ?_
      refine r_icmp_ne (tgt := 779) hx hb ⟨by omega, by omega⟩ ⟨by omega, by omega⟩ dL_law_755 (by decide) (fun h_13 => absurd h_13 (by omega)) (fun h_13 => ?_)
      refine lv_aload_n hx hb dL_law_758 rfl (lv_at hl 4 rfl) ?_
      refine r_iconst hx hb dL_law_759 ?_
      refine r_callW (na := 2) (own := RL) ⟨hx, hb, hml, hown, hts⟩ G hv (k_L_count_y l hst0 (σ := τ) (w := 0) ⟨by omega, by omega⟩ (aG.s) (by omega)) qC_L_count qM_L_138 qS_L_count qN_L (by decide +kernel) ⟨Nat.le_of_ble_eq_true rfl, Nat.le_of_ble_eq_true rfl⟩ rfl rfl hl.1 rfl (Nat.le_of_ble_eq_true rfl) dL_law_760 (hC (by omega) (by omega)) (fun H locs G => ?_)
      refine r_top (b := τ 2 0) (rfl) ?_
      refine lv_iload hx hb dL_law_763 (lv_at hl 12 rfl) ?_
      refine r_iconst hx hb dL_law_765 ?_
      refine r_iadd hx hb dL_law_766 ?_
      refine lv_iload hx hb dL_law_767 (lv_at hl 7 rfl) ?_
      refine r_iconst hx hb dL_law_769 ?_
      refine r_irem hx hb dL_law_770 (by omega) (by omega) (by omega) (by omega) ?_
      refine r_iadd hx hb dL_law_771 ?_
      refine r_icmp_ne (tgt := 779) hx hb ⟨by omega, by omega⟩ ⟨by omega, by omega⟩ dL_law_772 (by decide) (fun h_14 => absurd h_14 (by omega)) (fun h_14 => ?_)
      refine r_iconst hx hb dL_law_775 ?_
      refine lv_goto (tgt := 780) hx hb dL_law_776 (by decide) ?_
      refine lv_istore_n (lv' := [(2, .int (kI 1)), (22, .int (kI 1)), (21, .int (kI to)), (0, .ref b), (1, .ref (z + 0)), (3, .int (kI i)), (4, .int (kI y)), (5, .int (kI u)), (6, .int (kI w)), (7, .int (kI (σ 15 1))), (8, .int (kI (u % 2))), (9, .int (kI (u / 4 % 8))), (10, .int (kI (σ 2 0))), (11, .int (kI (atr σ (u % 2)))), (12, .int (kI (kor σ (u % 2) 2))), (13, .int (kI (σ 9 (u % 2)))), (14, .int (kI (σ 12 (u % 2)))), (15, .int (kI (σ 4 (u % 2 * 16 + u / 4 % 8)))), (16, .int (kI (σ 5 (u % 2 * 16 + u / 4 % 8)))), (17, .int (kI (pok σ (u % 2) (u / 4 % 8) 3))), (18, .int (kI (jud σ (u % 2) (u / 4 % 8) (1 + u / 32 % 4)))), (19, .int (kI (σ 14 1))), (20, .int (kI (σ 14 2)))]) hx hb dL_law_780 rfl hl (by decide) rfl (fun ls hl => ?_)
      refine lv_goto (tgt := 882) hx hb dL_law_781 (by decide) ?_
      exact W.widen (k := k0 + 20) (n := n0 + 120) (by omega) (by omega) (kk τ _ _ _ G aG (lv_sub hl [5, 0, 4, 3, 10] rfl))
    refine lv_iload hx hb dL_law_735 (lv_at hl 8 rfl) ?_
    refine r_iconst hx hb dL_law_737 ?_
    refine r_icmp_eq (tgt := 748) hx hb ⟨by omega, by omega⟩ ⟨by decide, by decide⟩ dL_law_738 (by decide) (fun h_15 => ?_) (fun h_15 => ?_)
    · skip
      exact jn748 ()  _ _ _ _ (by omega) (by omega) G _ (lv_sub hl [0, 1, 2, 3, 4, 5, 6, 7, 8, 9, 10, 11, 12, 13, 14, 15, 16, 17, 18, 19, 20, 21, 22] rfl)
    · skip
      refine lv_iload hx hb dL_law_741 (lv_at hl 8 rfl) ?_
      refine r_bipush hx hb dL_law_743 (by decide +kernel) ?_
      refine r_icmp_ne (tgt := 784) hx hb ⟨by omega, by omega⟩ ⟨by decide, by decide⟩ dL_law_745 (by decide) (fun h_16 => absurd h_16 (by omega)) (fun h_16 => ?_)
      exact jn748 ()  _ _ _ _ (by omega) (by omega) G _ (lv_sub hl [0, 1, 2, 3, 4, 5, 6, 7, 8, 9, 10, 11, 12, 13, 14, 15, 16, 17, 18, 19, 20, 21, 22] rfl)
  refine lv_iload hx hb dL_law_323 (lv_at hl 9 rfl) ?_
  refine r_bipush hx hb dL_law_325 (by decide +kernel) ?_
  refine r_icmp_ne (tgt := 335) hx hb ⟨by omega, by omega⟩ ⟨by decide, by decide⟩ dL_law_327 (by decide) (fun h_17 => ?_) (fun h_17 => ?_)
  · skip
    refine lv_iload hx hb dL_law_335 (lv_at hl 9 rfl) ?_
    refine r_iconst hx hb dL_law_337 ?_
    refine r_iadd hx hb dL_law_338 ?_
    refine r_icmp_ne (tgt := 346) hx hb ⟨by omega, by omega⟩ ⟨by omega, by omega⟩ dL_law_339 (by decide) (fun h_18 => absurd h_18 (by omega)) (fun h_18 => ?_)
    exact jn342 ()  _ _ _ _ (by omega) (by omega) G _ (lv_sub hl [0, 1, 2, 3, 4, 5, 6, 7, 8, 9, 10, 11, 12, 13, 14, 15, 16, 17, 18, 19, 20, 21, 22] rfl)
  · skip
    refine lv_iload hx hb dL_law_330 (lv_at hl 9 rfl) ?_
    refine lv_goto (tgt := 339) hx hb dL_law_332 (by decide) ?_
    refine r_icmp_ne (tgt := 346) hx hb ⟨by omega, by omega⟩ ⟨by omega, by omega⟩ dL_law_339 (by decide) (fun h_19 => absurd h_19 (by omega)) (fun h_19 => ?_)
    exact jn342 ()  _ _ _ _ (by omega) (by omega) G _ (lv_sub hl [0, 1, 2, 3, 4, 5, 6, 7, 8, 9, 10, 11, 12, 13, 14, 15, 16, 17, 18, 19, 20, 21, 22] rfl)
set_option maxRecDepth 100000 in
set_option maxHeartbeats 4000000 in
theorem lw_wang {p : Program} {e : Env} {s : State} {m : MethodId} {below : List Frame} {meth : Method} {c : Code} {H : Heap} {locs : List Loc} {ls : Array Slot} {D : va_G} {T : Nat → ClassId} {σ : Mem} {z b k0 n0 : Nat} {Q : State → Prop} {n i y u w : Int} (l : Launch) (hst0 : l.stackTraces = false) (hx : p.tables.exec = Jvm.exec) (hb : c.code = cL_law) (hml : c.maxLocals = 23) (hown : s.vm.findClass RL = some m.cls) (hts : ∀ w ∈ Gw, w.before #[Value.ref b] s = true) (hv : Xv s) (hT : hol T < z) (G : Wd D T z 133 σ s H locs) (hG : GI n σ) (hn : 0 ≤ n ∧ n ≤ 800) (hi : 0 ≤ i ∧ i ≤ 44) (hy : 0 ≤ y ∧ y ≤ 2147483647) (hu : u = y / 16) (hw : w = y % 16) (h1 : w = 3) (hra : rag (pus σ) (u % 2) (u / 4 % 16) = 0) (hc0 : k0 + 20 ≤ 600130 ∧ n0 + 120 ≤ 7301079) (hl : lv_has ls 23 [(0, .ref b), (1, .ref (z + 0)), (2, .int (kI 1)), (3, .int (kI i)), (4, .int (kI y)), (5, .int (kI u)), (6, .int (kI w)), (7, .int (kI (σ 15 1))), (8, .int (kI (u % 2))), (9, .int (kI (u / 4 % 8))), (10, .int (kI (σ 2 0))), (11, .int (kI (atr σ (u % 2)))), (12, .int (kI (kor σ (u % 2) 2))), (13, .int (kI (σ 9 (u % 2)))), (14, .int (kI (σ 12 (u % 2)))), (15, .int (kI (σ 4 (u % 2 * 16 + u / 4 % 8)))), (16, .int (kI (σ 5 (u % 2 * 16 + u / 4 % 8)))), (17, .int (kI (pok σ (u % 2) (u / 4 % 8) 3))), (18, .int (kI (jud σ (u % 2) (u / 4 % 8) (1 + u / 32 % 4)))), (19, .int (kI (σ 14 1))), (20, .int (kI (σ 14 2)))]) (kk : ∀ (σ1 : Mem) (H1 : Heap) (locs1 : List Loc) (ls1 : Array Slot), Wd D T z 133 σ1 s H1 locs1 → GI (n + 1) σ1 → lv_has ls1 23 [(3, .int (kI i)), (2, .int (kI 1)), (1, .ref (z + 0)), (0, .ref b), (8, .int (kI (u % 2)))] → W p l e room_1 s m #[Value.ref b] below meth c H1 locs1 (k0 + 20) (n0 + 120) Q (F0 m 882 ls1 [])) : W p l e room_1 s m #[Value.ref b] below meth c H locs k0 n0 Q (F0 m 276 ls []) := by
  have hC : ∀ {a b : Nat}, a ≤ 600130 → b ≤ 7301079 → a ≤ room_1.cells ∧ b ≤ room_1.slots := fun h1 h2 => ⟨h1, h2⟩
  have hk4 : 0 ≤ u % 2 ∧ u % 2 < 4 := by omega
  have hx16 : 0 ≤ u / 4 % 8 ∧ u / 4 % 8 < 16 := by omega
  have hxw : 0 ≤ u / 4 % 16 ∧ u / 4 % 16 < 16 := by omega
  have hu0 : 0 ≤ u ∧ u ≤ 134217727 := by omega
  have hz := hG.z
  have hd := hG.i.ic.1
  have hday := hG.i.2.1
  have har := atr_rg (σ := σ) (k := u % 2)
  have hkr := kor_rg (σ := σ) (k := u % 2) (n := 2) (by decide)
  have hac := hG.i.ac hk4
  unfold ACk at hac
  have hky := hG.i.rg hk4 hx16
  have hpk := pok_c (σ := σ) (k := u % 2) (y := u / 4 % 8)
  have hjr := jud_rg (σ := σ) (k := u % 2) (y := u / 4 % 8) (q := 1 + u / 32 % 4)
  have hse := hG.s.2
  have hsea := hG.i.ic.2.1 (u % 2) hk4.1 hk4.2
  refine lv_aload_n hx hb dL_law_276 rfl (lv_at hl 1 rfl) ?_
  refine lv_iload hx hb dL_law_277 (lv_at hl 4 rfl) ?_
  refine r_callK (na := 2) (own := RL) ⟨hx, hb, hml, hown, hts⟩ hT G hv (k_L_acts_wan l hst0 hG (by omega) hy hu (show y % 16 = 3 by omega) ) (cSx hts qM_L_167 qS_L_acts qN_L qC_L_acts (by decide +kernel) ⟨Nat.le_of_ble_eq_true rfl, Nat.le_of_ble_eq_true rfl⟩) rfl rfl hl.1 rfl (Nat.le_of_ble_eq_true rfl) dL_law_279 (hC (by omega) (by omega)) (fun H locs G => ?_)
  obtain ⟨τ, hτ⟩ : ∃ τ, τ = svw (pus σ) (u % 2) (u / 4 % 16) := ⟨_, rfl⟩
  rw [← hτ] at G
  refine r_name (fun to hto => ?_)
  have hA := aw_g hG (by omega) hk4 hxw hra
  rw [← hτ] at hA
  obtain ⟨a0, a8, aG, a15, a9, a4, a5⟩ := hA
  rw [a0] at hto
  have hkw := hG.i.rg hk4 hxw
  refine lv_istore (lv' := [(21, .int (kI to)), (0, .ref b), (1, .ref (z + 0)), (2, .int (kI 1)), (3, .int (kI i)), (4, .int (kI y)), (5, .int (kI u)), (6, .int (kI w)), (7, .int (kI (σ 15 1))), (8, .int (kI (u % 2))), (9, .int (kI (u / 4 % 8))), (10, .int (kI (σ 2 0))), (11, .int (kI (atr σ (u % 2)))), (12, .int (kI (kor σ (u % 2) 2))), (13, .int (kI (σ 9 (u % 2)))), (14, .int (kI (σ 12 (u % 2)))), (15, .int (kI (σ 4 (u % 2 * 16 + u / 4 % 8)))), (16, .int (kI (σ 5 (u % 2 * 16 + u / 4 % 8)))), (17, .int (kI (pok σ (u % 2) (u / 4 % 8) 3))), (18, .int (kI (jud σ (u % 2) (u / 4 % 8) (1 + u / 32 % 4)))), (19, .int (kI (σ 14 1))), (20, .int (kI (σ 14 2)))]) hx hb dL_law_282 hl (by decide) rfl (fun ls hl => ?_)
  refine lv_iload hx hb dL_law_284 (lv_at hl 0 rfl) ?_
  refine r_ldc (n := -2000000) hx hb hts hown qCon_L_170 (by decide) dL_law_286 ?_
  refine r_icmp_le (tgt := 295) hx hb ⟨by omega, by omega⟩ ⟨by decide, by decide⟩ dL_law_288 (by decide) (fun h_1 => absurd h_1 (by omega)) (fun h_1 => ?_)
  refine r_iconst hx hb dL_law_291 ?_
  refine lv_goto (tgt := 296) hx hb dL_law_292 (by decide) ?_
  refine lv_istore (lv' := [(22, .int (kI 1)), (21, .int (kI to)), (0, .ref b), (1, .ref (z + 0)), (2, .int (kI 1)), (3, .int (kI i)), (4, .int (kI y)), (5, .int (kI u)), (6, .int (kI w)), (7, .int (kI (σ 15 1))), (8, .int (kI (u % 2))), (9, .int (kI (u / 4 % 8))), (10, .int (kI (σ 2 0))), (11, .int (kI (atr σ (u % 2)))), (12, .int (kI (kor σ (u % 2) 2))), (13, .int (kI (σ 9 (u % 2)))), (14, .int (kI (σ 12 (u % 2)))), (15, .int (kI (σ 4 (u % 2 * 16 + u / 4 % 8)))), (16, .int (kI (σ 5 (u % 2 * 16 + u / 4 % 8)))), (17, .int (kI (pok σ (u % 2) (u / 4 % 8) 3))), (18, .int (kI (jud σ (u % 2) (u / 4 % 8) (1 + u / 32 % 4)))), (19, .int (kI (σ 14 1))), (20, .int (kI (σ 14 2)))]) hx hb dL_law_296 hl (by decide) rfl (fun ls hl => ?_)
  refine lv_aload_n hx hb dL_law_298 rfl (lv_at hl 3 rfl) ?_
  refine r_bipush hx hb dL_law_299 (by decide +kernel) ?_
  refine r_callW (na := 2) (own := RL) ⟨hx, hb, hml, hown, hts⟩ G hv (k_L_count_y l hst0 (σ := τ) (w := 9) ⟨by omega, by omega⟩ (aG.s) (by omega)) qC_L_count qM_L_138 qS_L_count qN_L (by decide +kernel) ⟨Nat.le_of_ble_eq_true rfl, Nat.le_of_ble_eq_true rfl⟩ rfl rfl hl.1 rfl (Nat.le_of_ble_eq_true rfl) dL_law_301 (hC (by omega) (by omega)) (fun H locs G => ?_)
  refine r_top (b := τ 15 1) (rfl) ?_
  refine lv_iload hx hb dL_law_304 (lv_at hl 0 rfl) ?_
  refine r_if_eq (tgt := 330) hx hb ⟨by decide, by decide⟩ dL_law_306 (by decide) (fun h_2 => absurd h_2 (by decide)) (fun _ => ?_)
  refine lv_iload hx hb dL_law_309 (lv_at hl 8 rfl) ?_
  refine r_iconst hx hb dL_law_311 ?_
  refine r_icmp_ne (tgt := 323) hx hb ⟨by omega, by omega⟩ ⟨by decide, by decide⟩ dL_law_312 (by decide) (fun h_3 => ?_) (fun h_3 => absurd h_3 (by omega))
  have jn342 : ∀ (_ : Unit), ∀ (H : Heap) (locs : List Loc) (k1 n1 : Nat), (k1 : Int) ≤ k0 + 4 → (n1 : Int) ≤ n0 + 24 → Wd D T z 133 τ s H locs → ∀ (ls : Array Slot), lv_has ls 23 [(22, .int (kI 1)), (21, .int (kI to)), (0, .ref b), (1, .ref (z + 0)), (2, .int (kI 1)), (3, .int (kI i)), (4, .int (kI y)), (5, .int (kI u)), (6, .int (kI w)), (7, .int (kI (σ 15 1))), (8, .int (kI (u % 2))), (9, .int (kI (u / 4 % 8))), (10, .int (kI (σ 2 0))), (11, .int (kI (atr σ (u % 2)))), (12, .int (kI (kor σ (u % 2) 2))), (13, .int (kI (σ 9 (u % 2)))), (14, .int (kI (σ 12 (u % 2)))), (15, .int (kI (σ 4 (u % 2 * 16 + u / 4 % 8)))), (16, .int (kI (σ 5 (u % 2 * 16 + u / 4 % 8)))), (17, .int (kI (pok σ (u % 2) (u / 4 % 8) 3))), (18, .int (kI (jud σ (u % 2) (u / 4 % 8) (1 + u / 32 % 4)))), (19, .int (kI (σ 14 1))), (20, .int (kI (σ 14 2)))] → W p l e room_1 s m #[Value.ref b] below meth c H locs k1 n1 Q (F0 m 342 ls []) := by
    intro _  H locs k1 n1 hk1 hn1 G ls hl
    refine r_iconst hx hb dL_law_342 ?_
    refine lv_goto (tgt := 347) hx hb dL_law_343 (by decide) ?_
    refine lv_istore_n (lv' := [(2, .int (kI 1)), (22, .int (kI 1)), (21, .int (kI to)), (0, .ref b), (1, .ref (z + 0)), (3, .int (kI i)), (4, .int (kI y)), (5, .int (kI u)), (6, .int (kI w)), (7, .int (kI (σ 15 1))), (8, .int (kI (u % 2))), (9, .int (kI (u / 4 % 8))), (10, .int (kI (σ 2 0))), (11, .int (kI (atr σ (u % 2)))), (12, .int (kI (kor σ (u % 2) 2))), (13, .int (kI (σ 9 (u % 2)))), (14, .int (kI (σ 12 (u % 2)))), (15, .int (kI (σ 4 (u % 2 * 16 + u / 4 % 8)))), (16, .int (kI (σ 5 (u % 2 * 16 + u / 4 % 8)))), (17, .int (kI (pok σ (u % 2) (u / 4 % 8) 3))), (18, .int (kI (jud σ (u % 2) (u / 4 % 8) (1 + u / 32 % 4)))), (19, .int (kI (σ 14 1))), (20, .int (kI (σ 14 2)))]) hx hb dL_law_347 rfl hl (by decide) rfl (fun ls hl => ?_)
    refine lv_iload_n hx hb dL_law_348 rfl (lv_at hl 0 rfl) ?_
    refine r_if_eq (tgt := 464) hx hb ⟨by decide, by decide⟩ dL_law_349 (by decide) (fun h_4 => absurd h_4 (by decide)) (fun _ => ?_)
    refine lv_iload hx hb dL_law_352 (lv_at hl 8 rfl) ?_
    refine r_bipush hx hb dL_law_354 (by decide +kernel) ?_
    refine r_icmp_le (tgt := 464) hx hb ⟨by omega, by omega⟩ ⟨by decide, by decide⟩ dL_law_356 (by decide) (fun h_5 => ?_) (fun h_5 => absurd h_5 (by omega))
    refine lv_iload_n hx hb dL_law_464 rfl (lv_at hl 0 rfl) ?_
    refine r_if_eq (tgt := 575) hx hb ⟨by decide, by decide⟩ dL_law_465 (by decide) (fun h_6 => absurd h_6 (by decide)) (fun _ => ?_)
    refine lv_iload hx hb dL_law_468 (lv_at hl 8 rfl) ?_
    refine r_bipush hx hb dL_law_470 (by decide +kernel) ?_
    refine r_icmp_le (tgt := 575) hx hb ⟨by omega, by omega⟩ ⟨by decide, by decide⟩ dL_law_472 (by decide) (fun h_7 => ?_) (fun h_7 => absurd h_7 (by omega))
    refine lv_iload_n hx hb dL_law_575 rfl (lv_at hl 0 rfl) ?_
    refine r_if_eq (tgt := 656) hx hb ⟨by decide, by decide⟩ dL_law_576 (by decide) (fun h_8 => absurd h_8 (by decide)) (fun _ => ?_)
    refine lv_iload hx hb dL_law_579 (lv_at hl 8 rfl) ?_
    refine r_iconst hx hb dL_law_581 ?_
    refine r_icmp_ne (tgt := 656) hx hb ⟨by omega, by omega⟩ ⟨by decide, by decide⟩ dL_law_582 (by decide) (fun h_9 => ?_) (fun h_9 => absurd h_9 (by omega))
    refine lv_iload_n hx hb dL_law_656 rfl (lv_at hl 0 rfl) ?_
    refine r_if_eq (tgt := 731) hx hb ⟨by decide, by decide⟩ dL_law_657 (by decide) (fun h_10 => absurd h_10 (by decide)) (fun _ => ?_)
    refine lv_iload hx hb dL_law_660 (lv_at hl 8 rfl) ?_
    refine r_bipush hx hb dL_law_662 (by decide +kernel) ?_
    refine r_icmp_ne (tgt := 731) hx hb ⟨by omega, by omega⟩ ⟨by decide, by decide⟩ dL_law_664 (by decide) (fun h_11 => ?_) (fun h_11 => absurd h_11 (by omega))
    refine lv_iload_n hx hb dL_law_731 rfl (lv_at hl 0 rfl) ?_
    refine r_if_eq (tgt := 784) hx hb ⟨by decide, by decide⟩ dL_law_732 (by decide) (fun h_12 => absurd h_12 (by decide)) (fun _ => ?_)
    refine lv_iload hx hb dL_law_735 (lv_at hl 8 rfl) ?_
    refine r_iconst hx hb dL_law_737 ?_
    refine r_icmp_eq (tgt := 748) hx hb ⟨by omega, by omega⟩ ⟨by decide, by decide⟩ dL_law_738 (by decide) (fun h_13 => absurd h_13 (by omega)) (fun h_13 => ?_)
    refine lv_iload hx hb dL_law_741 (lv_at hl 8 rfl) ?_
    refine r_bipush hx hb dL_law_743 (by decide +kernel) ?_
    refine r_icmp_ne (tgt := 784) hx hb ⟨by omega, by omega⟩ ⟨by decide, by decide⟩ dL_law_745 (by decide) (fun h_14 => ?_) (fun h_14 => absurd h_14 (by omega))
    refine lv_iload_n hx hb dL_law_784 rfl (lv_at hl 0 rfl) ?_
    refine r_if_eq (tgt := 882) hx hb ⟨by decide, by decide⟩ dL_law_785 (by decide) (fun h_15 => absurd h_15 (by decide)) (fun _ => ?_)
    refine lv_iload hx hb dL_law_788 (lv_at hl 8 rfl) ?_
    refine r_iconst hx hb dL_law_790 ?_
    refine r_icmp_ne (tgt := 882) hx hb ⟨by omega, by omega⟩ ⟨by decide, by decide⟩ dL_law_791 (by decide) (fun h_16 => absurd h_16 (by omega)) (fun h_16 => ?_)
    refine lv_iload hx hb dL_law_794 (lv_at hl 2 rfl) ?_
    refine r_bipush hx hb dL_law_796 (by decide +kernel) ?_
    refine r_icmp_le (tgt := 824) hx hb ⟨by omega, by omega⟩ ⟨by decide, by decide⟩ dL_law_798 (by decide) (fun h_17 => ?_) (fun h_17 => absurd h_17 (by omega))
    refine lv_aload_n hx hb dL_law_824 rfl (lv_at hl 4 rfl) ?_
    refine lv_iload hx hb dL_law_825 (lv_at hl 10 rfl) ?_
    refine lv_iload hx hb dL_law_827 (lv_at hl 7 rfl) ?_
    refine r_iconst hx hb dL_law_829 ?_
    refine r_idiv hx hb dL_law_830 (by omega) (by omega) (by omega) (by omega) ?_
    refine r_bipush hx hb dL_law_831 (by decide +kernel) ?_
    refine r_irem hx hb dL_law_833 (by omega) (by omega) (by omega) (by omega) ?_
    refine r_iconst hx hb dL_law_834 ?_
    refine r_callW (na := 4) (own := RL) ⟨hx, hb, hml, hown, hts⟩ G hv (k_L_keyOf_y l hst0 (σ := τ) (k := u % 2) (y := u / 4 % 16) (w := 1) ⟨by omega, by omega⟩ ⟨by omega, by omega⟩ ⟨by omega, by omega⟩ (aG.s) ⟨⟨by omega, by omega⟩, by omega, by omega⟩ (by omega)) qC_L_keyOf qM_L_124 qS_L_keyOf qN_L (by decide +kernel) ⟨Nat.le_of_ble_eq_true rfl, Nat.le_of_ble_eq_true rfl⟩ rfl rfl hl.1 rfl (Nat.le_of_ble_eq_true rfl) dL_law_835 (hC (by omega) (by omega)) (fun H locs G => ?_)
    refine r_top (b := τ 5 (u % 2 * 16 + u / 4 % 16)) (pok_1) ?_
    refine lv_iload hx hb dL_law_838 (lv_at hl 2 rfl) ?_
    refine r_icmp_ne (tgt := 880) hx hb ⟨by omega, by omega⟩ ⟨by omega, by omega⟩ dL_law_840 (by decide) (fun h_18 => absurd h_18 (by omega)) (fun h_18 => ?_)
    refine lv_aload_n hx hb dL_law_843 rfl (lv_at hl 4 rfl) ?_
    refine lv_iload hx hb dL_law_844 (lv_at hl 10 rfl) ?_
    refine lv_iload hx hb dL_law_846 (lv_at hl 7 rfl) ?_
    refine r_iconst hx hb dL_law_848 ?_
    refine r_idiv hx hb dL_law_849 (by omega) (by omega) (by omega) (by omega) ?_
    refine r_bipush hx hb dL_law_850 (by decide +kernel) ?_
    refine r_irem hx hb dL_law_852 (by omega) (by omega) (by omega) (by omega) ?_
    refine r_iconst hx hb dL_law_853 ?_
    refine r_callW (na := 4) (own := RL) ⟨hx, hb, hml, hown, hts⟩ G hv (k_L_keyOf_y l hst0 (σ := τ) (k := u % 2) (y := u / 4 % 16) (w := 0) ⟨by omega, by omega⟩ ⟨by omega, by omega⟩ ⟨by omega, by omega⟩ (aG.s) ⟨⟨by omega, by omega⟩, by omega, by omega⟩ (by omega)) qC_L_keyOf qM_L_124 qS_L_keyOf qN_L (by decide +kernel) ⟨Nat.le_of_ble_eq_true rfl, Nat.le_of_ble_eq_true rfl⟩ rfl rfl hl.1 rfl (Nat.le_of_ble_eq_true rfl) dL_law_854 (hC (by omega) (by omega)) (fun H locs G => ?_)
    refine r_top (b := τ 4 (u % 2 * 16 + u / 4 % 16)) (pok_0) ?_
    refine r_iconst hx hb dL_law_857 ?_
    refine r_icmp_ne (tgt := 880) hx hb ⟨by omega, by omega⟩ ⟨by decide, by decide⟩ dL_law_858 (by decide) (fun h_19 => absurd h_19 (by omega)) (fun h_19 => ?_)
    refine lv_aload_n hx hb dL_law_861 rfl (lv_at hl 4 rfl) ?_
    refine lv_iload hx hb dL_law_862 (lv_at hl 10 rfl) ?_
    refine r_bipush hx hb dL_law_864 (by decide +kernel) ?_
    refine r_callW (na := 3) (own := RL) ⟨hx, hb, hml, hown, hts⟩ G hv (k_L_kindOf_y l hst0 (σ := τ) (k := u % 2) (w := 6) ⟨by omega, by omega⟩ ⟨by omega, by omega⟩ (aG.s) ⟨by omega, by omega⟩ (by omega)) qC_L_kindOf qM_L_122 qS_L_kindOf qN_L (by decide +kernel) ⟨Nat.le_of_ble_eq_true rfl, Nat.le_of_ble_eq_true rfl⟩ rfl rfl hl.1 rfl (Nat.le_of_ble_eq_true rfl) dL_law_866 (hC (by omega) (by omega)) (fun H locs G => ?_)
    refine r_top (b := τ 9 (u % 2)) (rfl) ?_
    refine lv_iload hx hb dL_law_869 (lv_at hl 15 rfl) ?_
    refine r_iconst hx hb dL_law_871 ?_
    refine r_iadd hx hb dL_law_872 ?_
    refine r_icmp_ne (tgt := 880) hx hb ⟨by omega, by omega⟩ ⟨by omega, by omega⟩ dL_law_873 (by decide) (fun h_20 => absurd h_20 (by omega)) (fun h_20 => ?_)
    refine r_iconst hx hb dL_law_876 ?_
    refine lv_goto (tgt := 881) hx hb dL_law_877 (by decide) ?_
    refine lv_istore_n (lv' := [(2, .int (kI 1)), (22, .int (kI 1)), (21, .int (kI to)), (0, .ref b), (1, .ref (z + 0)), (3, .int (kI i)), (4, .int (kI y)), (5, .int (kI u)), (6, .int (kI w)), (7, .int (kI (σ 15 1))), (8, .int (kI (u % 2))), (9, .int (kI (u / 4 % 8))), (10, .int (kI (σ 2 0))), (11, .int (kI (atr σ (u % 2)))), (12, .int (kI (kor σ (u % 2) 2))), (13, .int (kI (σ 9 (u % 2)))), (14, .int (kI (σ 12 (u % 2)))), (15, .int (kI (σ 4 (u % 2 * 16 + u / 4 % 8)))), (16, .int (kI (σ 5 (u % 2 * 16 + u / 4 % 8)))), (17, .int (kI (pok σ (u % 2) (u / 4 % 8) 3))), (18, .int (kI (jud σ (u % 2) (u / 4 % 8) (1 + u / 32 % 4)))), (19, .int (kI (σ 14 1))), (20, .int (kI (σ 14 2)))]) hx hb dL_law_881 rfl hl (by decide) rfl (fun ls hl => ?_)
    exact W.widen (k := k0 + 20) (n := n0 + 120) (by omega) (by omega) (kk τ _ _ _ G aG (lv_sub hl [5, 0, 4, 3, 10] rfl))
  refine lv_iload hx hb dL_law_323 (lv_at hl 9 rfl) ?_
  refine r_bipush hx hb dL_law_325 (by decide +kernel) ?_
  refine r_icmp_ne (tgt := 335) hx hb ⟨by omega, by omega⟩ ⟨by decide, by decide⟩ dL_law_327 (by decide) (fun h_21 => ?_) (fun h_21 => ?_)
  · skip
    refine lv_iload hx hb dL_law_335 (lv_at hl 9 rfl) ?_
    refine r_iconst hx hb dL_law_337 ?_
    refine r_iadd hx hb dL_law_338 ?_
    refine r_icmp_ne (tgt := 346) hx hb ⟨by omega, by omega⟩ ⟨by omega, by omega⟩ dL_law_339 (by decide) (fun h_22 => absurd h_22 (by omega)) (fun h_22 => ?_)
    exact jn342 ()  _ _ _ _ (by omega) (by omega) G _ (lv_sub hl [0, 1, 2, 3, 4, 5, 6, 7, 8, 9, 10, 11, 12, 13, 14, 15, 16, 17, 18, 19, 20, 21, 22] rfl)
  · skip
    refine lv_iload hx hb dL_law_330 (lv_at hl 9 rfl) ?_
    refine lv_goto (tgt := 339) hx hb dL_law_332 (by decide) ?_
    refine r_icmp_ne (tgt := 346) hx hb ⟨by omega, by omega⟩ ⟨by omega, by omega⟩ dL_law_339 (by decide) (fun h_23 => absurd h_23 (by omega)) (fun h_23 => ?_)
    exact jn342 ()  _ _ _ _ (by omega) (by omega) G _ (lv_sub hl [0, 1, 2, 3, 4, 5, 6, 7, 8, 9, 10, 11, 12, 13, 14, 15, 16, 17, 18, 19, 20, 21, 22] rfl)
set_option maxRecDepth 100000 in
set_option maxHeartbeats 4000000 in
theorem lw_wann {p : Program} {e : Env} {s : State} {m : MethodId} {below : List Frame} {meth : Method} {c : Code} {H : Heap} {locs : List Loc} {ls : Array Slot} {D : va_G} {T : Nat → ClassId} {σ : Mem} {z b k0 n0 : Nat} {Q : State → Prop} {n i y u w : Int} (l : Launch) (hst0 : l.stackTraces = false) (hx : p.tables.exec = Jvm.exec) (hb : c.code = cL_law) (hml : c.maxLocals = 23) (hown : s.vm.findClass RL = some m.cls) (hts : ∀ w ∈ Gw, w.before #[Value.ref b] s = true) (hv : Xv s) (hT : hol T < z) (G : Wd D T z 133 σ s H locs) (hG : GI n σ) (hn : 0 ≤ n ∧ n ≤ 800) (hi : 0 ≤ i ∧ i ≤ 44) (hy : 0 ≤ y ∧ y ≤ 2147483647) (hu : u = y / 16) (hw : w = y % 16) (h1 : w = 3) (hra : ¬ rag (pus σ) (u % 2) (u / 4 % 16) = 0) (hc0 : k0 + 20 ≤ 600130 ∧ n0 + 120 ≤ 7301079) (hl : lv_has ls 23 [(0, .ref b), (1, .ref (z + 0)), (2, .int (kI 1)), (3, .int (kI i)), (4, .int (kI y)), (5, .int (kI u)), (6, .int (kI w)), (7, .int (kI (σ 15 1))), (8, .int (kI (u % 2))), (9, .int (kI (u / 4 % 8))), (10, .int (kI (σ 2 0))), (11, .int (kI (atr σ (u % 2)))), (12, .int (kI (kor σ (u % 2) 2))), (13, .int (kI (σ 9 (u % 2)))), (14, .int (kI (σ 12 (u % 2)))), (15, .int (kI (σ 4 (u % 2 * 16 + u / 4 % 8)))), (16, .int (kI (σ 5 (u % 2 * 16 + u / 4 % 8)))), (17, .int (kI (pok σ (u % 2) (u / 4 % 8) 3))), (18, .int (kI (jud σ (u % 2) (u / 4 % 8) (1 + u / 32 % 4)))), (19, .int (kI (σ 14 1))), (20, .int (kI (σ 14 2)))]) (kk : ∀ (σ1 : Mem) (H1 : Heap) (locs1 : List Loc) (ls1 : Array Slot), Wd D T z 133 σ1 s H1 locs1 → GI (n + 1) σ1 → lv_has ls1 23 [(3, .int (kI i)), (2, .int (kI 1)), (1, .ref (z + 0)), (0, .ref b), (8, .int (kI (u % 2)))] → W p l e room_1 s m #[Value.ref b] below meth c H1 locs1 (k0 + 20) (n0 + 120) Q (F0 m 882 ls1 [])) : W p l e room_1 s m #[Value.ref b] below meth c H locs k0 n0 Q (F0 m 276 ls []) := by
  have hC : ∀ {a b : Nat}, a ≤ 600130 → b ≤ 7301079 → a ≤ room_1.cells ∧ b ≤ room_1.slots := fun h1 h2 => ⟨h1, h2⟩
  have hk4 : 0 ≤ u % 2 ∧ u % 2 < 4 := by omega
  have hx16 : 0 ≤ u / 4 % 8 ∧ u / 4 % 8 < 16 := by omega
  have hxw : 0 ≤ u / 4 % 16 ∧ u / 4 % 16 < 16 := by omega
  have hu0 : 0 ≤ u ∧ u ≤ 134217727 := by omega
  have hz := hG.z
  have hd := hG.i.ic.1
  have hday := hG.i.2.1
  have har := atr_rg (σ := σ) (k := u % 2)
  have hkr := kor_rg (σ := σ) (k := u % 2) (n := 2) (by decide)
  have hac := hG.i.ac hk4
  unfold ACk at hac
  have hky := hG.i.rg hk4 hx16
  have hpk := pok_c (σ := σ) (k := u % 2) (y := u / 4 % 8)
  have hjr := jud_rg (σ := σ) (k := u % 2) (y := u / 4 % 8) (q := 1 + u / 32 % 4)
  have hse := hG.s.2
  have hsea := hG.i.ic.2.1 (u % 2) hk4.1 hk4.2
  refine lv_aload_n hx hb dL_law_276 rfl (lv_at hl 1 rfl) ?_
  refine lv_iload hx hb dL_law_277 (lv_at hl 4 rfl) ?_
  refine r_callK (na := 2) (own := RL) ⟨hx, hb, hml, hown, hts⟩ hT G hv (k_L_acts_wan l hst0 hG (by omega) hy hu (show y % 16 = 3 by omega) ) (cSx hts qM_L_167 qS_L_acts qN_L qC_L_acts (by decide +kernel) ⟨Nat.le_of_ble_eq_true rfl, Nat.le_of_ble_eq_true rfl⟩) rfl rfl hl.1 rfl (Nat.le_of_ble_eq_true rfl) dL_law_279 (hC (by omega) (by omega)) (fun H locs G => ?_)
  obtain ⟨τ, hτ⟩ : ∃ τ, τ = svw (pus σ) (u % 2) (u / 4 % 16) := ⟨_, rfl⟩
  rw [← hτ] at G
  refine r_name (fun to hto => ?_)
  have hA := aw_n hG (by omega) hk4 hra
  rw [← hτ] at hA
  obtain ⟨a0, aG, a15, a12⟩ := hA
  rw [← hto] at a0
  refine lv_istore (lv' := [(21, .int (kI to)), (0, .ref b), (1, .ref (z + 0)), (2, .int (kI 1)), (3, .int (kI i)), (4, .int (kI y)), (5, .int (kI u)), (6, .int (kI w)), (7, .int (kI (σ 15 1))), (8, .int (kI (u % 2))), (9, .int (kI (u / 4 % 8))), (10, .int (kI (σ 2 0))), (11, .int (kI (atr σ (u % 2)))), (12, .int (kI (kor σ (u % 2) 2))), (13, .int (kI (σ 9 (u % 2)))), (14, .int (kI (σ 12 (u % 2)))), (15, .int (kI (σ 4 (u % 2 * 16 + u / 4 % 8)))), (16, .int (kI (σ 5 (u % 2 * 16 + u / 4 % 8)))), (17, .int (kI (pok σ (u % 2) (u / 4 % 8) 3))), (18, .int (kI (jud σ (u % 2) (u / 4 % 8) (1 + u / 32 % 4)))), (19, .int (kI (σ 14 1))), (20, .int (kI (σ 14 2)))]) hx hb dL_law_282 hl (by decide) rfl (fun ls hl => ?_)
  refine lv_iload hx hb dL_law_284 (lv_at hl 0 rfl) ?_
  refine r_ldc (n := -2000000) hx hb hts hown qCon_L_170 (by decide) dL_law_286 ?_
  refine r_icmp_le (tgt := 295) hx hb ⟨by omega, by omega⟩ ⟨by decide, by decide⟩ dL_law_288 (by decide) (fun h_1 => absurd h_1 (by omega)) (fun h_1 => ?_)
  refine r_iconst hx hb dL_law_291 ?_
  refine lv_goto (tgt := 296) hx hb dL_law_292 (by decide) ?_
  refine lv_istore (lv' := [(22, .int (kI 1)), (21, .int (kI to)), (0, .ref b), (1, .ref (z + 0)), (2, .int (kI 1)), (3, .int (kI i)), (4, .int (kI y)), (5, .int (kI u)), (6, .int (kI w)), (7, .int (kI (σ 15 1))), (8, .int (kI (u % 2))), (9, .int (kI (u / 4 % 8))), (10, .int (kI (σ 2 0))), (11, .int (kI (atr σ (u % 2)))), (12, .int (kI (kor σ (u % 2) 2))), (13, .int (kI (σ 9 (u % 2)))), (14, .int (kI (σ 12 (u % 2)))), (15, .int (kI (σ 4 (u % 2 * 16 + u / 4 % 8)))), (16, .int (kI (σ 5 (u % 2 * 16 + u / 4 % 8)))), (17, .int (kI (pok σ (u % 2) (u / 4 % 8) 3))), (18, .int (kI (jud σ (u % 2) (u / 4 % 8) (1 + u / 32 % 4)))), (19, .int (kI (σ 14 1))), (20, .int (kI (σ 14 2)))]) hx hb dL_law_296 hl (by decide) rfl (fun ls hl => ?_)
  refine lv_aload_n hx hb dL_law_298 rfl (lv_at hl 3 rfl) ?_
  refine r_bipush hx hb dL_law_299 (by decide +kernel) ?_
  refine r_callW (na := 2) (own := RL) ⟨hx, hb, hml, hown, hts⟩ G hv (k_L_count_y l hst0 (σ := τ) (w := 9) ⟨by omega, by omega⟩ (aG.s) (by omega)) qC_L_count qM_L_138 qS_L_count qN_L (by decide +kernel) ⟨Nat.le_of_ble_eq_true rfl, Nat.le_of_ble_eq_true rfl⟩ rfl rfl hl.1 rfl (Nat.le_of_ble_eq_true rfl) dL_law_301 (hC (by omega) (by omega)) (fun H locs G => ?_)
  refine r_top (b := τ 15 1) (rfl) ?_
  refine lv_iload hx hb dL_law_304 (lv_at hl 0 rfl) ?_
  refine r_if_eq (tgt := 330) hx hb ⟨by decide, by decide⟩ dL_law_306 (by decide) (fun h_2 => absurd h_2 (by decide)) (fun _ => ?_)
  refine lv_iload hx hb dL_law_309 (lv_at hl 8 rfl) ?_
  refine r_iconst hx hb dL_law_311 ?_
  refine r_icmp_ne (tgt := 323) hx hb ⟨by omega, by omega⟩ ⟨by decide, by decide⟩ dL_law_312 (by decide) (fun h_3 => ?_) (fun h_3 => absurd h_3 (by omega))
  have jn342 : ∀ (_ : Unit), ∀ (H : Heap) (locs : List Loc) (k1 n1 : Nat), (k1 : Int) ≤ k0 + 4 → (n1 : Int) ≤ n0 + 24 → Wd D T z 133 τ s H locs → ∀ (ls : Array Slot), lv_has ls 23 [(22, .int (kI 1)), (21, .int (kI to)), (0, .ref b), (1, .ref (z + 0)), (2, .int (kI 1)), (3, .int (kI i)), (4, .int (kI y)), (5, .int (kI u)), (6, .int (kI w)), (7, .int (kI (σ 15 1))), (8, .int (kI (u % 2))), (9, .int (kI (u / 4 % 8))), (10, .int (kI (σ 2 0))), (11, .int (kI (atr σ (u % 2)))), (12, .int (kI (kor σ (u % 2) 2))), (13, .int (kI (σ 9 (u % 2)))), (14, .int (kI (σ 12 (u % 2)))), (15, .int (kI (σ 4 (u % 2 * 16 + u / 4 % 8)))), (16, .int (kI (σ 5 (u % 2 * 16 + u / 4 % 8)))), (17, .int (kI (pok σ (u % 2) (u / 4 % 8) 3))), (18, .int (kI (jud σ (u % 2) (u / 4 % 8) (1 + u / 32 % 4)))), (19, .int (kI (σ 14 1))), (20, .int (kI (σ 14 2)))] → W p l e room_1 s m #[Value.ref b] below meth c H locs k1 n1 Q (F0 m 342 ls []) := by
    intro _  H locs k1 n1 hk1 hn1 G ls hl
    refine r_iconst hx hb dL_law_342 ?_
    refine lv_goto (tgt := 347) hx hb dL_law_343 (by decide) ?_
    refine lv_istore_n (lv' := [(2, .int (kI 1)), (22, .int (kI 1)), (21, .int (kI to)), (0, .ref b), (1, .ref (z + 0)), (3, .int (kI i)), (4, .int (kI y)), (5, .int (kI u)), (6, .int (kI w)), (7, .int (kI (σ 15 1))), (8, .int (kI (u % 2))), (9, .int (kI (u / 4 % 8))), (10, .int (kI (σ 2 0))), (11, .int (kI (atr σ (u % 2)))), (12, .int (kI (kor σ (u % 2) 2))), (13, .int (kI (σ 9 (u % 2)))), (14, .int (kI (σ 12 (u % 2)))), (15, .int (kI (σ 4 (u % 2 * 16 + u / 4 % 8)))), (16, .int (kI (σ 5 (u % 2 * 16 + u / 4 % 8)))), (17, .int (kI (pok σ (u % 2) (u / 4 % 8) 3))), (18, .int (kI (jud σ (u % 2) (u / 4 % 8) (1 + u / 32 % 4)))), (19, .int (kI (σ 14 1))), (20, .int (kI (σ 14 2)))]) hx hb dL_law_347 rfl hl (by decide) rfl (fun ls hl => ?_)
    refine lv_iload_n hx hb dL_law_348 rfl (lv_at hl 0 rfl) ?_
    refine r_if_eq (tgt := 464) hx hb ⟨by decide, by decide⟩ dL_law_349 (by decide) (fun h_4 => absurd h_4 (by decide)) (fun _ => ?_)
    refine lv_iload hx hb dL_law_352 (lv_at hl 8 rfl) ?_
    refine r_bipush hx hb dL_law_354 (by decide +kernel) ?_
    refine r_icmp_le (tgt := 464) hx hb ⟨by omega, by omega⟩ ⟨by decide, by decide⟩ dL_law_356 (by decide) (fun h_5 => ?_) (fun h_5 => absurd h_5 (by omega))
    refine lv_iload_n hx hb dL_law_464 rfl (lv_at hl 0 rfl) ?_
    refine r_if_eq (tgt := 575) hx hb ⟨by decide, by decide⟩ dL_law_465 (by decide) (fun h_6 => absurd h_6 (by decide)) (fun _ => ?_)
    refine lv_iload hx hb dL_law_468 (lv_at hl 8 rfl) ?_
    refine r_bipush hx hb dL_law_470 (by decide +kernel) ?_
    refine r_icmp_le (tgt := 575) hx hb ⟨by omega, by omega⟩ ⟨by decide, by decide⟩ dL_law_472 (by decide) (fun h_7 => ?_) (fun h_7 => absurd h_7 (by omega))
    refine lv_iload_n hx hb dL_law_575 rfl (lv_at hl 0 rfl) ?_
    refine r_if_eq (tgt := 656) hx hb ⟨by decide, by decide⟩ dL_law_576 (by decide) (fun h_8 => absurd h_8 (by decide)) (fun _ => ?_)
    refine lv_iload hx hb dL_law_579 (lv_at hl 8 rfl) ?_
    refine r_iconst hx hb dL_law_581 ?_
    refine r_icmp_ne (tgt := 656) hx hb ⟨by omega, by omega⟩ ⟨by decide, by decide⟩ dL_law_582 (by decide) (fun h_9 => ?_) (fun h_9 => absurd h_9 (by omega))
    refine lv_iload_n hx hb dL_law_656 rfl (lv_at hl 0 rfl) ?_
    refine r_if_eq (tgt := 731) hx hb ⟨by decide, by decide⟩ dL_law_657 (by decide) (fun h_10 => absurd h_10 (by decide)) (fun _ => ?_)
    refine lv_iload hx hb dL_law_660 (lv_at hl 8 rfl) ?_
    refine r_bipush hx hb dL_law_662 (by decide +kernel) ?_
    refine r_icmp_ne (tgt := 731) hx hb ⟨by omega, by omega⟩ ⟨by decide, by decide⟩ dL_law_664 (by decide) (fun h_11 => ?_) (fun h_11 => absurd h_11 (by omega))
    refine lv_iload_n hx hb dL_law_731 rfl (lv_at hl 0 rfl) ?_
    refine r_if_eq (tgt := 784) hx hb ⟨by decide, by decide⟩ dL_law_732 (by decide) (fun h_12 => absurd h_12 (by decide)) (fun _ => ?_)
    refine lv_iload hx hb dL_law_735 (lv_at hl 8 rfl) ?_
    refine r_iconst hx hb dL_law_737 ?_
    refine r_icmp_eq (tgt := 748) hx hb ⟨by omega, by omega⟩ ⟨by decide, by decide⟩ dL_law_738 (by decide) (fun h_13 => absurd h_13 (by omega)) (fun h_13 => ?_)
    refine lv_iload hx hb dL_law_741 (lv_at hl 8 rfl) ?_
    refine r_bipush hx hb dL_law_743 (by decide +kernel) ?_
    refine r_icmp_ne (tgt := 784) hx hb ⟨by omega, by omega⟩ ⟨by decide, by decide⟩ dL_law_745 (by decide) (fun h_14 => ?_) (fun h_14 => absurd h_14 (by omega))
    refine lv_iload_n hx hb dL_law_784 rfl (lv_at hl 0 rfl) ?_
    refine r_if_eq (tgt := 882) hx hb ⟨by decide, by decide⟩ dL_law_785 (by decide) (fun h_15 => absurd h_15 (by decide)) (fun _ => ?_)
    refine lv_iload hx hb dL_law_788 (lv_at hl 8 rfl) ?_
    refine r_iconst hx hb dL_law_790 ?_
    refine r_icmp_ne (tgt := 882) hx hb ⟨by omega, by omega⟩ ⟨by decide, by decide⟩ dL_law_791 (by decide) (fun h_16 => absurd h_16 (by omega)) (fun h_16 => ?_)
    refine lv_iload hx hb dL_law_794 (lv_at hl 2 rfl) ?_
    refine r_bipush hx hb dL_law_796 (by decide +kernel) ?_
    refine r_icmp_le (tgt := 824) hx hb ⟨by omega, by omega⟩ ⟨by decide, by decide⟩ dL_law_798 (by decide) (fun h_17 => absurd h_17 (by omega)) (fun h_17 => ?_)
    refine lv_aload_n hx hb dL_law_801 rfl (lv_at hl 4 rfl) ?_
    refine lv_iload hx hb dL_law_802 (lv_at hl 10 rfl) ?_
    refine r_bipush hx hb dL_law_804 (by decide +kernel) ?_
    refine r_callW (na := 3) (own := RL) ⟨hx, hb, hml, hown, hts⟩ G hv (k_L_kindOf_y l hst0 (σ := τ) (k := u % 2) (w := 8) ⟨by omega, by omega⟩ ⟨by omega, by omega⟩ (aG.s) ⟨by omega, by omega⟩ (by omega)) qC_L_kindOf qM_L_122 qS_L_kindOf qN_L (by decide +kernel) ⟨Nat.le_of_ble_eq_true rfl, Nat.le_of_ble_eq_true rfl⟩ rfl rfl hl.1 rfl (Nat.le_of_ble_eq_true rfl) dL_law_806 (hC (by omega) (by omega)) (fun H locs G => ?_)
    refine r_top (b := τ 12 (u % 2)) (rfl) ?_
    refine lv_iload hx hb dL_law_809 (lv_at hl 16 rfl) ?_
    refine r_iconst hx hb dL_law_811 ?_
    refine r_iadd hx hb dL_law_812 ?_
    refine r_icmp_ne (tgt := 820) hx hb ⟨by omega, by omega⟩ ⟨by omega, by omega⟩ dL_law_813 (by decide) (fun h_18 => absurd h_18 (by omega)) (fun h_18 => ?_)
    refine r_iconst hx hb dL_law_816 ?_
    refine lv_goto (tgt := 881) hx hb dL_law_817 (by decide) ?_
    refine lv_istore_n (lv' := [(2, .int (kI 1)), (22, .int (kI 1)), (21, .int (kI to)), (0, .ref b), (1, .ref (z + 0)), (3, .int (kI i)), (4, .int (kI y)), (5, .int (kI u)), (6, .int (kI w)), (7, .int (kI (σ 15 1))), (8, .int (kI (u % 2))), (9, .int (kI (u / 4 % 8))), (10, .int (kI (σ 2 0))), (11, .int (kI (atr σ (u % 2)))), (12, .int (kI (kor σ (u % 2) 2))), (13, .int (kI (σ 9 (u % 2)))), (14, .int (kI (σ 12 (u % 2)))), (15, .int (kI (σ 4 (u % 2 * 16 + u / 4 % 8)))), (16, .int (kI (σ 5 (u % 2 * 16 + u / 4 % 8)))), (17, .int (kI (pok σ (u % 2) (u / 4 % 8) 3))), (18, .int (kI (jud σ (u % 2) (u / 4 % 8) (1 + u / 32 % 4)))), (19, .int (kI (σ 14 1))), (20, .int (kI (σ 14 2)))]) hx hb dL_law_881 rfl hl (by decide) rfl (fun ls hl => ?_)
    exact W.widen (k := k0 + 20) (n := n0 + 120) (by omega) (by omega) (kk τ _ _ _ G aG (lv_sub hl [5, 0, 4, 3, 10] rfl))
  refine lv_iload hx hb dL_law_323 (lv_at hl 9 rfl) ?_
  refine r_bipush hx hb dL_law_325 (by decide +kernel) ?_
  refine r_icmp_ne (tgt := 335) hx hb ⟨by omega, by omega⟩ ⟨by decide, by decide⟩ dL_law_327 (by decide) (fun h_19 => ?_) (fun h_19 => ?_)
  · skip
    refine lv_iload hx hb dL_law_335 (lv_at hl 9 rfl) ?_
    refine r_iconst hx hb dL_law_337 ?_
    refine r_iadd hx hb dL_law_338 ?_
    refine r_icmp_ne (tgt := 346) hx hb ⟨by omega, by omega⟩ ⟨by omega, by omega⟩ dL_law_339 (by decide) (fun h_20 => absurd h_20 (by omega)) (fun h_20 => ?_)
    exact jn342 ()  _ _ _ _ (by omega) (by omega) G _ (lv_sub hl [0, 1, 2, 3, 4, 5, 6, 7, 8, 9, 10, 11, 12, 13, 14, 15, 16, 17, 18, 19, 20, 21, 22] rfl)
  · skip
    refine lv_iload hx hb dL_law_330 (lv_at hl 9 rfl) ?_
    refine lv_goto (tgt := 339) hx hb dL_law_332 (by decide) ?_
    refine r_icmp_ne (tgt := 346) hx hb ⟨by omega, by omega⟩ ⟨by omega, by omega⟩ dL_law_339 (by decide) (fun h_21 => absurd h_21 (by omega)) (fun h_21 => ?_)
    exact jn342 ()  _ _ _ _ (by omega) (by omega) G _ (lv_sub hl [0, 1, 2, 3, 4, 5, 6, 7, 8, 9, 10, 11, 12, 13, 14, 15, 16, 17, 18, 19, 20, 21, 22] rfl)
set_option maxRecDepth 100000 in
set_option maxHeartbeats 4000000 in
theorem lw_sea {p : Program} {e : Env} {s : State} {m : MethodId} {below : List Frame} {meth : Method} {c : Code} {H : Heap} {locs : List Loc} {ls : Array Slot} {D : va_G} {T : Nat → ClassId} {σ : Mem} {z b k0 n0 : Nat} {Q : State → Prop} {n i y u w : Int} (l : Launch) (hst0 : l.stackTraces = false) (hx : p.tables.exec = Jvm.exec) (hb : c.code = cL_law) (hml : c.maxLocals = 23) (hown : s.vm.findClass RL = some m.cls) (hts : ∀ w ∈ Gw, w.before #[Value.ref b] s = true) (hv : Xv s) (hT : hol T < z) (G : Wd D T z 133 σ s H locs) (hG : GI n σ) (hn : 0 ≤ n ∧ n ≤ 800) (hi : 0 ≤ i ∧ i ≤ 44) (hy : 0 ≤ y ∧ y ≤ 2147483647) (hu : u = y / 16) (hw : w = y % 16) (h1 : w = 0) (hc0 : k0 + 20 ≤ 600130 ∧ n0 + 120 ≤ 7301079) (hl : lv_has ls 23 [(0, .ref b), (1, .ref (z + 0)), (2, .int (kI 1)), (3, .int (kI i)), (4, .int (kI y)), (5, .int (kI u)), (6, .int (kI w)), (7, .int (kI (σ 15 1))), (8, .int (kI (u % 2))), (9, .int (kI (u / 4 % 8))), (10, .int (kI (σ 2 0))), (11, .int (kI (atr σ (u % 2)))), (12, .int (kI (kor σ (u % 2) 2))), (13, .int (kI (σ 9 (u % 2)))), (14, .int (kI (σ 12 (u % 2)))), (15, .int (kI (σ 4 (u % 2 * 16 + u / 4 % 8)))), (16, .int (kI (σ 5 (u % 2 * 16 + u / 4 % 8)))), (17, .int (kI (pok σ (u % 2) (u / 4 % 8) 3))), (18, .int (kI (jud σ (u % 2) (u / 4 % 8) (1 + u / 32 % 4)))), (19, .int (kI (σ 14 1))), (20, .int (kI (σ 14 2)))]) (kk : ∀ (σ1 : Mem) (H1 : Heap) (locs1 : List Loc) (ls1 : Array Slot), Wd D T z 133 σ1 s H1 locs1 → GI (n + 1) σ1 → lv_has ls1 23 [(3, .int (kI i)), (2, .int (kI 1)), (1, .ref (z + 0)), (0, .ref b), (8, .int (kI (u % 2)))] → W p l e room_1 s m #[Value.ref b] below meth c H1 locs1 (k0 + 20) (n0 + 120) Q (F0 m 882 ls1 [])) : W p l e room_1 s m #[Value.ref b] below meth c H locs k0 n0 Q (F0 m 276 ls []) := by
  have hC : ∀ {a b : Nat}, a ≤ 600130 → b ≤ 7301079 → a ≤ room_1.cells ∧ b ≤ room_1.slots := fun h1 h2 => ⟨h1, h2⟩
  have hk4 : 0 ≤ u % 2 ∧ u % 2 < 4 := by omega
  have hx16 : 0 ≤ u / 4 % 8 ∧ u / 4 % 8 < 16 := by omega
  have hxw : 0 ≤ u / 4 % 16 ∧ u / 4 % 16 < 16 := by omega
  have hu0 : 0 ≤ u ∧ u ≤ 134217727 := by omega
  have hz := hG.z
  have hd := hG.i.ic.1
  have hday := hG.i.2.1
  have har := atr_rg (σ := σ) (k := u % 2)
  have hkr := kor_rg (σ := σ) (k := u % 2) (n := 2) (by decide)
  have hac := hG.i.ac hk4
  unfold ACk at hac
  have hky := hG.i.rg hk4 hx16
  have hpk := pok_c (σ := σ) (k := u % 2) (y := u / 4 % 8)
  have hjr := jud_rg (σ := σ) (k := u % 2) (y := u / 4 % 8) (q := 1 + u / 32 % 4)
  have hse := hG.s.2
  have hsea := hG.i.ic.2.1 (u % 2) hk4.1 hk4.2
  refine lv_aload_n hx hb dL_law_276 rfl (lv_at hl 1 rfl) ?_
  refine lv_iload hx hb dL_law_277 (lv_at hl 4 rfl) ?_
  refine r_callK (na := 2) (own := RL) ⟨hx, hb, hml, hown, hts⟩ hT G hv (k_L_acts_sea l hst0 hG (by omega) hy hu (show y % 16 = 0 by omega) ) (cSx hts qM_L_167 qS_L_acts qN_L qC_L_acts (by decide +kernel) ⟨Nat.le_of_ble_eq_true rfl, Nat.le_of_ble_eq_true rfl⟩) rfl rfl hl.1 rfl (Nat.le_of_ble_eq_true rfl) dL_law_279 (hC (by omega) (by omega)) (fun H locs G => ?_)
  obtain ⟨τ, hτ⟩ : ∃ τ, τ = up (pus σ) 3 (u % 2) (u / 4 % 12) := ⟨_, rfl⟩
  rw [← hτ] at G
  refine r_name (fun to hto => ?_)
  have hA := as_y (k := u % 2) (q := u / 4 % 12) hG (by omega)
  rw [← hτ] at hA
  obtain ⟨aG, a15⟩ := hA
  rw [pus_lo hG (by decide)] at hto
  refine lv_istore (lv' := [(21, .int (kI to)), (0, .ref b), (1, .ref (z + 0)), (2, .int (kI 1)), (3, .int (kI i)), (4, .int (kI y)), (5, .int (kI u)), (6, .int (kI w)), (7, .int (kI (σ 15 1))), (8, .int (kI (u % 2))), (9, .int (kI (u / 4 % 8))), (10, .int (kI (σ 2 0))), (11, .int (kI (atr σ (u % 2)))), (12, .int (kI (kor σ (u % 2) 2))), (13, .int (kI (σ 9 (u % 2)))), (14, .int (kI (σ 12 (u % 2)))), (15, .int (kI (σ 4 (u % 2 * 16 + u / 4 % 8)))), (16, .int (kI (σ 5 (u % 2 * 16 + u / 4 % 8)))), (17, .int (kI (pok σ (u % 2) (u / 4 % 8) 3))), (18, .int (kI (jud σ (u % 2) (u / 4 % 8) (1 + u / 32 % 4)))), (19, .int (kI (σ 14 1))), (20, .int (kI (σ 14 2)))]) hx hb dL_law_282 hl (by decide) rfl (fun ls hl => ?_)
  refine lv_iload hx hb dL_law_284 (lv_at hl 0 rfl) ?_
  refine r_ldc (n := -2000000) hx hb hts hown qCon_L_170 (by decide) dL_law_286 ?_
  refine r_icmp_le (tgt := 295) hx hb ⟨by omega, by omega⟩ ⟨by decide, by decide⟩ dL_law_288 (by decide) (fun h_1 => absurd h_1 (by omega)) (fun h_1 => ?_)
  refine r_iconst hx hb dL_law_291 ?_
  refine lv_goto (tgt := 296) hx hb dL_law_292 (by decide) ?_
  refine lv_istore (lv' := [(22, .int (kI 1)), (21, .int (kI to)), (0, .ref b), (1, .ref (z + 0)), (2, .int (kI 1)), (3, .int (kI i)), (4, .int (kI y)), (5, .int (kI u)), (6, .int (kI w)), (7, .int (kI (σ 15 1))), (8, .int (kI (u % 2))), (9, .int (kI (u / 4 % 8))), (10, .int (kI (σ 2 0))), (11, .int (kI (atr σ (u % 2)))), (12, .int (kI (kor σ (u % 2) 2))), (13, .int (kI (σ 9 (u % 2)))), (14, .int (kI (σ 12 (u % 2)))), (15, .int (kI (σ 4 (u % 2 * 16 + u / 4 % 8)))), (16, .int (kI (σ 5 (u % 2 * 16 + u / 4 % 8)))), (17, .int (kI (pok σ (u % 2) (u / 4 % 8) 3))), (18, .int (kI (jud σ (u % 2) (u / 4 % 8) (1 + u / 32 % 4)))), (19, .int (kI (σ 14 1))), (20, .int (kI (σ 14 2)))]) hx hb dL_law_296 hl (by decide) rfl (fun ls hl => ?_)
  refine lv_aload_n hx hb dL_law_298 rfl (lv_at hl 3 rfl) ?_
  refine r_bipush hx hb dL_law_299 (by decide +kernel) ?_
  refine r_callW (na := 2) (own := RL) ⟨hx, hb, hml, hown, hts⟩ G hv (k_L_count_y l hst0 (σ := τ) (w := 9) ⟨by omega, by omega⟩ (aG.s) (by omega)) qC_L_count qM_L_138 qS_L_count qN_L (by decide +kernel) ⟨Nat.le_of_ble_eq_true rfl, Nat.le_of_ble_eq_true rfl⟩ rfl rfl hl.1 rfl (Nat.le_of_ble_eq_true rfl) dL_law_301 (hC (by omega) (by omega)) (fun H locs G => ?_)
  refine r_top (b := τ 15 1) (rfl) ?_
  refine lv_iload hx hb dL_law_304 (lv_at hl 0 rfl) ?_
  refine r_if_eq (tgt := 330) hx hb ⟨by decide, by decide⟩ dL_law_306 (by decide) (fun h_2 => absurd h_2 (by decide)) (fun _ => ?_)
  refine lv_iload hx hb dL_law_309 (lv_at hl 8 rfl) ?_
  refine r_iconst hx hb dL_law_311 ?_
  refine r_icmp_ne (tgt := 323) hx hb ⟨by omega, by omega⟩ ⟨by decide, by decide⟩ dL_law_312 (by decide) (fun h_3 => ?_) (fun h_3 => absurd h_3 (by omega))
  have jn342 : ∀ (_ : Unit), ∀ (H : Heap) (locs : List Loc) (k1 n1 : Nat), (k1 : Int) ≤ k0 + 4 → (n1 : Int) ≤ n0 + 24 → Wd D T z 133 τ s H locs → ∀ (ls : Array Slot), lv_has ls 23 [(22, .int (kI 1)), (21, .int (kI to)), (0, .ref b), (1, .ref (z + 0)), (2, .int (kI 1)), (3, .int (kI i)), (4, .int (kI y)), (5, .int (kI u)), (6, .int (kI w)), (7, .int (kI (σ 15 1))), (8, .int (kI (u % 2))), (9, .int (kI (u / 4 % 8))), (10, .int (kI (σ 2 0))), (11, .int (kI (atr σ (u % 2)))), (12, .int (kI (kor σ (u % 2) 2))), (13, .int (kI (σ 9 (u % 2)))), (14, .int (kI (σ 12 (u % 2)))), (15, .int (kI (σ 4 (u % 2 * 16 + u / 4 % 8)))), (16, .int (kI (σ 5 (u % 2 * 16 + u / 4 % 8)))), (17, .int (kI (pok σ (u % 2) (u / 4 % 8) 3))), (18, .int (kI (jud σ (u % 2) (u / 4 % 8) (1 + u / 32 % 4)))), (19, .int (kI (σ 14 1))), (20, .int (kI (σ 14 2)))] → W p l e room_1 s m #[Value.ref b] below meth c H locs k1 n1 Q (F0 m 342 ls []) := by
    intro _  H locs k1 n1 hk1 hn1 G ls hl
    refine r_iconst hx hb dL_law_342 ?_
    refine lv_goto (tgt := 347) hx hb dL_law_343 (by decide) ?_
    refine lv_istore_n (lv' := [(2, .int (kI 1)), (22, .int (kI 1)), (21, .int (kI to)), (0, .ref b), (1, .ref (z + 0)), (3, .int (kI i)), (4, .int (kI y)), (5, .int (kI u)), (6, .int (kI w)), (7, .int (kI (σ 15 1))), (8, .int (kI (u % 2))), (9, .int (kI (u / 4 % 8))), (10, .int (kI (σ 2 0))), (11, .int (kI (atr σ (u % 2)))), (12, .int (kI (kor σ (u % 2) 2))), (13, .int (kI (σ 9 (u % 2)))), (14, .int (kI (σ 12 (u % 2)))), (15, .int (kI (σ 4 (u % 2 * 16 + u / 4 % 8)))), (16, .int (kI (σ 5 (u % 2 * 16 + u / 4 % 8)))), (17, .int (kI (pok σ (u % 2) (u / 4 % 8) 3))), (18, .int (kI (jud σ (u % 2) (u / 4 % 8) (1 + u / 32 % 4)))), (19, .int (kI (σ 14 1))), (20, .int (kI (σ 14 2)))]) hx hb dL_law_347 rfl hl (by decide) rfl (fun ls hl => ?_)
    refine lv_iload_n hx hb dL_law_348 rfl (lv_at hl 0 rfl) ?_
    refine r_if_eq (tgt := 464) hx hb ⟨by decide, by decide⟩ dL_law_349 (by decide) (fun h_4 => absurd h_4 (by decide)) (fun _ => ?_)
    refine lv_iload hx hb dL_law_352 (lv_at hl 8 rfl) ?_
    refine r_bipush hx hb dL_law_354 (by decide +kernel) ?_
    refine r_icmp_le (tgt := 464) hx hb ⟨by omega, by omega⟩ ⟨by decide, by decide⟩ dL_law_356 (by decide) (fun h_5 => ?_) (fun h_5 => absurd h_5 (by omega))
    refine lv_iload_n hx hb dL_law_464 rfl (lv_at hl 0 rfl) ?_
    refine r_if_eq (tgt := 575) hx hb ⟨by decide, by decide⟩ dL_law_465 (by decide) (fun h_6 => absurd h_6 (by decide)) (fun _ => ?_)
    refine lv_iload hx hb dL_law_468 (lv_at hl 8 rfl) ?_
    refine r_bipush hx hb dL_law_470 (by decide +kernel) ?_
    refine r_icmp_le (tgt := 575) hx hb ⟨by omega, by omega⟩ ⟨by decide, by decide⟩ dL_law_472 (by decide) (fun h_7 => ?_) (fun h_7 => absurd h_7 (by omega))
    refine lv_iload_n hx hb dL_law_575 rfl (lv_at hl 0 rfl) ?_
    refine r_if_eq (tgt := 656) hx hb ⟨by decide, by decide⟩ dL_law_576 (by decide) (fun h_8 => absurd h_8 (by decide)) (fun _ => ?_)
    refine lv_iload hx hb dL_law_579 (lv_at hl 8 rfl) ?_
    refine r_iconst hx hb dL_law_581 ?_
    refine r_icmp_ne (tgt := 656) hx hb ⟨by omega, by omega⟩ ⟨by decide, by decide⟩ dL_law_582 (by decide) (fun h_9 => ?_) (fun h_9 => absurd h_9 (by omega))
    refine lv_iload_n hx hb dL_law_656 rfl (lv_at hl 0 rfl) ?_
    refine r_if_eq (tgt := 731) hx hb ⟨by decide, by decide⟩ dL_law_657 (by decide) (fun h_10 => absurd h_10 (by decide)) (fun _ => ?_)
    refine lv_iload hx hb dL_law_660 (lv_at hl 8 rfl) ?_
    refine r_bipush hx hb dL_law_662 (by decide +kernel) ?_
    refine r_icmp_ne (tgt := 731) hx hb ⟨by omega, by omega⟩ ⟨by decide, by decide⟩ dL_law_664 (by decide) (fun h_11 => ?_) (fun h_11 => absurd h_11 (by omega))
    refine lv_iload_n hx hb dL_law_731 rfl (lv_at hl 0 rfl) ?_
    refine r_if_eq (tgt := 784) hx hb ⟨by decide, by decide⟩ dL_law_732 (by decide) (fun h_12 => absurd h_12 (by decide)) (fun _ => ?_)
    refine lv_iload hx hb dL_law_735 (lv_at hl 8 rfl) ?_
    refine r_iconst hx hb dL_law_737 ?_
    refine r_icmp_eq (tgt := 748) hx hb ⟨by omega, by omega⟩ ⟨by decide, by decide⟩ dL_law_738 (by decide) (fun h_13 => absurd h_13 (by omega)) (fun h_13 => ?_)
    refine lv_iload hx hb dL_law_741 (lv_at hl 8 rfl) ?_
    refine r_bipush hx hb dL_law_743 (by decide +kernel) ?_
    refine r_icmp_ne (tgt := 784) hx hb ⟨by omega, by omega⟩ ⟨by decide, by decide⟩ dL_law_745 (by decide) (fun h_14 => ?_) (fun h_14 => absurd h_14 (by omega))
    refine lv_iload_n hx hb dL_law_784 rfl (lv_at hl 0 rfl) ?_
    refine r_if_eq (tgt := 882) hx hb ⟨by decide, by decide⟩ dL_law_785 (by decide) (fun h_15 => absurd h_15 (by decide)) (fun _ => ?_)
    refine lv_iload hx hb dL_law_788 (lv_at hl 8 rfl) ?_
    refine r_iconst hx hb dL_law_790 ?_
    refine r_icmp_ne (tgt := 882) hx hb ⟨by omega, by omega⟩ ⟨by decide, by decide⟩ dL_law_791 (by decide) (fun h_16 => ?_) (fun h_16 => absurd h_16 (by omega))
    exact W.widen (k := k0 + 20) (n := n0 + 120) (by omega) (by omega) (kk τ _ _ _ G aG (lv_sub hl [5, 0, 4, 3, 10] rfl))
  refine lv_iload hx hb dL_law_323 (lv_at hl 9 rfl) ?_
  refine r_bipush hx hb dL_law_325 (by decide +kernel) ?_
  refine r_icmp_ne (tgt := 335) hx hb ⟨by omega, by omega⟩ ⟨by decide, by decide⟩ dL_law_327 (by decide) (fun h_17 => ?_) (fun h_17 => ?_)
  · skip
    refine lv_iload hx hb dL_law_335 (lv_at hl 9 rfl) ?_
    refine r_iconst hx hb dL_law_337 ?_
    refine r_iadd hx hb dL_law_338 ?_
    refine r_icmp_ne (tgt := 346) hx hb ⟨by omega, by omega⟩ ⟨by omega, by omega⟩ dL_law_339 (by decide) (fun h_18 => absurd h_18 (by omega)) (fun h_18 => ?_)
    exact jn342 ()  _ _ _ _ (by omega) (by omega) G _ (lv_sub hl [0, 1, 2, 3, 4, 5, 6, 7, 8, 9, 10, 11, 12, 13, 14, 15, 16, 17, 18, 19, 20, 21, 22] rfl)
  · skip
    refine lv_iload hx hb dL_law_330 (lv_at hl 9 rfl) ?_
    refine lv_goto (tgt := 339) hx hb dL_law_332 (by decide) ?_
    refine r_icmp_ne (tgt := 346) hx hb ⟨by omega, by omega⟩ ⟨by omega, by omega⟩ dL_law_339 (by decide) (fun h_19 => absurd h_19 (by omega)) (fun h_19 => ?_)
    exact jn342 ()  _ _ _ _ (by omega) (by omega) G _ (lv_sub hl [0, 1, 2, 3, 4, 5, 6, 7, 8, 9, 10, 11, 12, 13, 14, 15, 16, 17, 18, 19, 20, 21, 22] rfl)
set_option maxRecDepth 100000 in
set_option maxHeartbeats 4000000 in
theorem lw_set0 {p : Program} {e : Env} {s : State} {m : MethodId} {below : List Frame} {meth : Method} {c : Code} {H : Heap} {locs : List Loc} {ls : Array Slot} {D : va_G} {T : Nat → ClassId} {σ : Mem} {z b k0 n0 : Nat} {Q : State → Prop} {n i y u w : Int} (l : Launch) (hst0 : l.stackTraces = false) (hx : p.tables.exec = Jvm.exec) (hb : c.code = cL_law) (hml : c.maxLocals = 23) (hown : s.vm.findClass RL = some m.cls) (hts : ∀ w ∈ Gw, w.before #[Value.ref b] s = true) (hv : Xv s) (hT : hol T < z) (G : Wd D T z 133 σ s H locs) (hG : GI n σ) (hn : 0 ≤ n ∧ n ≤ 800) (hi : 0 ≤ i ∧ i ≤ 44) (hy : 0 ≤ y ∧ y ≤ 2147483647) (hu : u = y / 16) (hw : w = y % 16) (h1 : w = 1) (h3 : u % 3 = 0) (hc0 : k0 + 20 ≤ 600130 ∧ n0 + 120 ≤ 7301079) (hl : lv_has ls 23 [(0, .ref b), (1, .ref (z + 0)), (2, .int (kI 1)), (3, .int (kI i)), (4, .int (kI y)), (5, .int (kI u)), (6, .int (kI w)), (7, .int (kI (σ 15 1))), (8, .int (kI (u % 2))), (9, .int (kI (u / 4 % 8))), (10, .int (kI (σ 2 0))), (11, .int (kI (atr σ (u % 2)))), (12, .int (kI (kor σ (u % 2) 2))), (13, .int (kI (σ 9 (u % 2)))), (14, .int (kI (σ 12 (u % 2)))), (15, .int (kI (σ 4 (u % 2 * 16 + u / 4 % 8)))), (16, .int (kI (σ 5 (u % 2 * 16 + u / 4 % 8)))), (17, .int (kI (pok σ (u % 2) (u / 4 % 8) 3))), (18, .int (kI (jud σ (u % 2) (u / 4 % 8) (1 + u / 32 % 4)))), (19, .int (kI (σ 14 1))), (20, .int (kI (σ 14 2)))]) (kk : ∀ (σ1 : Mem) (H1 : Heap) (locs1 : List Loc) (ls1 : Array Slot), Wd D T z 133 σ1 s H1 locs1 → GI (n + 1) σ1 → lv_has ls1 23 [(3, .int (kI i)), (2, .int (kI 1)), (1, .ref (z + 0)), (0, .ref b), (8, .int (kI (u % 2)))] → W p l e room_1 s m #[Value.ref b] below meth c H1 locs1 (k0 + 20) (n0 + 120) Q (F0 m 882 ls1 [])) : W p l e room_1 s m #[Value.ref b] below meth c H locs k0 n0 Q (F0 m 276 ls []) := by
  have hC : ∀ {a b : Nat}, a ≤ 600130 → b ≤ 7301079 → a ≤ room_1.cells ∧ b ≤ room_1.slots := fun h1 h2 => ⟨h1, h2⟩
  have hk4 : 0 ≤ u % 2 ∧ u % 2 < 4 := by omega
  have hx16 : 0 ≤ u / 4 % 8 ∧ u / 4 % 8 < 16 := by omega
  have hxw : 0 ≤ u / 4 % 16 ∧ u / 4 % 16 < 16 := by omega
  have hu0 : 0 ≤ u ∧ u ≤ 134217727 := by omega
  have hz := hG.z
  have hd := hG.i.ic.1
  have hday := hG.i.2.1
  have har := atr_rg (σ := σ) (k := u % 2)
  have hkr := kor_rg (σ := σ) (k := u % 2) (n := 2) (by decide)
  have hac := hG.i.ac hk4
  unfold ACk at hac
  have hky := hG.i.rg hk4 hx16
  have hpk := pok_c (σ := σ) (k := u % 2) (y := u / 4 % 8)
  have hjr := jud_rg (σ := σ) (k := u % 2) (y := u / 4 % 8) (q := 1 + u / 32 % 4)
  have hse := hG.s.2
  have hsea := hG.i.ic.2.1 (u % 2) hk4.1 hk4.2
  refine lv_aload_n hx hb dL_law_276 rfl (lv_at hl 1 rfl) ?_
  refine lv_iload hx hb dL_law_277 (lv_at hl 4 rfl) ?_
  refine r_callK (na := 2) (own := RL) ⟨hx, hb, hml, hown, hts⟩ hT G hv (k_L_acts_set0 l hst0 hG (by omega) hy hu (show y % 16 = 1 by omega) h3) (cSx hts qM_L_167 qS_L_acts qN_L qC_L_acts (by decide +kernel) ⟨Nat.le_of_ble_eq_true rfl, Nat.le_of_ble_eq_true rfl⟩) rfl rfl hl.1 rfl (Nat.le_of_ble_eq_true rfl) dL_law_279 (hC (by omega) (by omega)) (fun H locs G => ?_)
  obtain ⟨τ, hτ⟩ : ∃ τ, τ = up (pus σ) 14 (u % 3) (u / 4 % 4) := ⟨_, rfl⟩
  rw [← hτ] at G
  refine r_name (fun to hto => ?_)
  have hA := ae_y (k := u % 3) (q := u / 4 % 4) hG ⟨fun _ => by omega, fun _ => by omega, fun _ => by omega⟩
  rw [← hτ] at hA
  obtain ⟨aG, a15⟩ := hA
  rw [pus_lo hG (by decide), h3] at hto
  refine lv_istore (lv' := [(21, .int (kI to)), (0, .ref b), (1, .ref (z + 0)), (2, .int (kI 1)), (3, .int (kI i)), (4, .int (kI y)), (5, .int (kI u)), (6, .int (kI w)), (7, .int (kI (σ 15 1))), (8, .int (kI (u % 2))), (9, .int (kI (u / 4 % 8))), (10, .int (kI (σ 2 0))), (11, .int (kI (atr σ (u % 2)))), (12, .int (kI (kor σ (u % 2) 2))), (13, .int (kI (σ 9 (u % 2)))), (14, .int (kI (σ 12 (u % 2)))), (15, .int (kI (σ 4 (u % 2 * 16 + u / 4 % 8)))), (16, .int (kI (σ 5 (u % 2 * 16 + u / 4 % 8)))), (17, .int (kI (pok σ (u % 2) (u / 4 % 8) 3))), (18, .int (kI (jud σ (u % 2) (u / 4 % 8) (1 + u / 32 % 4)))), (19, .int (kI (σ 14 1))), (20, .int (kI (σ 14 2)))]) hx hb dL_law_282 hl (by decide) rfl (fun ls hl => ?_)
  refine lv_iload hx hb dL_law_284 (lv_at hl 0 rfl) ?_
  refine r_ldc (n := -2000000) hx hb hts hown qCon_L_170 (by decide) dL_law_286 ?_
  refine r_icmp_le (tgt := 295) hx hb ⟨by omega, by omega⟩ ⟨by decide, by decide⟩ dL_law_288 (by decide) (fun h_1 => absurd h_1 (by omega)) (fun h_1 => ?_)
  refine r_iconst hx hb dL_law_291 ?_
  refine lv_goto (tgt := 296) hx hb dL_law_292 (by decide) ?_
  refine lv_istore (lv' := [(22, .int (kI 1)), (21, .int (kI to)), (0, .ref b), (1, .ref (z + 0)), (2, .int (kI 1)), (3, .int (kI i)), (4, .int (kI y)), (5, .int (kI u)), (6, .int (kI w)), (7, .int (kI (σ 15 1))), (8, .int (kI (u % 2))), (9, .int (kI (u / 4 % 8))), (10, .int (kI (σ 2 0))), (11, .int (kI (atr σ (u % 2)))), (12, .int (kI (kor σ (u % 2) 2))), (13, .int (kI (σ 9 (u % 2)))), (14, .int (kI (σ 12 (u % 2)))), (15, .int (kI (σ 4 (u % 2 * 16 + u / 4 % 8)))), (16, .int (kI (σ 5 (u % 2 * 16 + u / 4 % 8)))), (17, .int (kI (pok σ (u % 2) (u / 4 % 8) 3))), (18, .int (kI (jud σ (u % 2) (u / 4 % 8) (1 + u / 32 % 4)))), (19, .int (kI (σ 14 1))), (20, .int (kI (σ 14 2)))]) hx hb dL_law_296 hl (by decide) rfl (fun ls hl => ?_)
  refine lv_aload_n hx hb dL_law_298 rfl (lv_at hl 3 rfl) ?_
  refine r_bipush hx hb dL_law_299 (by decide +kernel) ?_
  refine r_callW (na := 2) (own := RL) ⟨hx, hb, hml, hown, hts⟩ G hv (k_L_count_y l hst0 (σ := τ) (w := 9) ⟨by omega, by omega⟩ (aG.s) (by omega)) qC_L_count qM_L_138 qS_L_count qN_L (by decide +kernel) ⟨Nat.le_of_ble_eq_true rfl, Nat.le_of_ble_eq_true rfl⟩ rfl rfl hl.1 rfl (Nat.le_of_ble_eq_true rfl) dL_law_301 (hC (by omega) (by omega)) (fun H locs G => ?_)
  refine r_top (b := τ 15 1) (rfl) ?_
  refine lv_iload hx hb dL_law_304 (lv_at hl 0 rfl) ?_
  refine r_if_eq (tgt := 330) hx hb ⟨by decide, by decide⟩ dL_law_306 (by decide) (fun h_2 => absurd h_2 (by decide)) (fun _ => ?_)
  refine lv_iload hx hb dL_law_309 (lv_at hl 8 rfl) ?_
  refine r_iconst hx hb dL_law_311 ?_
  refine r_icmp_ne (tgt := 323) hx hb ⟨by omega, by omega⟩ ⟨by decide, by decide⟩ dL_law_312 (by decide) (fun h_3 => ?_) (fun h_3 => absurd h_3 (by omega))
  have jn342 : ∀ (_ : Unit), ∀ (H : Heap) (locs : List Loc) (k1 n1 : Nat), (k1 : Int) ≤ k0 + 4 → (n1 : Int) ≤ n0 + 24 → Wd D T z 133 τ s H locs → ∀ (ls : Array Slot), lv_has ls 23 [(22, .int (kI 1)), (21, .int (kI to)), (0, .ref b), (1, .ref (z + 0)), (2, .int (kI 1)), (3, .int (kI i)), (4, .int (kI y)), (5, .int (kI u)), (6, .int (kI w)), (7, .int (kI (σ 15 1))), (8, .int (kI (u % 2))), (9, .int (kI (u / 4 % 8))), (10, .int (kI (σ 2 0))), (11, .int (kI (atr σ (u % 2)))), (12, .int (kI (kor σ (u % 2) 2))), (13, .int (kI (σ 9 (u % 2)))), (14, .int (kI (σ 12 (u % 2)))), (15, .int (kI (σ 4 (u % 2 * 16 + u / 4 % 8)))), (16, .int (kI (σ 5 (u % 2 * 16 + u / 4 % 8)))), (17, .int (kI (pok σ (u % 2) (u / 4 % 8) 3))), (18, .int (kI (jud σ (u % 2) (u / 4 % 8) (1 + u / 32 % 4)))), (19, .int (kI (σ 14 1))), (20, .int (kI (σ 14 2)))] → W p l e room_1 s m #[Value.ref b] below meth c H locs k1 n1 Q (F0 m 342 ls []) := by
    intro _  H locs k1 n1 hk1 hn1 G ls hl
    refine r_iconst hx hb dL_law_342 ?_
    refine lv_goto (tgt := 347) hx hb dL_law_343 (by decide) ?_
    refine lv_istore_n (lv' := [(2, .int (kI 1)), (22, .int (kI 1)), (21, .int (kI to)), (0, .ref b), (1, .ref (z + 0)), (3, .int (kI i)), (4, .int (kI y)), (5, .int (kI u)), (6, .int (kI w)), (7, .int (kI (σ 15 1))), (8, .int (kI (u % 2))), (9, .int (kI (u / 4 % 8))), (10, .int (kI (σ 2 0))), (11, .int (kI (atr σ (u % 2)))), (12, .int (kI (kor σ (u % 2) 2))), (13, .int (kI (σ 9 (u % 2)))), (14, .int (kI (σ 12 (u % 2)))), (15, .int (kI (σ 4 (u % 2 * 16 + u / 4 % 8)))), (16, .int (kI (σ 5 (u % 2 * 16 + u / 4 % 8)))), (17, .int (kI (pok σ (u % 2) (u / 4 % 8) 3))), (18, .int (kI (jud σ (u % 2) (u / 4 % 8) (1 + u / 32 % 4)))), (19, .int (kI (σ 14 1))), (20, .int (kI (σ 14 2)))]) hx hb dL_law_347 rfl hl (by decide) rfl (fun ls hl => ?_)
    refine lv_iload_n hx hb dL_law_348 rfl (lv_at hl 0 rfl) ?_
    refine r_if_eq (tgt := 464) hx hb ⟨by decide, by decide⟩ dL_law_349 (by decide) (fun h_4 => absurd h_4 (by decide)) (fun _ => ?_)
    refine lv_iload hx hb dL_law_352 (lv_at hl 8 rfl) ?_
    refine r_bipush hx hb dL_law_354 (by decide +kernel) ?_
    refine r_icmp_le (tgt := 464) hx hb ⟨by omega, by omega⟩ ⟨by decide, by decide⟩ dL_law_356 (by decide) (fun h_5 => ?_) (fun h_5 => absurd h_5 (by omega))
    refine lv_iload_n hx hb dL_law_464 rfl (lv_at hl 0 rfl) ?_
    refine r_if_eq (tgt := 575) hx hb ⟨by decide, by decide⟩ dL_law_465 (by decide) (fun h_6 => absurd h_6 (by decide)) (fun _ => ?_)
    refine lv_iload hx hb dL_law_468 (lv_at hl 8 rfl) ?_
    refine r_bipush hx hb dL_law_470 (by decide +kernel) ?_
    refine r_icmp_le (tgt := 575) hx hb ⟨by omega, by omega⟩ ⟨by decide, by decide⟩ dL_law_472 (by decide) (fun h_7 => ?_) (fun h_7 => absurd h_7 (by omega))
    refine lv_iload_n hx hb dL_law_575 rfl (lv_at hl 0 rfl) ?_
    refine r_if_eq (tgt := 656) hx hb ⟨by decide, by decide⟩ dL_law_576 (by decide) (fun h_8 => absurd h_8 (by decide)) (fun _ => ?_)
    refine lv_iload hx hb dL_law_579 (lv_at hl 8 rfl) ?_
    refine r_iconst hx hb dL_law_581 ?_
    refine r_icmp_ne (tgt := 656) hx hb ⟨by omega, by omega⟩ ⟨by decide, by decide⟩ dL_law_582 (by decide) (fun h_9 => ?_) (fun h_9 => absurd h_9 (by omega))
    refine lv_iload_n hx hb dL_law_656 rfl (lv_at hl 0 rfl) ?_
    refine r_if_eq (tgt := 731) hx hb ⟨by decide, by decide⟩ dL_law_657 (by decide) (fun h_10 => absurd h_10 (by decide)) (fun _ => ?_)
    refine lv_iload hx hb dL_law_660 (lv_at hl 8 rfl) ?_
    refine r_bipush hx hb dL_law_662 (by decide +kernel) ?_
    refine r_icmp_ne (tgt := 731) hx hb ⟨by omega, by omega⟩ ⟨by decide, by decide⟩ dL_law_664 (by decide) (fun h_11 => ?_) (fun h_11 => absurd h_11 (by omega))
    refine lv_iload_n hx hb dL_law_731 rfl (lv_at hl 0 rfl) ?_
    refine r_if_eq (tgt := 784) hx hb ⟨by decide, by decide⟩ dL_law_732 (by decide) (fun h_12 => absurd h_12 (by decide)) (fun _ => ?_)
    refine lv_iload hx hb dL_law_735 (lv_at hl 8 rfl) ?_
    refine r_iconst hx hb dL_law_737 ?_
    refine r_icmp_eq (tgt := 748) hx hb ⟨by omega, by omega⟩ ⟨by decide, by decide⟩ dL_law_738 (by decide) (fun h_13 => absurd h_13 (by omega)) (fun h_13 => ?_)
    refine lv_iload hx hb dL_law_741 (lv_at hl 8 rfl) ?_
    refine r_bipush hx hb dL_law_743 (by decide +kernel) ?_
    refine r_icmp_ne (tgt := 784) hx hb ⟨by omega, by omega⟩ ⟨by decide, by decide⟩ dL_law_745 (by decide) (fun h_14 => ?_) (fun h_14 => absurd h_14 (by omega))
    refine lv_iload_n hx hb dL_law_784 rfl (lv_at hl 0 rfl) ?_
    refine r_if_eq (tgt := 882) hx hb ⟨by decide, by decide⟩ dL_law_785 (by decide) (fun h_15 => absurd h_15 (by decide)) (fun _ => ?_)
    refine lv_iload hx hb dL_law_788 (lv_at hl 8 rfl) ?_
    refine r_iconst hx hb dL_law_790 ?_
    refine r_icmp_ne (tgt := 882) hx hb ⟨by omega, by omega⟩ ⟨by decide, by decide⟩ dL_law_791 (by decide) (fun h_16 => ?_) (fun h_16 => absurd h_16 (by omega))
    exact W.widen (k := k0 + 20) (n := n0 + 120) (by omega) (by omega) (kk τ _ _ _ G aG (lv_sub hl [5, 0, 4, 3, 10] rfl))
  refine lv_iload hx hb dL_law_323 (lv_at hl 9 rfl) ?_
  refine r_bipush hx hb dL_law_325 (by decide +kernel) ?_
  refine r_icmp_ne (tgt := 335) hx hb ⟨by omega, by omega⟩ ⟨by decide, by decide⟩ dL_law_327 (by decide) (fun h_17 => ?_) (fun h_17 => ?_)
  · skip
    refine lv_iload hx hb dL_law_335 (lv_at hl 9 rfl) ?_
    refine r_iconst hx hb dL_law_337 ?_
    refine r_iadd hx hb dL_law_338 ?_
    refine r_icmp_ne (tgt := 346) hx hb ⟨by omega, by omega⟩ ⟨by omega, by omega⟩ dL_law_339 (by decide) (fun h_18 => absurd h_18 (by omega)) (fun h_18 => ?_)
    exact jn342 ()  _ _ _ _ (by omega) (by omega) G _ (lv_sub hl [0, 1, 2, 3, 4, 5, 6, 7, 8, 9, 10, 11, 12, 13, 14, 15, 16, 17, 18, 19, 20, 21, 22] rfl)
  · skip
    refine lv_iload hx hb dL_law_330 (lv_at hl 9 rfl) ?_
    refine lv_goto (tgt := 339) hx hb dL_law_332 (by decide) ?_
    refine r_icmp_ne (tgt := 346) hx hb ⟨by omega, by omega⟩ ⟨by omega, by omega⟩ dL_law_339 (by decide) (fun h_19 => absurd h_19 (by omega)) (fun h_19 => ?_)
    exact jn342 ()  _ _ _ _ (by omega) (by omega) G _ (lv_sub hl [0, 1, 2, 3, 4, 5, 6, 7, 8, 9, 10, 11, 12, 13, 14, 15, 16, 17, 18, 19, 20, 21, 22] rfl)
set_option maxRecDepth 100000 in
set_option maxHeartbeats 4000000 in
theorem lw_set1 {p : Program} {e : Env} {s : State} {m : MethodId} {below : List Frame} {meth : Method} {c : Code} {H : Heap} {locs : List Loc} {ls : Array Slot} {D : va_G} {T : Nat → ClassId} {σ : Mem} {z b k0 n0 : Nat} {Q : State → Prop} {n i y u w : Int} (l : Launch) (hst0 : l.stackTraces = false) (hx : p.tables.exec = Jvm.exec) (hb : c.code = cL_law) (hml : c.maxLocals = 23) (hown : s.vm.findClass RL = some m.cls) (hts : ∀ w ∈ Gw, w.before #[Value.ref b] s = true) (hv : Xv s) (hT : hol T < z) (G : Wd D T z 133 σ s H locs) (hG : GI n σ) (hn : 0 ≤ n ∧ n ≤ 800) (hi : 0 ≤ i ∧ i ≤ 44) (hy : 0 ≤ y ∧ y ≤ 2147483647) (hu : u = y / 16) (hw : w = y % 16) (h1 : w = 1) (h3 : u % 3 = 1) (hc0 : k0 + 20 ≤ 600130 ∧ n0 + 120 ≤ 7301079) (hl : lv_has ls 23 [(0, .ref b), (1, .ref (z + 0)), (2, .int (kI 1)), (3, .int (kI i)), (4, .int (kI y)), (5, .int (kI u)), (6, .int (kI w)), (7, .int (kI (σ 15 1))), (8, .int (kI (u % 2))), (9, .int (kI (u / 4 % 8))), (10, .int (kI (σ 2 0))), (11, .int (kI (atr σ (u % 2)))), (12, .int (kI (kor σ (u % 2) 2))), (13, .int (kI (σ 9 (u % 2)))), (14, .int (kI (σ 12 (u % 2)))), (15, .int (kI (σ 4 (u % 2 * 16 + u / 4 % 8)))), (16, .int (kI (σ 5 (u % 2 * 16 + u / 4 % 8)))), (17, .int (kI (pok σ (u % 2) (u / 4 % 8) 3))), (18, .int (kI (jud σ (u % 2) (u / 4 % 8) (1 + u / 32 % 4)))), (19, .int (kI (σ 14 1))), (20, .int (kI (σ 14 2)))]) (kk : ∀ (σ1 : Mem) (H1 : Heap) (locs1 : List Loc) (ls1 : Array Slot), Wd D T z 133 σ1 s H1 locs1 → GI (n + 1) σ1 → lv_has ls1 23 [(3, .int (kI i)), (2, .int (kI 1)), (1, .ref (z + 0)), (0, .ref b), (8, .int (kI (u % 2)))] → W p l e room_1 s m #[Value.ref b] below meth c H1 locs1 (k0 + 20) (n0 + 120) Q (F0 m 882 ls1 [])) : W p l e room_1 s m #[Value.ref b] below meth c H locs k0 n0 Q (F0 m 276 ls []) := by
  have hC : ∀ {a b : Nat}, a ≤ 600130 → b ≤ 7301079 → a ≤ room_1.cells ∧ b ≤ room_1.slots := fun h1 h2 => ⟨h1, h2⟩
  have hk4 : 0 ≤ u % 2 ∧ u % 2 < 4 := by omega
  have hx16 : 0 ≤ u / 4 % 8 ∧ u / 4 % 8 < 16 := by omega
  have hxw : 0 ≤ u / 4 % 16 ∧ u / 4 % 16 < 16 := by omega
  have hu0 : 0 ≤ u ∧ u ≤ 134217727 := by omega
  have hz := hG.z
  have hd := hG.i.ic.1
  have hday := hG.i.2.1
  have har := atr_rg (σ := σ) (k := u % 2)
  have hkr := kor_rg (σ := σ) (k := u % 2) (n := 2) (by decide)
  have hac := hG.i.ac hk4
  unfold ACk at hac
  have hky := hG.i.rg hk4 hx16
  have hpk := pok_c (σ := σ) (k := u % 2) (y := u / 4 % 8)
  have hjr := jud_rg (σ := σ) (k := u % 2) (y := u / 4 % 8) (q := 1 + u / 32 % 4)
  have hse := hG.s.2
  have hsea := hG.i.ic.2.1 (u % 2) hk4.1 hk4.2
  refine lv_aload_n hx hb dL_law_276 rfl (lv_at hl 1 rfl) ?_
  refine lv_iload hx hb dL_law_277 (lv_at hl 4 rfl) ?_
  refine r_callK (na := 2) (own := RL) ⟨hx, hb, hml, hown, hts⟩ hT G hv (k_L_acts_set1 l hst0 hG (by omega) hy hu (show y % 16 = 1 by omega) h3) (cSx hts qM_L_167 qS_L_acts qN_L qC_L_acts (by decide +kernel) ⟨Nat.le_of_ble_eq_true rfl, Nat.le_of_ble_eq_true rfl⟩) rfl rfl hl.1 rfl (Nat.le_of_ble_eq_true rfl) dL_law_279 (hC (by omega) (by omega)) (fun H locs G => ?_)
  obtain ⟨τ, hτ⟩ : ∃ τ, τ = up (pus σ) 14 (u % 3) (1 + u / 4 % 4) := ⟨_, rfl⟩
  rw [← hτ] at G
  refine r_name (fun to hto => ?_)
  have hA := ae_y (k := u % 3) (q := 1 + u / 4 % 4) hG ⟨fun _ => by omega, fun _ => by omega, fun _ => by omega⟩
  rw [← hτ] at hA
  obtain ⟨aG, a15⟩ := hA
  rw [pus_lo hG (by decide), h3] at hto
  refine lv_istore (lv' := [(21, .int (kI to)), (0, .ref b), (1, .ref (z + 0)), (2, .int (kI 1)), (3, .int (kI i)), (4, .int (kI y)), (5, .int (kI u)), (6, .int (kI w)), (7, .int (kI (σ 15 1))), (8, .int (kI (u % 2))), (9, .int (kI (u / 4 % 8))), (10, .int (kI (σ 2 0))), (11, .int (kI (atr σ (u % 2)))), (12, .int (kI (kor σ (u % 2) 2))), (13, .int (kI (σ 9 (u % 2)))), (14, .int (kI (σ 12 (u % 2)))), (15, .int (kI (σ 4 (u % 2 * 16 + u / 4 % 8)))), (16, .int (kI (σ 5 (u % 2 * 16 + u / 4 % 8)))), (17, .int (kI (pok σ (u % 2) (u / 4 % 8) 3))), (18, .int (kI (jud σ (u % 2) (u / 4 % 8) (1 + u / 32 % 4)))), (19, .int (kI (σ 14 1))), (20, .int (kI (σ 14 2)))]) hx hb dL_law_282 hl (by decide) rfl (fun ls hl => ?_)
  refine lv_iload hx hb dL_law_284 (lv_at hl 0 rfl) ?_
  refine r_ldc (n := -2000000) hx hb hts hown qCon_L_170 (by decide) dL_law_286 ?_
  refine r_icmp_le (tgt := 295) hx hb ⟨by omega, by omega⟩ ⟨by decide, by decide⟩ dL_law_288 (by decide) (fun h_1 => absurd h_1 (by omega)) (fun h_1 => ?_)
  refine r_iconst hx hb dL_law_291 ?_
  refine lv_goto (tgt := 296) hx hb dL_law_292 (by decide) ?_
  refine lv_istore (lv' := [(22, .int (kI 1)), (21, .int (kI to)), (0, .ref b), (1, .ref (z + 0)), (2, .int (kI 1)), (3, .int (kI i)), (4, .int (kI y)), (5, .int (kI u)), (6, .int (kI w)), (7, .int (kI (σ 15 1))), (8, .int (kI (u % 2))), (9, .int (kI (u / 4 % 8))), (10, .int (kI (σ 2 0))), (11, .int (kI (atr σ (u % 2)))), (12, .int (kI (kor σ (u % 2) 2))), (13, .int (kI (σ 9 (u % 2)))), (14, .int (kI (σ 12 (u % 2)))), (15, .int (kI (σ 4 (u % 2 * 16 + u / 4 % 8)))), (16, .int (kI (σ 5 (u % 2 * 16 + u / 4 % 8)))), (17, .int (kI (pok σ (u % 2) (u / 4 % 8) 3))), (18, .int (kI (jud σ (u % 2) (u / 4 % 8) (1 + u / 32 % 4)))), (19, .int (kI (σ 14 1))), (20, .int (kI (σ 14 2)))]) hx hb dL_law_296 hl (by decide) rfl (fun ls hl => ?_)
  refine lv_aload_n hx hb dL_law_298 rfl (lv_at hl 3 rfl) ?_
  refine r_bipush hx hb dL_law_299 (by decide +kernel) ?_
  refine r_callW (na := 2) (own := RL) ⟨hx, hb, hml, hown, hts⟩ G hv (k_L_count_y l hst0 (σ := τ) (w := 9) ⟨by omega, by omega⟩ (aG.s) (by omega)) qC_L_count qM_L_138 qS_L_count qN_L (by decide +kernel) ⟨Nat.le_of_ble_eq_true rfl, Nat.le_of_ble_eq_true rfl⟩ rfl rfl hl.1 rfl (Nat.le_of_ble_eq_true rfl) dL_law_301 (hC (by omega) (by omega)) (fun H locs G => ?_)
  refine r_top (b := τ 15 1) (rfl) ?_
  refine lv_iload hx hb dL_law_304 (lv_at hl 0 rfl) ?_
  refine r_if_eq (tgt := 330) hx hb ⟨by decide, by decide⟩ dL_law_306 (by decide) (fun h_2 => absurd h_2 (by decide)) (fun _ => ?_)
  refine lv_iload hx hb dL_law_309 (lv_at hl 8 rfl) ?_
  refine r_iconst hx hb dL_law_311 ?_
  refine r_icmp_ne (tgt := 323) hx hb ⟨by omega, by omega⟩ ⟨by decide, by decide⟩ dL_law_312 (by decide) (fun h_3 => ?_) (fun h_3 => absurd h_3 (by omega))
  have jn342 : ∀ (_ : Unit), ∀ (H : Heap) (locs : List Loc) (k1 n1 : Nat), (k1 : Int) ≤ k0 + 4 → (n1 : Int) ≤ n0 + 24 → Wd D T z 133 τ s H locs → ∀ (ls : Array Slot), lv_has ls 23 [(22, .int (kI 1)), (21, .int (kI to)), (0, .ref b), (1, .ref (z + 0)), (2, .int (kI 1)), (3, .int (kI i)), (4, .int (kI y)), (5, .int (kI u)), (6, .int (kI w)), (7, .int (kI (σ 15 1))), (8, .int (kI (u % 2))), (9, .int (kI (u / 4 % 8))), (10, .int (kI (σ 2 0))), (11, .int (kI (atr σ (u % 2)))), (12, .int (kI (kor σ (u % 2) 2))), (13, .int (kI (σ 9 (u % 2)))), (14, .int (kI (σ 12 (u % 2)))), (15, .int (kI (σ 4 (u % 2 * 16 + u / 4 % 8)))), (16, .int (kI (σ 5 (u % 2 * 16 + u / 4 % 8)))), (17, .int (kI (pok σ (u % 2) (u / 4 % 8) 3))), (18, .int (kI (jud σ (u % 2) (u / 4 % 8) (1 + u / 32 % 4)))), (19, .int (kI (σ 14 1))), (20, .int (kI (σ 14 2)))] → W p l e room_1 s m #[Value.ref b] below meth c H locs k1 n1 Q (F0 m 342 ls []) := by
    intro _  H locs k1 n1 hk1 hn1 G ls hl
    refine r_iconst hx hb dL_law_342 ?_
    refine lv_goto (tgt := 347) hx hb dL_law_343 (by decide) ?_
    refine lv_istore_n (lv' := [(2, .int (kI 1)), (22, .int (kI 1)), (21, .int (kI to)), (0, .ref b), (1, .ref (z + 0)), (3, .int (kI i)), (4, .int (kI y)), (5, .int (kI u)), (6, .int (kI w)), (7, .int (kI (σ 15 1))), (8, .int (kI (u % 2))), (9, .int (kI (u / 4 % 8))), (10, .int (kI (σ 2 0))), (11, .int (kI (atr σ (u % 2)))), (12, .int (kI (kor σ (u % 2) 2))), (13, .int (kI (σ 9 (u % 2)))), (14, .int (kI (σ 12 (u % 2)))), (15, .int (kI (σ 4 (u % 2 * 16 + u / 4 % 8)))), (16, .int (kI (σ 5 (u % 2 * 16 + u / 4 % 8)))), (17, .int (kI (pok σ (u % 2) (u / 4 % 8) 3))), (18, .int (kI (jud σ (u % 2) (u / 4 % 8) (1 + u / 32 % 4)))), (19, .int (kI (σ 14 1))), (20, .int (kI (σ 14 2)))]) hx hb dL_law_347 rfl hl (by decide) rfl (fun ls hl => ?_)
    refine lv_iload_n hx hb dL_law_348 rfl (lv_at hl 0 rfl) ?_
    refine r_if_eq (tgt := 464) hx hb ⟨by decide, by decide⟩ dL_law_349 (by decide) (fun h_4 => absurd h_4 (by decide)) (fun _ => ?_)
    refine lv_iload hx hb dL_law_352 (lv_at hl 8 rfl) ?_
    refine r_bipush hx hb dL_law_354 (by decide +kernel) ?_
    refine r_icmp_le (tgt := 464) hx hb ⟨by omega, by omega⟩ ⟨by decide, by decide⟩ dL_law_356 (by decide) (fun h_5 => ?_) (fun h_5 => absurd h_5 (by omega))
    refine lv_iload_n hx hb dL_law_464 rfl (lv_at hl 0 rfl) ?_
    refine r_if_eq (tgt := 575) hx hb ⟨by decide, by decide⟩ dL_law_465 (by decide) (fun h_6 => absurd h_6 (by decide)) (fun _ => ?_)
    refine lv_iload hx hb dL_law_468 (lv_at hl 8 rfl) ?_
    refine r_bipush hx hb dL_law_470 (by decide +kernel) ?_
    refine r_icmp_le (tgt := 575) hx hb ⟨by omega, by omega⟩ ⟨by decide, by decide⟩ dL_law_472 (by decide) (fun h_7 => ?_) (fun h_7 => absurd h_7 (by omega))
    refine lv_iload_n hx hb dL_law_575 rfl (lv_at hl 0 rfl) ?_
    refine r_if_eq (tgt := 656) hx hb ⟨by decide, by decide⟩ dL_law_576 (by decide) (fun h_8 => absurd h_8 (by decide)) (fun _ => ?_)
    refine lv_iload hx hb dL_law_579 (lv_at hl 8 rfl) ?_
    refine r_iconst hx hb dL_law_581 ?_
    refine r_icmp_ne (tgt := 656) hx hb ⟨by omega, by omega⟩ ⟨by decide, by decide⟩ dL_law_582 (by decide) (fun h_9 => ?_) (fun h_9 => absurd h_9 (by omega))
    refine lv_iload_n hx hb dL_law_656 rfl (lv_at hl 0 rfl) ?_
    refine r_if_eq (tgt := 731) hx hb ⟨by decide, by decide⟩ dL_law_657 (by decide) (fun h_10 => absurd h_10 (by decide)) (fun _ => ?_)
    refine lv_iload hx hb dL_law_660 (lv_at hl 8 rfl) ?_
    refine r_bipush hx hb dL_law_662 (by decide +kernel) ?_
    refine r_icmp_ne (tgt := 731) hx hb ⟨by omega, by omega⟩ ⟨by decide, by decide⟩ dL_law_664 (by decide) (fun h_11 => ?_) (fun h_11 => absurd h_11 (by omega))
    refine lv_iload_n hx hb dL_law_731 rfl (lv_at hl 0 rfl) ?_
    refine r_if_eq (tgt := 784) hx hb ⟨by decide, by decide⟩ dL_law_732 (by decide) (fun h_12 => absurd h_12 (by decide)) (fun _ => ?_)
    refine lv_iload hx hb dL_law_735 (lv_at hl 8 rfl) ?_
    refine r_iconst hx hb dL_law_737 ?_
    refine r_icmp_eq (tgt := 748) hx hb ⟨by omega, by omega⟩ ⟨by decide, by decide⟩ dL_law_738 (by decide) (fun h_13 => absurd h_13 (by omega)) (fun h_13 => ?_)
    refine lv_iload hx hb dL_law_741 (lv_at hl 8 rfl) ?_
    refine r_bipush hx hb dL_law_743 (by decide +kernel) ?_
    refine r_icmp_ne (tgt := 784) hx hb ⟨by omega, by omega⟩ ⟨by decide, by decide⟩ dL_law_745 (by decide) (fun h_14 => ?_) (fun h_14 => absurd h_14 (by omega))
    refine lv_iload_n hx hb dL_law_784 rfl (lv_at hl 0 rfl) ?_
    refine r_if_eq (tgt := 882) hx hb ⟨by decide, by decide⟩ dL_law_785 (by decide) (fun h_15 => absurd h_15 (by decide)) (fun _ => ?_)
    refine lv_iload hx hb dL_law_788 (lv_at hl 8 rfl) ?_
    refine r_iconst hx hb dL_law_790 ?_
    refine r_icmp_ne (tgt := 882) hx hb ⟨by omega, by omega⟩ ⟨by decide, by decide⟩ dL_law_791 (by decide) (fun h_16 => ?_) (fun h_16 => absurd h_16 (by omega))
    exact W.widen (k := k0 + 20) (n := n0 + 120) (by omega) (by omega) (kk τ _ _ _ G aG (lv_sub hl [5, 0, 4, 3, 10] rfl))
  refine lv_iload hx hb dL_law_323 (lv_at hl 9 rfl) ?_
  refine r_bipush hx hb dL_law_325 (by decide +kernel) ?_
  refine r_icmp_ne (tgt := 335) hx hb ⟨by omega, by omega⟩ ⟨by decide, by decide⟩ dL_law_327 (by decide) (fun h_17 => ?_) (fun h_17 => ?_)
  · skip
    refine lv_iload hx hb dL_law_335 (lv_at hl 9 rfl) ?_
    refine r_iconst hx hb dL_law_337 ?_
    refine r_iadd hx hb dL_law_338 ?_
    refine r_icmp_ne (tgt := 346) hx hb ⟨by omega, by omega⟩ ⟨by omega, by omega⟩ dL_law_339 (by decide) (fun h_18 => absurd h_18 (by omega)) (fun h_18 => ?_)
    exact jn342 ()  _ _ _ _ (by omega) (by omega) G _ (lv_sub hl [0, 1, 2, 3, 4, 5, 6, 7, 8, 9, 10, 11, 12, 13, 14, 15, 16, 17, 18, 19, 20, 21, 22] rfl)
  · skip
    refine lv_iload hx hb dL_law_330 (lv_at hl 9 rfl) ?_
    refine lv_goto (tgt := 339) hx hb dL_law_332 (by decide) ?_
    refine r_icmp_ne (tgt := 346) hx hb ⟨by omega, by omega⟩ ⟨by omega, by omega⟩ dL_law_339 (by decide) (fun h_19 => absurd h_19 (by omega)) (fun h_19 => ?_)
    exact jn342 ()  _ _ _ _ (by omega) (by omega) G _ (lv_sub hl [0, 1, 2, 3, 4, 5, 6, 7, 8, 9, 10, 11, 12, 13, 14, 15, 16, 17, 18, 19, 20, 21, 22] rfl)
set_option maxRecDepth 100000 in
set_option maxHeartbeats 4000000 in
theorem lw_set2 {p : Program} {e : Env} {s : State} {m : MethodId} {below : List Frame} {meth : Method} {c : Code} {H : Heap} {locs : List Loc} {ls : Array Slot} {D : va_G} {T : Nat → ClassId} {σ : Mem} {z b k0 n0 : Nat} {Q : State → Prop} {n i y u w : Int} (l : Launch) (hst0 : l.stackTraces = false) (hx : p.tables.exec = Jvm.exec) (hb : c.code = cL_law) (hml : c.maxLocals = 23) (hown : s.vm.findClass RL = some m.cls) (hts : ∀ w ∈ Gw, w.before #[Value.ref b] s = true) (hv : Xv s) (hT : hol T < z) (G : Wd D T z 133 σ s H locs) (hG : GI n σ) (hn : 0 ≤ n ∧ n ≤ 800) (hi : 0 ≤ i ∧ i ≤ 44) (hy : 0 ≤ y ∧ y ≤ 2147483647) (hu : u = y / 16) (hw : w = y % 16) (h1 : w = 1) (h3 : u % 3 = 2) (hc0 : k0 + 20 ≤ 600130 ∧ n0 + 120 ≤ 7301079) (hl : lv_has ls 23 [(0, .ref b), (1, .ref (z + 0)), (2, .int (kI 1)), (3, .int (kI i)), (4, .int (kI y)), (5, .int (kI u)), (6, .int (kI w)), (7, .int (kI (σ 15 1))), (8, .int (kI (u % 2))), (9, .int (kI (u / 4 % 8))), (10, .int (kI (σ 2 0))), (11, .int (kI (atr σ (u % 2)))), (12, .int (kI (kor σ (u % 2) 2))), (13, .int (kI (σ 9 (u % 2)))), (14, .int (kI (σ 12 (u % 2)))), (15, .int (kI (σ 4 (u % 2 * 16 + u / 4 % 8)))), (16, .int (kI (σ 5 (u % 2 * 16 + u / 4 % 8)))), (17, .int (kI (pok σ (u % 2) (u / 4 % 8) 3))), (18, .int (kI (jud σ (u % 2) (u / 4 % 8) (1 + u / 32 % 4)))), (19, .int (kI (σ 14 1))), (20, .int (kI (σ 14 2)))]) (kk : ∀ (σ1 : Mem) (H1 : Heap) (locs1 : List Loc) (ls1 : Array Slot), Wd D T z 133 σ1 s H1 locs1 → GI (n + 1) σ1 → lv_has ls1 23 [(3, .int (kI i)), (2, .int (kI 1)), (1, .ref (z + 0)), (0, .ref b), (8, .int (kI (u % 2)))] → W p l e room_1 s m #[Value.ref b] below meth c H1 locs1 (k0 + 20) (n0 + 120) Q (F0 m 882 ls1 [])) : W p l e room_1 s m #[Value.ref b] below meth c H locs k0 n0 Q (F0 m 276 ls []) := by
  have hC : ∀ {a b : Nat}, a ≤ 600130 → b ≤ 7301079 → a ≤ room_1.cells ∧ b ≤ room_1.slots := fun h1 h2 => ⟨h1, h2⟩
  have hk4 : 0 ≤ u % 2 ∧ u % 2 < 4 := by omega
  have hx16 : 0 ≤ u / 4 % 8 ∧ u / 4 % 8 < 16 := by omega
  have hxw : 0 ≤ u / 4 % 16 ∧ u / 4 % 16 < 16 := by omega
  have hu0 : 0 ≤ u ∧ u ≤ 134217727 := by omega
  have hz := hG.z
  have hd := hG.i.ic.1
  have hday := hG.i.2.1
  have har := atr_rg (σ := σ) (k := u % 2)
  have hkr := kor_rg (σ := σ) (k := u % 2) (n := 2) (by decide)
  have hac := hG.i.ac hk4
  unfold ACk at hac
  have hky := hG.i.rg hk4 hx16
  have hpk := pok_c (σ := σ) (k := u % 2) (y := u / 4 % 8)
  have hjr := jud_rg (σ := σ) (k := u % 2) (y := u / 4 % 8) (q := 1 + u / 32 % 4)
  have hse := hG.s.2
  have hsea := hG.i.ic.2.1 (u % 2) hk4.1 hk4.2
  refine lv_aload_n hx hb dL_law_276 rfl (lv_at hl 1 rfl) ?_
  refine lv_iload hx hb dL_law_277 (lv_at hl 4 rfl) ?_
  refine r_callK (na := 2) (own := RL) ⟨hx, hb, hml, hown, hts⟩ hT G hv (k_L_acts_set2 l hst0 hG (by omega) hy hu (show y % 16 = 1 by omega) h3) (cSx hts qM_L_167 qS_L_acts qN_L qC_L_acts (by decide +kernel) ⟨Nat.le_of_ble_eq_true rfl, Nat.le_of_ble_eq_true rfl⟩) rfl rfl hl.1 rfl (Nat.le_of_ble_eq_true rfl) dL_law_279 (hC (by omega) (by omega)) (fun H locs G => ?_)
  obtain ⟨τ, hτ⟩ : ∃ τ, τ = up (pus σ) 14 (u % 3) (u / 4 % 8) := ⟨_, rfl⟩
  rw [← hτ] at G
  refine r_name (fun to hto => ?_)
  have hA := ae_y (k := u % 3) (q := u / 4 % 8) hG ⟨fun _ => by omega, fun _ => by omega, fun _ => by omega⟩
  rw [← hτ] at hA
  obtain ⟨aG, a15⟩ := hA
  rw [pus_lo hG (by decide), h3] at hto
  refine lv_istore (lv' := [(21, .int (kI to)), (0, .ref b), (1, .ref (z + 0)), (2, .int (kI 1)), (3, .int (kI i)), (4, .int (kI y)), (5, .int (kI u)), (6, .int (kI w)), (7, .int (kI (σ 15 1))), (8, .int (kI (u % 2))), (9, .int (kI (u / 4 % 8))), (10, .int (kI (σ 2 0))), (11, .int (kI (atr σ (u % 2)))), (12, .int (kI (kor σ (u % 2) 2))), (13, .int (kI (σ 9 (u % 2)))), (14, .int (kI (σ 12 (u % 2)))), (15, .int (kI (σ 4 (u % 2 * 16 + u / 4 % 8)))), (16, .int (kI (σ 5 (u % 2 * 16 + u / 4 % 8)))), (17, .int (kI (pok σ (u % 2) (u / 4 % 8) 3))), (18, .int (kI (jud σ (u % 2) (u / 4 % 8) (1 + u / 32 % 4)))), (19, .int (kI (σ 14 1))), (20, .int (kI (σ 14 2)))]) hx hb dL_law_282 hl (by decide) rfl (fun ls hl => ?_)
  refine lv_iload hx hb dL_law_284 (lv_at hl 0 rfl) ?_
  refine r_ldc (n := -2000000) hx hb hts hown qCon_L_170 (by decide) dL_law_286 ?_
  refine r_icmp_le (tgt := 295) hx hb ⟨by omega, by omega⟩ ⟨by decide, by decide⟩ dL_law_288 (by decide) (fun h_1 => absurd h_1 (by omega)) (fun h_1 => ?_)
  refine r_iconst hx hb dL_law_291 ?_
  refine lv_goto (tgt := 296) hx hb dL_law_292 (by decide) ?_
  refine lv_istore (lv' := [(22, .int (kI 1)), (21, .int (kI to)), (0, .ref b), (1, .ref (z + 0)), (2, .int (kI 1)), (3, .int (kI i)), (4, .int (kI y)), (5, .int (kI u)), (6, .int (kI w)), (7, .int (kI (σ 15 1))), (8, .int (kI (u % 2))), (9, .int (kI (u / 4 % 8))), (10, .int (kI (σ 2 0))), (11, .int (kI (atr σ (u % 2)))), (12, .int (kI (kor σ (u % 2) 2))), (13, .int (kI (σ 9 (u % 2)))), (14, .int (kI (σ 12 (u % 2)))), (15, .int (kI (σ 4 (u % 2 * 16 + u / 4 % 8)))), (16, .int (kI (σ 5 (u % 2 * 16 + u / 4 % 8)))), (17, .int (kI (pok σ (u % 2) (u / 4 % 8) 3))), (18, .int (kI (jud σ (u % 2) (u / 4 % 8) (1 + u / 32 % 4)))), (19, .int (kI (σ 14 1))), (20, .int (kI (σ 14 2)))]) hx hb dL_law_296 hl (by decide) rfl (fun ls hl => ?_)
  refine lv_aload_n hx hb dL_law_298 rfl (lv_at hl 3 rfl) ?_
  refine r_bipush hx hb dL_law_299 (by decide +kernel) ?_
  refine r_callW (na := 2) (own := RL) ⟨hx, hb, hml, hown, hts⟩ G hv (k_L_count_y l hst0 (σ := τ) (w := 9) ⟨by omega, by omega⟩ (aG.s) (by omega)) qC_L_count qM_L_138 qS_L_count qN_L (by decide +kernel) ⟨Nat.le_of_ble_eq_true rfl, Nat.le_of_ble_eq_true rfl⟩ rfl rfl hl.1 rfl (Nat.le_of_ble_eq_true rfl) dL_law_301 (hC (by omega) (by omega)) (fun H locs G => ?_)
  refine r_top (b := τ 15 1) (rfl) ?_
  refine lv_iload hx hb dL_law_304 (lv_at hl 0 rfl) ?_
  refine r_if_eq (tgt := 330) hx hb ⟨by decide, by decide⟩ dL_law_306 (by decide) (fun h_2 => absurd h_2 (by decide)) (fun _ => ?_)
  refine lv_iload hx hb dL_law_309 (lv_at hl 8 rfl) ?_
  refine r_iconst hx hb dL_law_311 ?_
  refine r_icmp_ne (tgt := 323) hx hb ⟨by omega, by omega⟩ ⟨by decide, by decide⟩ dL_law_312 (by decide) (fun h_3 => ?_) (fun h_3 => absurd h_3 (by omega))
  have jn342 : ∀ (_ : Unit), ∀ (H : Heap) (locs : List Loc) (k1 n1 : Nat), (k1 : Int) ≤ k0 + 4 → (n1 : Int) ≤ n0 + 24 → Wd D T z 133 τ s H locs → ∀ (ls : Array Slot), lv_has ls 23 [(22, .int (kI 1)), (21, .int (kI to)), (0, .ref b), (1, .ref (z + 0)), (2, .int (kI 1)), (3, .int (kI i)), (4, .int (kI y)), (5, .int (kI u)), (6, .int (kI w)), (7, .int (kI (σ 15 1))), (8, .int (kI (u % 2))), (9, .int (kI (u / 4 % 8))), (10, .int (kI (σ 2 0))), (11, .int (kI (atr σ (u % 2)))), (12, .int (kI (kor σ (u % 2) 2))), (13, .int (kI (σ 9 (u % 2)))), (14, .int (kI (σ 12 (u % 2)))), (15, .int (kI (σ 4 (u % 2 * 16 + u / 4 % 8)))), (16, .int (kI (σ 5 (u % 2 * 16 + u / 4 % 8)))), (17, .int (kI (pok σ (u % 2) (u / 4 % 8) 3))), (18, .int (kI (jud σ (u % 2) (u / 4 % 8) (1 + u / 32 % 4)))), (19, .int (kI (σ 14 1))), (20, .int (kI (σ 14 2)))] → W p l e room_1 s m #[Value.ref b] below meth c H locs k1 n1 Q (F0 m 342 ls []) := by
    intro _  H locs k1 n1 hk1 hn1 G ls hl
    refine r_iconst hx hb dL_law_342 ?_
    refine lv_goto (tgt := 347) hx hb dL_law_343 (by decide) ?_
    refine lv_istore_n (lv' := [(2, .int (kI 1)), (22, .int (kI 1)), (21, .int (kI to)), (0, .ref b), (1, .ref (z + 0)), (3, .int (kI i)), (4, .int (kI y)), (5, .int (kI u)), (6, .int (kI w)), (7, .int (kI (σ 15 1))), (8, .int (kI (u % 2))), (9, .int (kI (u / 4 % 8))), (10, .int (kI (σ 2 0))), (11, .int (kI (atr σ (u % 2)))), (12, .int (kI (kor σ (u % 2) 2))), (13, .int (kI (σ 9 (u % 2)))), (14, .int (kI (σ 12 (u % 2)))), (15, .int (kI (σ 4 (u % 2 * 16 + u / 4 % 8)))), (16, .int (kI (σ 5 (u % 2 * 16 + u / 4 % 8)))), (17, .int (kI (pok σ (u % 2) (u / 4 % 8) 3))), (18, .int (kI (jud σ (u % 2) (u / 4 % 8) (1 + u / 32 % 4)))), (19, .int (kI (σ 14 1))), (20, .int (kI (σ 14 2)))]) hx hb dL_law_347 rfl hl (by decide) rfl (fun ls hl => ?_)
    refine lv_iload_n hx hb dL_law_348 rfl (lv_at hl 0 rfl) ?_
    refine r_if_eq (tgt := 464) hx hb ⟨by decide, by decide⟩ dL_law_349 (by decide) (fun h_4 => absurd h_4 (by decide)) (fun _ => ?_)
    refine lv_iload hx hb dL_law_352 (lv_at hl 8 rfl) ?_
    refine r_bipush hx hb dL_law_354 (by decide +kernel) ?_
    refine r_icmp_le (tgt := 464) hx hb ⟨by omega, by omega⟩ ⟨by decide, by decide⟩ dL_law_356 (by decide) (fun h_5 => ?_) (fun h_5 => absurd h_5 (by omega))
    refine lv_iload_n hx hb dL_law_464 rfl (lv_at hl 0 rfl) ?_
    refine r_if_eq (tgt := 575) hx hb ⟨by decide, by decide⟩ dL_law_465 (by decide) (fun h_6 => absurd h_6 (by decide)) (fun _ => ?_)
    refine lv_iload hx hb dL_law_468 (lv_at hl 8 rfl) ?_
    refine r_bipush hx hb dL_law_470 (by decide +kernel) ?_
    refine r_icmp_le (tgt := 575) hx hb ⟨by omega, by omega⟩ ⟨by decide, by decide⟩ dL_law_472 (by decide) (fun h_7 => ?_) (fun h_7 => absurd h_7 (by omega))
    refine lv_iload_n hx hb dL_law_575 rfl (lv_at hl 0 rfl) ?_
    refine r_if_eq (tgt := 656) hx hb ⟨by decide, by decide⟩ dL_law_576 (by decide) (fun h_8 => absurd h_8 (by decide)) (fun _ => ?_)
    refine lv_iload hx hb dL_law_579 (lv_at hl 8 rfl) ?_
    refine r_iconst hx hb dL_law_581 ?_
    refine r_icmp_ne (tgt := 656) hx hb ⟨by omega, by omega⟩ ⟨by decide, by decide⟩ dL_law_582 (by decide) (fun h_9 => ?_) (fun h_9 => absurd h_9 (by omega))
    refine lv_iload_n hx hb dL_law_656 rfl (lv_at hl 0 rfl) ?_
    refine r_if_eq (tgt := 731) hx hb ⟨by decide, by decide⟩ dL_law_657 (by decide) (fun h_10 => absurd h_10 (by decide)) (fun _ => ?_)
    refine lv_iload hx hb dL_law_660 (lv_at hl 8 rfl) ?_
    refine r_bipush hx hb dL_law_662 (by decide +kernel) ?_
    refine r_icmp_ne (tgt := 731) hx hb ⟨by omega, by omega⟩ ⟨by decide, by decide⟩ dL_law_664 (by decide) (fun h_11 => ?_) (fun h_11 => absurd h_11 (by omega))
    refine lv_iload_n hx hb dL_law_731 rfl (lv_at hl 0 rfl) ?_
    refine r_if_eq (tgt := 784) hx hb ⟨by decide, by decide⟩ dL_law_732 (by decide) (fun h_12 => absurd h_12 (by decide)) (fun _ => ?_)
    refine lv_iload hx hb dL_law_735 (lv_at hl 8 rfl) ?_
    refine r_iconst hx hb dL_law_737 ?_
    refine r_icmp_eq (tgt := 748) hx hb ⟨by omega, by omega⟩ ⟨by decide, by decide⟩ dL_law_738 (by decide) (fun h_13 => absurd h_13 (by omega)) (fun h_13 => ?_)
    refine lv_iload hx hb dL_law_741 (lv_at hl 8 rfl) ?_
    refine r_bipush hx hb dL_law_743 (by decide +kernel) ?_
    refine r_icmp_ne (tgt := 784) hx hb ⟨by omega, by omega⟩ ⟨by decide, by decide⟩ dL_law_745 (by decide) (fun h_14 => ?_) (fun h_14 => absurd h_14 (by omega))
    refine lv_iload_n hx hb dL_law_784 rfl (lv_at hl 0 rfl) ?_
    refine r_if_eq (tgt := 882) hx hb ⟨by decide, by decide⟩ dL_law_785 (by decide) (fun h_15 => absurd h_15 (by decide)) (fun _ => ?_)
    refine lv_iload hx hb dL_law_788 (lv_at hl 8 rfl) ?_
    refine r_iconst hx hb dL_law_790 ?_
    refine r_icmp_ne (tgt := 882) hx hb ⟨by omega, by omega⟩ ⟨by decide, by decide⟩ dL_law_791 (by decide) (fun h_16 => ?_) (fun h_16 => absurd h_16 (by omega))
    exact W.widen (k := k0 + 20) (n := n0 + 120) (by omega) (by omega) (kk τ _ _ _ G aG (lv_sub hl [5, 0, 4, 3, 10] rfl))
  refine lv_iload hx hb dL_law_323 (lv_at hl 9 rfl) ?_
  refine r_bipush hx hb dL_law_325 (by decide +kernel) ?_
  refine r_icmp_ne (tgt := 335) hx hb ⟨by omega, by omega⟩ ⟨by decide, by decide⟩ dL_law_327 (by decide) (fun h_17 => ?_) (fun h_17 => ?_)
  · skip
    refine lv_iload hx hb dL_law_335 (lv_at hl 9 rfl) ?_
    refine r_iconst hx hb dL_law_337 ?_
    refine r_iadd hx hb dL_law_338 ?_
    refine r_icmp_ne (tgt := 346) hx hb ⟨by omega, by omega⟩ ⟨by omega, by omega⟩ dL_law_339 (by decide) (fun h_18 => absurd h_18 (by omega)) (fun h_18 => ?_)
    exact jn342 ()  _ _ _ _ (by omega) (by omega) G _ (lv_sub hl [0, 1, 2, 3, 4, 5, 6, 7, 8, 9, 10, 11, 12, 13, 14, 15, 16, 17, 18, 19, 20, 21, 22] rfl)
  · skip
    refine lv_iload hx hb dL_law_330 (lv_at hl 9 rfl) ?_
    refine lv_goto (tgt := 339) hx hb dL_law_332 (by decide) ?_
    refine r_icmp_ne (tgt := 346) hx hb ⟨by omega, by omega⟩ ⟨by omega, by omega⟩ dL_law_339 (by decide) (fun h_19 => absurd h_19 (by omega)) (fun h_19 => ?_)
    exact jn342 ()  _ _ _ _ (by omega) (by omega) G _ (lv_sub hl [0, 1, 2, 3, 4, 5, 6, 7, 8, 9, 10, 11, 12, 13, 14, 15, 16, 17, 18, 19, 20, 21, 22] rfl)
set_option maxRecDepth 100000 in
set_option maxHeartbeats 4000000 in
theorem lw_trn {p : Program} {e : Env} {s : State} {m : MethodId} {below : List Frame} {meth : Method} {c : Code} {H : Heap} {locs : List Loc} {ls : Array Slot} {D : va_G} {T : Nat → ClassId} {σ : Mem} {z b k0 n0 : Nat} {Q : State → Prop} {n i y u w : Int} (l : Launch) (hst0 : l.stackTraces = false) (hx : p.tables.exec = Jvm.exec) (hb : c.code = cL_law) (hml : c.maxLocals = 23) (hown : s.vm.findClass RL = some m.cls) (hts : ∀ w ∈ Gw, w.before #[Value.ref b] s = true) (hv : Xv s) (hT : hol T < z) (G : Wd D T z 133 σ s H locs) (hG : GI n σ) (hn : 0 ≤ n ∧ n ≤ 800) (hi : 0 ≤ i ∧ i ≤ 44) (hy : 0 ≤ y ∧ y ≤ 2147483647) (hu : u = y / 16) (hw : w = y % 16) (h1 : w = 2) (h3 : u % 3 = 0) (hc0 : k0 + 20 ≤ 600130 ∧ n0 + 120 ≤ 7301079) (hl : lv_has ls 23 [(0, .ref b), (1, .ref (z + 0)), (2, .int (kI 1)), (3, .int (kI i)), (4, .int (kI y)), (5, .int (kI u)), (6, .int (kI w)), (7, .int (kI (σ 15 1))), (8, .int (kI (u % 2))), (9, .int (kI (u / 4 % 8))), (10, .int (kI (σ 2 0))), (11, .int (kI (atr σ (u % 2)))), (12, .int (kI (kor σ (u % 2) 2))), (13, .int (kI (σ 9 (u % 2)))), (14, .int (kI (σ 12 (u % 2)))), (15, .int (kI (σ 4 (u % 2 * 16 + u / 4 % 8)))), (16, .int (kI (σ 5 (u % 2 * 16 + u / 4 % 8)))), (17, .int (kI (pok σ (u % 2) (u / 4 % 8) 3))), (18, .int (kI (jud σ (u % 2) (u / 4 % 8) (1 + u / 32 % 4)))), (19, .int (kI (σ 14 1))), (20, .int (kI (σ 14 2)))]) (kk : ∀ (σ1 : Mem) (H1 : Heap) (locs1 : List Loc) (ls1 : Array Slot), Wd D T z 133 σ1 s H1 locs1 → GI (n + 1) σ1 → lv_has ls1 23 [(3, .int (kI i)), (2, .int (kI 1)), (1, .ref (z + 0)), (0, .ref b), (8, .int (kI (u % 2)))] → W p l e room_1 s m #[Value.ref b] below meth c H1 locs1 (k0 + 20) (n0 + 120) Q (F0 m 882 ls1 [])) : W p l e room_1 s m #[Value.ref b] below meth c H locs k0 n0 Q (F0 m 276 ls []) := by
  have hC : ∀ {a b : Nat}, a ≤ 600130 → b ≤ 7301079 → a ≤ room_1.cells ∧ b ≤ room_1.slots := fun h1 h2 => ⟨h1, h2⟩
  have hk4 : 0 ≤ u % 2 ∧ u % 2 < 4 := by omega
  have hx16 : 0 ≤ u / 4 % 8 ∧ u / 4 % 8 < 16 := by omega
  have hxw : 0 ≤ u / 4 % 16 ∧ u / 4 % 16 < 16 := by omega
  have hu0 : 0 ≤ u ∧ u ≤ 134217727 := by omega
  have hz := hG.z
  have hd := hG.i.ic.1
  have hday := hG.i.2.1
  have har := atr_rg (σ := σ) (k := u % 2)
  have hkr := kor_rg (σ := σ) (k := u % 2) (n := 2) (by decide)
  have hac := hG.i.ac hk4
  unfold ACk at hac
  have hky := hG.i.rg hk4 hx16
  have hpk := pok_c (σ := σ) (k := u % 2) (y := u / 4 % 8)
  have hjr := jud_rg (σ := σ) (k := u % 2) (y := u / 4 % 8) (q := 1 + u / 32 % 4)
  have hse := hG.s.2
  have hsea := hG.i.ic.2.1 (u % 2) hk4.1 hk4.2
  refine lv_aload_n hx hb dL_law_276 rfl (lv_at hl 1 rfl) ?_
  refine lv_iload hx hb dL_law_277 (lv_at hl 4 rfl) ?_
  refine r_callK (na := 2) (own := RL) ⟨hx, hb, hml, hown, hts⟩ hT G hv (k_L_acts_trn l hst0 hG (by omega) hy hu (show y % 16 = 2 by omega) h3) (cSx hts qM_L_167 qS_L_acts qN_L qC_L_acts (by decide +kernel) ⟨Nat.le_of_ble_eq_true rfl, Nat.le_of_ble_eq_true rfl⟩) rfl rfl hl.1 rfl (Nat.le_of_ble_eq_true rfl) dL_law_279 (hC (by omega) (by omega)) (fun H locs G => ?_)
  obtain ⟨τ, hτ⟩ : ∃ τ, τ = tup (pus σ) (u / 3 % 2) := ⟨_, rfl⟩
  rw [← hτ] at G
  refine r_name (fun to hto => ?_)
  have hA := at_y (k := u / 3 % 2) hG (by omega)
  rw [← hτ] at hA
  obtain ⟨aG, a15⟩ := hA
  rw [← hτ] at hto
  have hkt := kat_rg (σ := τ) (k := u / 3 % 2) (q := 0)
  refine lv_istore (lv' := [(21, .int (kI to)), (0, .ref b), (1, .ref (z + 0)), (2, .int (kI 1)), (3, .int (kI i)), (4, .int (kI y)), (5, .int (kI u)), (6, .int (kI w)), (7, .int (kI (σ 15 1))), (8, .int (kI (u % 2))), (9, .int (kI (u / 4 % 8))), (10, .int (kI (σ 2 0))), (11, .int (kI (atr σ (u % 2)))), (12, .int (kI (kor σ (u % 2) 2))), (13, .int (kI (σ 9 (u % 2)))), (14, .int (kI (σ 12 (u % 2)))), (15, .int (kI (σ 4 (u % 2 * 16 + u / 4 % 8)))), (16, .int (kI (σ 5 (u % 2 * 16 + u / 4 % 8)))), (17, .int (kI (pok σ (u % 2) (u / 4 % 8) 3))), (18, .int (kI (jud σ (u % 2) (u / 4 % 8) (1 + u / 32 % 4)))), (19, .int (kI (σ 14 1))), (20, .int (kI (σ 14 2)))]) hx hb dL_law_282 hl (by decide) rfl (fun ls hl => ?_)
  refine lv_iload hx hb dL_law_284 (lv_at hl 0 rfl) ?_
  refine r_ldc (n := -2000000) hx hb hts hown qCon_L_170 (by decide) dL_law_286 ?_
  refine r_icmp_le (tgt := 295) hx hb ⟨by omega, by omega⟩ ⟨by decide, by decide⟩ dL_law_288 (by decide) (fun h_1 => absurd h_1 (by omega)) (fun h_1 => ?_)
  refine r_iconst hx hb dL_law_291 ?_
  refine lv_goto (tgt := 296) hx hb dL_law_292 (by decide) ?_
  refine lv_istore (lv' := [(22, .int (kI 1)), (21, .int (kI to)), (0, .ref b), (1, .ref (z + 0)), (2, .int (kI 1)), (3, .int (kI i)), (4, .int (kI y)), (5, .int (kI u)), (6, .int (kI w)), (7, .int (kI (σ 15 1))), (8, .int (kI (u % 2))), (9, .int (kI (u / 4 % 8))), (10, .int (kI (σ 2 0))), (11, .int (kI (atr σ (u % 2)))), (12, .int (kI (kor σ (u % 2) 2))), (13, .int (kI (σ 9 (u % 2)))), (14, .int (kI (σ 12 (u % 2)))), (15, .int (kI (σ 4 (u % 2 * 16 + u / 4 % 8)))), (16, .int (kI (σ 5 (u % 2 * 16 + u / 4 % 8)))), (17, .int (kI (pok σ (u % 2) (u / 4 % 8) 3))), (18, .int (kI (jud σ (u % 2) (u / 4 % 8) (1 + u / 32 % 4)))), (19, .int (kI (σ 14 1))), (20, .int (kI (σ 14 2)))]) hx hb dL_law_296 hl (by decide) rfl (fun ls hl => ?_)
  refine lv_aload_n hx hb dL_law_298 rfl (lv_at hl 3 rfl) ?_
  refine r_bipush hx hb dL_law_299 (by decide +kernel) ?_
  refine r_callW (na := 2) (own := RL) ⟨hx, hb, hml, hown, hts⟩ G hv (k_L_count_y l hst0 (σ := τ) (w := 9) ⟨by omega, by omega⟩ (aG.s) (by omega)) qC_L_count qM_L_138 qS_L_count qN_L (by decide +kernel) ⟨Nat.le_of_ble_eq_true rfl, Nat.le_of_ble_eq_true rfl⟩ rfl rfl hl.1 rfl (Nat.le_of_ble_eq_true rfl) dL_law_301 (hC (by omega) (by omega)) (fun H locs G => ?_)
  refine r_top (b := τ 15 1) (rfl) ?_
  refine lv_iload hx hb dL_law_304 (lv_at hl 0 rfl) ?_
  refine r_if_eq (tgt := 330) hx hb ⟨by decide, by decide⟩ dL_law_306 (by decide) (fun h_2 => absurd h_2 (by decide)) (fun _ => ?_)
  refine lv_iload hx hb dL_law_309 (lv_at hl 8 rfl) ?_
  refine r_iconst hx hb dL_law_311 ?_
  refine r_icmp_ne (tgt := 323) hx hb ⟨by omega, by omega⟩ ⟨by decide, by decide⟩ dL_law_312 (by decide) (fun h_3 => absurd h_3 (by omega)) (fun h_3 => ?_)
  refine lv_iload hx hb dL_law_315 (lv_at hl 7 rfl) ?_
  refine r_iconst hx hb dL_law_317 ?_
  refine r_irem hx hb dL_law_318 (by omega) (by omega) (by omega) (by omega) ?_
  refine r_iconst hx hb dL_law_319 ?_
  refine r_icmp_eq (tgt := 330) hx hb ⟨by omega, by omega⟩ ⟨by decide, by decide⟩ dL_law_320 (by decide) (fun h_4 => absurd h_4 (by omega)) (fun h_4 => ?_)
  have jn342 : ∀ (_ : Unit), ∀ (H : Heap) (locs : List Loc) (k1 n1 : Nat), (k1 : Int) ≤ k0 + 4 → (n1 : Int) ≤ n0 + 24 → Wd D T z 133 τ s H locs → ∀ (ls : Array Slot), lv_has ls 23 [(22, .int (kI 1)), (21, .int (kI to)), (0, .ref b), (1, .ref (z + 0)), (2, .int (kI 1)), (3, .int (kI i)), (4, .int (kI y)), (5, .int (kI u)), (6, .int (kI w)), (7, .int (kI (σ 15 1))), (8, .int (kI (u % 2))), (9, .int (kI (u / 4 % 8))), (10, .int (kI (σ 2 0))), (11, .int (kI (atr σ (u % 2)))), (12, .int (kI (kor σ (u % 2) 2))), (13, .int (kI (σ 9 (u % 2)))), (14, .int (kI (σ 12 (u % 2)))), (15, .int (kI (σ 4 (u % 2 * 16 + u / 4 % 8)))), (16, .int (kI (σ 5 (u % 2 * 16 + u / 4 % 8)))), (17, .int (kI (pok σ (u % 2) (u / 4 % 8) 3))), (18, .int (kI (jud σ (u % 2) (u / 4 % 8) (1 + u / 32 % 4)))), (19, .int (kI (σ 14 1))), (20, .int (kI (σ 14 2)))] → W p l e room_1 s m #[Value.ref b] below meth c H locs k1 n1 Q (F0 m 342 ls []) := by
    intro _  H locs k1 n1 hk1 hn1 G ls hl
    refine r_iconst hx hb dL_law_342 ?_
    refine lv_goto (tgt := 347) hx hb dL_law_343 (by decide) ?_
    refine lv_istore_n (lv' := [(2, .int (kI 1)), (22, .int (kI 1)), (21, .int (kI to)), (0, .ref b), (1, .ref (z + 0)), (3, .int (kI i)), (4, .int (kI y)), (5, .int (kI u)), (6, .int (kI w)), (7, .int (kI (σ 15 1))), (8, .int (kI (u % 2))), (9, .int (kI (u / 4 % 8))), (10, .int (kI (σ 2 0))), (11, .int (kI (atr σ (u % 2)))), (12, .int (kI (kor σ (u % 2) 2))), (13, .int (kI (σ 9 (u % 2)))), (14, .int (kI (σ 12 (u % 2)))), (15, .int (kI (σ 4 (u % 2 * 16 + u / 4 % 8)))), (16, .int (kI (σ 5 (u % 2 * 16 + u / 4 % 8)))), (17, .int (kI (pok σ (u % 2) (u / 4 % 8) 3))), (18, .int (kI (jud σ (u % 2) (u / 4 % 8) (1 + u / 32 % 4)))), (19, .int (kI (σ 14 1))), (20, .int (kI (σ 14 2)))]) hx hb dL_law_347 rfl hl (by decide) rfl (fun ls hl => ?_)
    refine lv_iload_n hx hb dL_law_348 rfl (lv_at hl 0 rfl) ?_
    refine r_if_eq (tgt := 464) hx hb ⟨by decide, by decide⟩ dL_law_349 (by decide) (fun h_5 => absurd h_5 (by decide)) (fun _ => ?_)
    refine lv_iload hx hb dL_law_352 (lv_at hl 8 rfl) ?_
    refine r_bipush hx hb dL_law_354 (by decide +kernel) ?_
    refine r_icmp_le (tgt := 464) hx hb ⟨by omega, by omega⟩ ⟨by decide, by decide⟩ dL_law_356 (by decide) (fun h_6 => ?_) (fun h_6 => absurd h_6 (by omega))
    refine lv_iload_n hx hb dL_law_464 rfl (lv_at hl 0 rfl) ?_
    refine r_if_eq (tgt := 575) hx hb ⟨by decide, by decide⟩ dL_law_465 (by decide) (fun h_7 => absurd h_7 (by decide)) (fun _ => ?_)
    refine lv_iload hx hb dL_law_468 (lv_at hl 8 rfl) ?_
    refine r_bipush hx hb dL_law_470 (by decide +kernel) ?_
    refine r_icmp_le (tgt := 575) hx hb ⟨by omega, by omega⟩ ⟨by decide, by decide⟩ dL_law_472 (by decide) (fun h_8 => ?_) (fun h_8 => absurd h_8 (by omega))
    refine lv_iload_n hx hb dL_law_575 rfl (lv_at hl 0 rfl) ?_
    refine r_if_eq (tgt := 656) hx hb ⟨by decide, by decide⟩ dL_law_576 (by decide) (fun h_9 => absurd h_9 (by decide)) (fun _ => ?_)
    refine lv_iload hx hb dL_law_579 (lv_at hl 8 rfl) ?_
    refine r_iconst hx hb dL_law_581 ?_
    refine r_icmp_ne (tgt := 656) hx hb ⟨by omega, by omega⟩ ⟨by decide, by decide⟩ dL_law_582 (by decide) (fun h_10 => ?_) (fun h_10 => absurd h_10 (by omega))
    refine lv_iload_n hx hb dL_law_656 rfl (lv_at hl 0 rfl) ?_
    refine r_if_eq (tgt := 731) hx hb ⟨by decide, by decide⟩ dL_law_657 (by decide) (fun h_11 => absurd h_11 (by decide)) (fun _ => ?_)
    refine lv_iload hx hb dL_law_660 (lv_at hl 8 rfl) ?_
    refine r_bipush hx hb dL_law_662 (by decide +kernel) ?_
    refine r_icmp_ne (tgt := 731) hx hb ⟨by omega, by omega⟩ ⟨by decide, by decide⟩ dL_law_664 (by decide) (fun h_12 => ?_) (fun h_12 => absurd h_12 (by omega))
    refine lv_iload_n hx hb dL_law_731 rfl (lv_at hl 0 rfl) ?_
    refine r_if_eq (tgt := 784) hx hb ⟨by decide, by decide⟩ dL_law_732 (by decide) (fun h_13 => absurd h_13 (by decide)) (fun _ => ?_)
    refine lv_iload hx hb dL_law_735 (lv_at hl 8 rfl) ?_
    refine r_iconst hx hb dL_law_737 ?_
    refine r_icmp_eq (tgt := 748) hx hb ⟨by omega, by omega⟩ ⟨by decide, by decide⟩ dL_law_738 (by decide) (fun h_14 => absurd h_14 (by omega)) (fun h_14 => ?_)
    refine lv_iload hx hb dL_law_741 (lv_at hl 8 rfl) ?_
    refine r_bipush hx hb dL_law_743 (by decide +kernel) ?_
    refine r_icmp_ne (tgt := 784) hx hb ⟨by omega, by omega⟩ ⟨by decide, by decide⟩ dL_law_745 (by decide) (fun h_15 => ?_) (fun h_15 => absurd h_15 (by omega))
    refine lv_iload_n hx hb dL_law_784 rfl (lv_at hl 0 rfl) ?_
    refine r_if_eq (tgt := 882) hx hb ⟨by decide, by decide⟩ dL_law_785 (by decide) (fun h_16 => absurd h_16 (by decide)) (fun _ => ?_)
    refine lv_iload hx hb dL_law_788 (lv_at hl 8 rfl) ?_
    refine r_iconst hx hb dL_law_790 ?_
    refine r_icmp_ne (tgt := 882) hx hb ⟨by omega, by omega⟩ ⟨by decide, by decide⟩ dL_law_791 (by decide) (fun h_17 => ?_) (fun h_17 => absurd h_17 (by omega))
    exact W.widen (k := k0 + 20) (n := n0 + 120) (by omega) (by omega) (kk τ _ _ _ G aG (lv_sub hl [5, 0, 4, 3, 10] rfl))
  refine lv_iload hx hb dL_law_323 (lv_at hl 9 rfl) ?_
  refine r_bipush hx hb dL_law_325 (by decide +kernel) ?_
  refine r_icmp_ne (tgt := 335) hx hb ⟨by omega, by omega⟩ ⟨by decide, by decide⟩ dL_law_327 (by decide) (fun h_18 => ?_) (fun h_18 => ?_)
  · skip
    refine lv_iload hx hb dL_law_335 (lv_at hl 9 rfl) ?_
    refine r_iconst hx hb dL_law_337 ?_
    refine r_iadd hx hb dL_law_338 ?_
    refine r_icmp_ne (tgt := 346) hx hb ⟨by omega, by omega⟩ ⟨by omega, by omega⟩ dL_law_339 (by decide) (fun h_19 => absurd h_19 (by omega)) (fun h_19 => ?_)
    exact jn342 ()  _ _ _ _ (by omega) (by omega) G _ (lv_sub hl [0, 1, 2, 3, 4, 5, 6, 7, 8, 9, 10, 11, 12, 13, 14, 15, 16, 17, 18, 19, 20, 21, 22] rfl)
  · skip
    refine lv_iload hx hb dL_law_330 (lv_at hl 9 rfl) ?_
    refine lv_goto (tgt := 339) hx hb dL_law_332 (by decide) ?_
    refine r_icmp_ne (tgt := 346) hx hb ⟨by omega, by omega⟩ ⟨by omega, by omega⟩ dL_law_339 (by decide) (fun h_20 => absurd h_20 (by omega)) (fun h_20 => ?_)
    exact jn342 ()  _ _ _ _ (by omega) (by omega) G _ (lv_sub hl [0, 1, 2, 3, 4, 5, 6, 7, 8, 9, 10, 11, 12, 13, 14, 15, 16, 17, 18, 19, 20, 21, 22] rfl)
set_option maxRecDepth 100000 in
set_option maxHeartbeats 4000000 in
theorem lw_goby {p : Program} {e : Env} {s : State} {m : MethodId} {below : List Frame} {meth : Method} {c : Code} {H : Heap} {locs : List Loc} {ls : Array Slot} {D : va_G} {T : Nat → ClassId} {σ : Mem} {z b k0 n0 : Nat} {Q : State → Prop} {n i y u w : Int} (l : Launch) (hst0 : l.stackTraces = false) (hx : p.tables.exec = Jvm.exec) (hb : c.code = cL_law) (hml : c.maxLocals = 23) (hown : s.vm.findClass RL = some m.cls) (hts : ∀ w ∈ Gw, w.before #[Value.ref b] s = true) (hv : Xv s) (hT : hol T < z) (G : Wd D T z 133 σ s H locs) (hG : GI n σ) (hn : 0 ≤ n ∧ n ≤ 800) (hi : 0 ≤ i ∧ i ≤ 44) (hy : 0 ≤ y ∧ y ≤ 2147483647) (hu : u = y / 16) (hw : w = y % 16) (h1 : w = 2) (h3 : u % 3 = 1) (hc : σ 130 (u / 3 % 2) = 1) (hc0 : k0 + 20 ≤ 600130 ∧ n0 + 120 ≤ 7301079) (hl : lv_has ls 23 [(0, .ref b), (1, .ref (z + 0)), (2, .int (kI 1)), (3, .int (kI i)), (4, .int (kI y)), (5, .int (kI u)), (6, .int (kI w)), (7, .int (kI (σ 15 1))), (8, .int (kI (u % 2))), (9, .int (kI (u / 4 % 8))), (10, .int (kI (σ 2 0))), (11, .int (kI (atr σ (u % 2)))), (12, .int (kI (kor σ (u % 2) 2))), (13, .int (kI (σ 9 (u % 2)))), (14, .int (kI (σ 12 (u % 2)))), (15, .int (kI (σ 4 (u % 2 * 16 + u / 4 % 8)))), (16, .int (kI (σ 5 (u % 2 * 16 + u / 4 % 8)))), (17, .int (kI (pok σ (u % 2) (u / 4 % 8) 3))), (18, .int (kI (jud σ (u % 2) (u / 4 % 8) (1 + u / 32 % 4)))), (19, .int (kI (σ 14 1))), (20, .int (kI (σ 14 2)))]) (kk : ∀ (σ1 : Mem) (H1 : Heap) (locs1 : List Loc) (ls1 : Array Slot), Wd D T z 133 σ1 s H1 locs1 → GI (n + 1) σ1 → lv_has ls1 23 [(3, .int (kI i)), (2, .int (kI 1)), (1, .ref (z + 0)), (0, .ref b), (8, .int (kI (u % 2)))] → W p l e room_1 s m #[Value.ref b] below meth c H1 locs1 (k0 + 20) (n0 + 120) Q (F0 m 882 ls1 [])) : W p l e room_1 s m #[Value.ref b] below meth c H locs k0 n0 Q (F0 m 276 ls []) := by
  have hC : ∀ {a b : Nat}, a ≤ 600130 → b ≤ 7301079 → a ≤ room_1.cells ∧ b ≤ room_1.slots := fun h1 h2 => ⟨h1, h2⟩
  have hk4 : 0 ≤ u % 2 ∧ u % 2 < 4 := by omega
  have hx16 : 0 ≤ u / 4 % 8 ∧ u / 4 % 8 < 16 := by omega
  have hxw : 0 ≤ u / 4 % 16 ∧ u / 4 % 16 < 16 := by omega
  have hu0 : 0 ≤ u ∧ u ≤ 134217727 := by omega
  have hz := hG.z
  have hd := hG.i.ic.1
  have hday := hG.i.2.1
  have har := atr_rg (σ := σ) (k := u % 2)
  have hkr := kor_rg (σ := σ) (k := u % 2) (n := 2) (by decide)
  have hac := hG.i.ac hk4
  unfold ACk at hac
  have hky := hG.i.rg hk4 hx16
  have hpk := pok_c (σ := σ) (k := u % 2) (y := u / 4 % 8)
  have hjr := jud_rg (σ := σ) (k := u % 2) (y := u / 4 % 8) (q := 1 + u / 32 % 4)
  have hse := hG.s.2
  have hsea := hG.i.ic.2.1 (u % 2) hk4.1 hk4.2
  refine lv_aload_n hx hb dL_law_276 rfl (lv_at hl 1 rfl) ?_
  refine lv_iload hx hb dL_law_277 (lv_at hl 4 rfl) ?_
  refine r_callK (na := 2) (own := RL) ⟨hx, hb, hml, hown, hts⟩ hT G hv (k_L_acts_goby l hst0 hG (by omega) hy hu (show y % 16 = 2 by omega) h3 hc) (cSx hts qM_L_167 qS_L_acts qN_L qC_L_acts (by decide +kernel) ⟨Nat.le_of_ble_eq_true rfl, Nat.le_of_ble_eq_true rfl⟩) rfl rfl hl.1 rfl (Nat.le_of_ble_eq_true rfl) dL_law_279 (hC (by omega) (by omega)) (fun H locs G => ?_)
  obtain ⟨τ, hτ⟩ : ∃ τ, τ = csp (pus σ) (102 + 14 * (u / 3 % 2).toNat) 1 := ⟨_, rfl⟩
  rw [← hτ] at G
  refine r_name (fun to hto => ?_)
  have hA := GI_gob (q := u / 3 % 2) hG (by omega) (by omega) hc
  rw [← hτ] at hA
  obtain ⟨aG, a15⟩ := hA
  have hsd : 0 ≤ σ (102 + 14 * (u / 3 % 2).toNat + 1) 0 ∧ σ (102 + 14 * (u / 3 % 2).toNat + 1) 0 ≤ 9999 := ((hG.sl (q := u / 3 % 2) (by omega) (by omega)).2 hc).ic.1
  rw [pus_hi hG (by omega)] at hto
  refine lv_istore (lv' := [(21, .int (kI to)), (0, .ref b), (1, .ref (z + 0)), (2, .int (kI 1)), (3, .int (kI i)), (4, .int (kI y)), (5, .int (kI u)), (6, .int (kI w)), (7, .int (kI (σ 15 1))), (8, .int (kI (u % 2))), (9, .int (kI (u / 4 % 8))), (10, .int (kI (σ 2 0))), (11, .int (kI (atr σ (u % 2)))), (12, .int (kI (kor σ (u % 2) 2))), (13, .int (kI (σ 9 (u % 2)))), (14, .int (kI (σ 12 (u % 2)))), (15, .int (kI (σ 4 (u % 2 * 16 + u / 4 % 8)))), (16, .int (kI (σ 5 (u % 2 * 16 + u / 4 % 8)))), (17, .int (kI (pok σ (u % 2) (u / 4 % 8) 3))), (18, .int (kI (jud σ (u % 2) (u / 4 % 8) (1 + u / 32 % 4)))), (19, .int (kI (σ 14 1))), (20, .int (kI (σ 14 2)))]) hx hb dL_law_282 hl (by decide) rfl (fun ls hl => ?_)
  refine lv_iload hx hb dL_law_284 (lv_at hl 0 rfl) ?_
  refine r_ldc (n := -2000000) hx hb hts hown qCon_L_170 (by decide) dL_law_286 ?_
  refine r_icmp_le (tgt := 295) hx hb ⟨by omega, by omega⟩ ⟨by decide, by decide⟩ dL_law_288 (by decide) (fun h_1 => absurd h_1 (by omega)) (fun h_1 => ?_)
  refine r_iconst hx hb dL_law_291 ?_
  refine lv_goto (tgt := 296) hx hb dL_law_292 (by decide) ?_
  refine lv_istore (lv' := [(22, .int (kI 1)), (21, .int (kI to)), (0, .ref b), (1, .ref (z + 0)), (2, .int (kI 1)), (3, .int (kI i)), (4, .int (kI y)), (5, .int (kI u)), (6, .int (kI w)), (7, .int (kI (σ 15 1))), (8, .int (kI (u % 2))), (9, .int (kI (u / 4 % 8))), (10, .int (kI (σ 2 0))), (11, .int (kI (atr σ (u % 2)))), (12, .int (kI (kor σ (u % 2) 2))), (13, .int (kI (σ 9 (u % 2)))), (14, .int (kI (σ 12 (u % 2)))), (15, .int (kI (σ 4 (u % 2 * 16 + u / 4 % 8)))), (16, .int (kI (σ 5 (u % 2 * 16 + u / 4 % 8)))), (17, .int (kI (pok σ (u % 2) (u / 4 % 8) 3))), (18, .int (kI (jud σ (u % 2) (u / 4 % 8) (1 + u / 32 % 4)))), (19, .int (kI (σ 14 1))), (20, .int (kI (σ 14 2)))]) hx hb dL_law_296 hl (by decide) rfl (fun ls hl => ?_)
  refine lv_aload_n hx hb dL_law_298 rfl (lv_at hl 3 rfl) ?_
  refine r_bipush hx hb dL_law_299 (by decide +kernel) ?_
  refine r_callW (na := 2) (own := RL) ⟨hx, hb, hml, hown, hts⟩ G hv (k_L_count_y l hst0 (σ := τ) (w := 9) ⟨by omega, by omega⟩ (aG.s) (by omega)) qC_L_count qM_L_138 qS_L_count qN_L (by decide +kernel) ⟨Nat.le_of_ble_eq_true rfl, Nat.le_of_ble_eq_true rfl⟩ rfl rfl hl.1 rfl (Nat.le_of_ble_eq_true rfl) dL_law_301 (hC (by omega) (by omega)) (fun H locs G => ?_)
  refine r_top (b := τ 15 1) (rfl) ?_
  refine lv_iload hx hb dL_law_304 (lv_at hl 0 rfl) ?_
  refine r_if_eq (tgt := 330) hx hb ⟨by decide, by decide⟩ dL_law_306 (by decide) (fun h_2 => absurd h_2 (by decide)) (fun _ => ?_)
  refine lv_iload hx hb dL_law_309 (lv_at hl 8 rfl) ?_
  refine r_iconst hx hb dL_law_311 ?_
  refine r_icmp_ne (tgt := 323) hx hb ⟨by omega, by omega⟩ ⟨by decide, by decide⟩ dL_law_312 (by decide) (fun h_3 => absurd h_3 (by omega)) (fun h_3 => ?_)
  refine lv_iload hx hb dL_law_315 (lv_at hl 7 rfl) ?_
  refine r_iconst hx hb dL_law_317 ?_
  refine r_irem hx hb dL_law_318 (by omega) (by omega) (by omega) (by omega) ?_
  refine r_iconst hx hb dL_law_319 ?_
  refine r_icmp_eq (tgt := 330) hx hb ⟨by omega, by omega⟩ ⟨by decide, by decide⟩ dL_law_320 (by decide) (fun h_4 => absurd h_4 (by omega)) (fun h_4 => ?_)
  have jn342 : ∀ (_ : Unit), ∀ (H : Heap) (locs : List Loc) (k1 n1 : Nat), (k1 : Int) ≤ k0 + 4 → (n1 : Int) ≤ n0 + 24 → Wd D T z 133 τ s H locs → ∀ (ls : Array Slot), lv_has ls 23 [(22, .int (kI 1)), (21, .int (kI to)), (0, .ref b), (1, .ref (z + 0)), (2, .int (kI 1)), (3, .int (kI i)), (4, .int (kI y)), (5, .int (kI u)), (6, .int (kI w)), (7, .int (kI (σ 15 1))), (8, .int (kI (u % 2))), (9, .int (kI (u / 4 % 8))), (10, .int (kI (σ 2 0))), (11, .int (kI (atr σ (u % 2)))), (12, .int (kI (kor σ (u % 2) 2))), (13, .int (kI (σ 9 (u % 2)))), (14, .int (kI (σ 12 (u % 2)))), (15, .int (kI (σ 4 (u % 2 * 16 + u / 4 % 8)))), (16, .int (kI (σ 5 (u % 2 * 16 + u / 4 % 8)))), (17, .int (kI (pok σ (u % 2) (u / 4 % 8) 3))), (18, .int (kI (jud σ (u % 2) (u / 4 % 8) (1 + u / 32 % 4)))), (19, .int (kI (σ 14 1))), (20, .int (kI (σ 14 2)))] → W p l e room_1 s m #[Value.ref b] below meth c H locs k1 n1 Q (F0 m 342 ls []) := by
    intro _  H locs k1 n1 hk1 hn1 G ls hl
    refine r_iconst hx hb dL_law_342 ?_
    refine lv_goto (tgt := 347) hx hb dL_law_343 (by decide) ?_
    refine lv_istore_n (lv' := [(2, .int (kI 1)), (22, .int (kI 1)), (21, .int (kI to)), (0, .ref b), (1, .ref (z + 0)), (3, .int (kI i)), (4, .int (kI y)), (5, .int (kI u)), (6, .int (kI w)), (7, .int (kI (σ 15 1))), (8, .int (kI (u % 2))), (9, .int (kI (u / 4 % 8))), (10, .int (kI (σ 2 0))), (11, .int (kI (atr σ (u % 2)))), (12, .int (kI (kor σ (u % 2) 2))), (13, .int (kI (σ 9 (u % 2)))), (14, .int (kI (σ 12 (u % 2)))), (15, .int (kI (σ 4 (u % 2 * 16 + u / 4 % 8)))), (16, .int (kI (σ 5 (u % 2 * 16 + u / 4 % 8)))), (17, .int (kI (pok σ (u % 2) (u / 4 % 8) 3))), (18, .int (kI (jud σ (u % 2) (u / 4 % 8) (1 + u / 32 % 4)))), (19, .int (kI (σ 14 1))), (20, .int (kI (σ 14 2)))]) hx hb dL_law_347 rfl hl (by decide) rfl (fun ls hl => ?_)
    refine lv_iload_n hx hb dL_law_348 rfl (lv_at hl 0 rfl) ?_
    refine r_if_eq (tgt := 464) hx hb ⟨by decide, by decide⟩ dL_law_349 (by decide) (fun h_5 => absurd h_5 (by decide)) (fun _ => ?_)
    refine lv_iload hx hb dL_law_352 (lv_at hl 8 rfl) ?_
    refine r_bipush hx hb dL_law_354 (by decide +kernel) ?_
    refine r_icmp_le (tgt := 464) hx hb ⟨by omega, by omega⟩ ⟨by decide, by decide⟩ dL_law_356 (by decide) (fun h_6 => ?_) (fun h_6 => absurd h_6 (by omega))
    refine lv_iload_n hx hb dL_law_464 rfl (lv_at hl 0 rfl) ?_
    refine r_if_eq (tgt := 575) hx hb ⟨by decide, by decide⟩ dL_law_465 (by decide) (fun h_7 => absurd h_7 (by decide)) (fun _ => ?_)
    refine lv_iload hx hb dL_law_468 (lv_at hl 8 rfl) ?_
    refine r_bipush hx hb dL_law_470 (by decide +kernel) ?_
    refine r_icmp_le (tgt := 575) hx hb ⟨by omega, by omega⟩ ⟨by decide, by decide⟩ dL_law_472 (by decide) (fun h_8 => ?_) (fun h_8 => absurd h_8 (by omega))
    refine lv_iload_n hx hb dL_law_575 rfl (lv_at hl 0 rfl) ?_
    refine r_if_eq (tgt := 656) hx hb ⟨by decide, by decide⟩ dL_law_576 (by decide) (fun h_9 => absurd h_9 (by decide)) (fun _ => ?_)
    refine lv_iload hx hb dL_law_579 (lv_at hl 8 rfl) ?_
    refine r_iconst hx hb dL_law_581 ?_
    refine r_icmp_ne (tgt := 656) hx hb ⟨by omega, by omega⟩ ⟨by decide, by decide⟩ dL_law_582 (by decide) (fun h_10 => ?_) (fun h_10 => absurd h_10 (by omega))
    refine lv_iload_n hx hb dL_law_656 rfl (lv_at hl 0 rfl) ?_
    refine r_if_eq (tgt := 731) hx hb ⟨by decide, by decide⟩ dL_law_657 (by decide) (fun h_11 => absurd h_11 (by decide)) (fun _ => ?_)
    refine lv_iload hx hb dL_law_660 (lv_at hl 8 rfl) ?_
    refine r_bipush hx hb dL_law_662 (by decide +kernel) ?_
    refine r_icmp_ne (tgt := 731) hx hb ⟨by omega, by omega⟩ ⟨by decide, by decide⟩ dL_law_664 (by decide) (fun h_12 => ?_) (fun h_12 => absurd h_12 (by omega))
    refine lv_iload_n hx hb dL_law_731 rfl (lv_at hl 0 rfl) ?_
    refine r_if_eq (tgt := 784) hx hb ⟨by decide, by decide⟩ dL_law_732 (by decide) (fun h_13 => absurd h_13 (by decide)) (fun _ => ?_)
    refine lv_iload hx hb dL_law_735 (lv_at hl 8 rfl) ?_
    refine r_iconst hx hb dL_law_737 ?_
    refine r_icmp_eq (tgt := 748) hx hb ⟨by omega, by omega⟩ ⟨by decide, by decide⟩ dL_law_738 (by decide) (fun h_14 => absurd h_14 (by omega)) (fun h_14 => ?_)
    refine lv_iload hx hb dL_law_741 (lv_at hl 8 rfl) ?_
    refine r_bipush hx hb dL_law_743 (by decide +kernel) ?_
    refine r_icmp_ne (tgt := 784) hx hb ⟨by omega, by omega⟩ ⟨by decide, by decide⟩ dL_law_745 (by decide) (fun h_15 => ?_) (fun h_15 => absurd h_15 (by omega))
    refine lv_iload_n hx hb dL_law_784 rfl (lv_at hl 0 rfl) ?_
    refine r_if_eq (tgt := 882) hx hb ⟨by decide, by decide⟩ dL_law_785 (by decide) (fun h_16 => absurd h_16 (by decide)) (fun _ => ?_)
    refine lv_iload hx hb dL_law_788 (lv_at hl 8 rfl) ?_
    refine r_iconst hx hb dL_law_790 ?_
    refine r_icmp_ne (tgt := 882) hx hb ⟨by omega, by omega⟩ ⟨by decide, by decide⟩ dL_law_791 (by decide) (fun h_17 => ?_) (fun h_17 => absurd h_17 (by omega))
    exact W.widen (k := k0 + 20) (n := n0 + 120) (by omega) (by omega) (kk τ _ _ _ G aG (lv_sub hl [5, 0, 4, 3, 10] rfl))
  refine lv_iload hx hb dL_law_323 (lv_at hl 9 rfl) ?_
  refine r_bipush hx hb dL_law_325 (by decide +kernel) ?_
  refine r_icmp_ne (tgt := 335) hx hb ⟨by omega, by omega⟩ ⟨by decide, by decide⟩ dL_law_327 (by decide) (fun h_18 => ?_) (fun h_18 => ?_)
  · skip
    refine lv_iload hx hb dL_law_335 (lv_at hl 9 rfl) ?_
    refine r_iconst hx hb dL_law_337 ?_
    refine r_iadd hx hb dL_law_338 ?_
    refine r_icmp_ne (tgt := 346) hx hb ⟨by omega, by omega⟩ ⟨by omega, by omega⟩ dL_law_339 (by decide) (fun h_19 => absurd h_19 (by omega)) (fun h_19 => ?_)
    exact jn342 ()  _ _ _ _ (by omega) (by omega) G _ (lv_sub hl [0, 1, 2, 3, 4, 5, 6, 7, 8, 9, 10, 11, 12, 13, 14, 15, 16, 17, 18, 19, 20, 21, 22] rfl)
  · skip
    refine lv_iload hx hb dL_law_330 (lv_at hl 9 rfl) ?_
    refine lv_goto (tgt := 339) hx hb dL_law_332 (by decide) ?_
    refine r_icmp_ne (tgt := 346) hx hb ⟨by omega, by omega⟩ ⟨by omega, by omega⟩ dL_law_339 (by decide) (fun h_20 => absurd h_20 (by omega)) (fun h_20 => ?_)
    exact jn342 ()  _ _ _ _ (by omega) (by omega) G _ (lv_sub hl [0, 1, 2, 3, 4, 5, 6, 7, 8, 9, 10, 11, 12, 13, 14, 15, 16, 17, 18, 19, 20, 21, 22] rfl)
set_option maxRecDepth 100000 in
set_option maxHeartbeats 4000000 in
theorem lw_gobx {p : Program} {e : Env} {s : State} {m : MethodId} {below : List Frame} {meth : Method} {c : Code} {H : Heap} {locs : List Loc} {ls : Array Slot} {D : va_G} {T : Nat → ClassId} {σ : Mem} {z b k0 n0 : Nat} {Q : State → Prop} {n i y u w : Int} (l : Launch) (hst0 : l.stackTraces = false) (hx : p.tables.exec = Jvm.exec) (hb : c.code = cL_law) (hml : c.maxLocals = 23) (hown : s.vm.findClass RL = some m.cls) (hts : ∀ w ∈ Gw, w.before #[Value.ref b] s = true) (hv : Xv s) (hT : hol T < z) (G : Wd D T z 133 σ s H locs) (hG : GI n σ) (hn : 0 ≤ n ∧ n ≤ 800) (hi : 0 ≤ i ∧ i ≤ 44) (hy : 0 ≤ y ∧ y ≤ 2147483647) (hu : u = y / 16) (hw : w = y % 16) (h1 : w = 2) (h3 : u % 3 = 1) (hc : ¬ σ 130 (u / 3 % 2) = 1) (hc0 : k0 + 20 ≤ 600130 ∧ n0 + 120 ≤ 7301079) (hl : lv_has ls 23 [(0, .ref b), (1, .ref (z + 0)), (2, .int (kI 1)), (3, .int (kI i)), (4, .int (kI y)), (5, .int (kI u)), (6, .int (kI w)), (7, .int (kI (σ 15 1))), (8, .int (kI (u % 2))), (9, .int (kI (u / 4 % 8))), (10, .int (kI (σ 2 0))), (11, .int (kI (atr σ (u % 2)))), (12, .int (kI (kor σ (u % 2) 2))), (13, .int (kI (σ 9 (u % 2)))), (14, .int (kI (σ 12 (u % 2)))), (15, .int (kI (σ 4 (u % 2 * 16 + u / 4 % 8)))), (16, .int (kI (σ 5 (u % 2 * 16 + u / 4 % 8)))), (17, .int (kI (pok σ (u % 2) (u / 4 % 8) 3))), (18, .int (kI (jud σ (u % 2) (u / 4 % 8) (1 + u / 32 % 4)))), (19, .int (kI (σ 14 1))), (20, .int (kI (σ 14 2)))]) (kk : ∀ (σ1 : Mem) (H1 : Heap) (locs1 : List Loc) (ls1 : Array Slot), Wd D T z 133 σ1 s H1 locs1 → GI (n + 1) σ1 → lv_has ls1 23 [(3, .int (kI i)), (2, .int (kI 1)), (1, .ref (z + 0)), (0, .ref b), (8, .int (kI (u % 2)))] → W p l e room_1 s m #[Value.ref b] below meth c H1 locs1 (k0 + 20) (n0 + 120) Q (F0 m 882 ls1 [])) : W p l e room_1 s m #[Value.ref b] below meth c H locs k0 n0 Q (F0 m 276 ls []) := by
  have hC : ∀ {a b : Nat}, a ≤ 600130 → b ≤ 7301079 → a ≤ room_1.cells ∧ b ≤ room_1.slots := fun h1 h2 => ⟨h1, h2⟩
  have hk4 : 0 ≤ u % 2 ∧ u % 2 < 4 := by omega
  have hx16 : 0 ≤ u / 4 % 8 ∧ u / 4 % 8 < 16 := by omega
  have hxw : 0 ≤ u / 4 % 16 ∧ u / 4 % 16 < 16 := by omega
  have hu0 : 0 ≤ u ∧ u ≤ 134217727 := by omega
  have hz := hG.z
  have hd := hG.i.ic.1
  have hday := hG.i.2.1
  have har := atr_rg (σ := σ) (k := u % 2)
  have hkr := kor_rg (σ := σ) (k := u % 2) (n := 2) (by decide)
  have hac := hG.i.ac hk4
  unfold ACk at hac
  have hky := hG.i.rg hk4 hx16
  have hpk := pok_c (σ := σ) (k := u % 2) (y := u / 4 % 8)
  have hjr := jud_rg (σ := σ) (k := u % 2) (y := u / 4 % 8) (q := 1 + u / 32 % 4)
  have hse := hG.s.2
  have hsea := hG.i.ic.2.1 (u % 2) hk4.1 hk4.2
  refine lv_aload_n hx hb dL_law_276 rfl (lv_at hl 1 rfl) ?_
  refine lv_iload hx hb dL_law_277 (lv_at hl 4 rfl) ?_
  refine r_callK (na := 2) (own := RL) ⟨hx, hb, hml, hown, hts⟩ hT G hv (k_L_acts_gobn l hst0 hG (by omega) hy hu (show y % 16 = 2 by omega) h3 hc) (cSx hts qM_L_167 qS_L_acts qN_L qC_L_acts (by decide +kernel) ⟨Nat.le_of_ble_eq_true rfl, Nat.le_of_ble_eq_true rfl⟩) rfl rfl hl.1 rfl (Nat.le_of_ble_eq_true rfl) dL_law_279 (hC (by omega) (by omega)) (fun H locs G => ?_)
  have aG := hG.up
  refine lv_istore (lv' := [(21, .int (kI (-2000002))), (0, .ref b), (1, .ref (z + 0)), (2, .int (kI 1)), (3, .int (kI i)), (4, .int (kI y)), (5, .int (kI u)), (6, .int (kI w)), (7, .int (kI (σ 15 1))), (8, .int (kI (u % 2))), (9, .int (kI (u / 4 % 8))), (10, .int (kI (σ 2 0))), (11, .int (kI (atr σ (u % 2)))), (12, .int (kI (kor σ (u % 2) 2))), (13, .int (kI (σ 9 (u % 2)))), (14, .int (kI (σ 12 (u % 2)))), (15, .int (kI (σ 4 (u % 2 * 16 + u / 4 % 8)))), (16, .int (kI (σ 5 (u % 2 * 16 + u / 4 % 8)))), (17, .int (kI (pok σ (u % 2) (u / 4 % 8) 3))), (18, .int (kI (jud σ (u % 2) (u / 4 % 8) (1 + u / 32 % 4)))), (19, .int (kI (σ 14 1))), (20, .int (kI (σ 14 2)))]) hx hb dL_law_282 hl (by decide) rfl (fun ls hl => ?_)
  refine lv_iload hx hb dL_law_284 (lv_at hl 0 rfl) ?_
  refine r_ldc (n := -2000000) hx hb hts hown qCon_L_170 (by decide) dL_law_286 ?_
  refine r_icmp_le (tgt := 295) hx hb ⟨by decide, by decide⟩ ⟨by decide, by decide⟩ dL_law_288 (by decide) (fun _ => ?_) (fun h_1 => absurd h_1 (by decide))
  refine r_iconst hx hb dL_law_295 ?_
  refine lv_istore (lv' := [(22, .int (kI 0)), (21, .int (kI (-2000002))), (0, .ref b), (1, .ref (z + 0)), (2, .int (kI 1)), (3, .int (kI i)), (4, .int (kI y)), (5, .int (kI u)), (6, .int (kI w)), (7, .int (kI (σ 15 1))), (8, .int (kI (u % 2))), (9, .int (kI (u / 4 % 8))), (10, .int (kI (σ 2 0))), (11, .int (kI (atr σ (u % 2)))), (12, .int (kI (kor σ (u % 2) 2))), (13, .int (kI (σ 9 (u % 2)))), (14, .int (kI (σ 12 (u % 2)))), (15, .int (kI (σ 4 (u % 2 * 16 + u / 4 % 8)))), (16, .int (kI (σ 5 (u % 2 * 16 + u / 4 % 8)))), (17, .int (kI (pok σ (u % 2) (u / 4 % 8) 3))), (18, .int (kI (jud σ (u % 2) (u / 4 % 8) (1 + u / 32 % 4)))), (19, .int (kI (σ 14 1))), (20, .int (kI (σ 14 2)))]) hx hb dL_law_296 hl (by decide) rfl (fun ls hl => ?_)
  refine lv_aload_n hx hb dL_law_298 rfl (lv_at hl 3 rfl) ?_
  refine r_bipush hx hb dL_law_299 (by decide +kernel) ?_
  refine r_callW (na := 2) (own := RL) ⟨hx, hb, hml, hown, hts⟩ G hv (k_L_count_y l hst0 (σ := σ) (w := 9) ⟨by omega, by omega⟩ (aG.s) (by omega)) qC_L_count qM_L_138 qS_L_count qN_L (by decide +kernel) ⟨Nat.le_of_ble_eq_true rfl, Nat.le_of_ble_eq_true rfl⟩ rfl rfl hl.1 rfl (Nat.le_of_ble_eq_true rfl) dL_law_301 (hC (by omega) (by omega)) (fun H locs G => ?_)
  refine r_top (b := σ 15 1) (rfl) ?_
  refine lv_iload hx hb dL_law_304 (lv_at hl 0 rfl) ?_
  refine r_if_eq (tgt := 330) hx hb ⟨by decide, by decide⟩ dL_law_306 (by decide) (fun _ => ?_) (fun h_2 => absurd h_2 (by decide))
  refine lv_iload hx hb dL_law_330 (lv_at hl 9 rfl) ?_
  refine lv_goto (tgt := 339) hx hb dL_law_332 (by decide) ?_
  refine r_icmp_ne (tgt := 346) hx hb ⟨by omega, by omega⟩ ⟨by omega, by omega⟩ dL_law_339 (by decide) (fun h_3 => absurd h_3 (by omega)) (fun h_3 => ?_)
  refine r_iconst hx hb dL_law_342 ?_
  refine lv_goto (tgt := 347) hx hb dL_law_343 (by decide) ?_
  refine lv_istore_n (lv' := [(2, .int (kI 1)), (22, .int (kI 0)), (21, .int (kI (-2000002))), (0, .ref b), (1, .ref (z + 0)), (3, .int (kI i)), (4, .int (kI y)), (5, .int (kI u)), (6, .int (kI w)), (7, .int (kI (σ 15 1))), (8, .int (kI (u % 2))), (9, .int (kI (u / 4 % 8))), (10, .int (kI (σ 2 0))), (11, .int (kI (atr σ (u % 2)))), (12, .int (kI (kor σ (u % 2) 2))), (13, .int (kI (σ 9 (u % 2)))), (14, .int (kI (σ 12 (u % 2)))), (15, .int (kI (σ 4 (u % 2 * 16 + u / 4 % 8)))), (16, .int (kI (σ 5 (u % 2 * 16 + u / 4 % 8)))), (17, .int (kI (pok σ (u % 2) (u / 4 % 8) 3))), (18, .int (kI (jud σ (u % 2) (u / 4 % 8) (1 + u / 32 % 4)))), (19, .int (kI (σ 14 1))), (20, .int (kI (σ 14 2)))]) hx hb dL_law_347 rfl hl (by decide) rfl (fun ls hl => ?_)
  refine lv_iload_n hx hb dL_law_348 rfl (lv_at hl 0 rfl) ?_
  refine r_if_eq (tgt := 464) hx hb ⟨by decide, by decide⟩ dL_law_349 (by decide) (fun h_4 => absurd h_4 (by decide)) (fun _ => ?_)
  refine lv_iload hx hb dL_law_352 (lv_at hl 8 rfl) ?_
  refine r_bipush hx hb dL_law_354 (by decide +kernel) ?_
  refine r_icmp_le (tgt := 464) hx hb ⟨by omega, by omega⟩ ⟨by decide, by decide⟩ dL_law_356 (by decide) (fun h_5 => ?_) (fun h_5 => absurd h_5 (by omega))
  refine lv_iload_n hx hb dL_law_464 rfl (lv_at hl 0 rfl) ?_
  refine r_if_eq (tgt := 575) hx hb ⟨by decide, by decide⟩ dL_law_465 (by decide) (fun h_6 => absurd h_6 (by decide)) (fun _ => ?_)
  refine lv_iload hx hb dL_law_468 (lv_at hl 8 rfl) ?_
  refine r_bipush hx hb dL_law_470 (by decide +kernel) ?_
  refine r_icmp_le (tgt := 575) hx hb ⟨by omega, by omega⟩ ⟨by decide, by decide⟩ dL_law_472 (by decide) (fun h_7 => ?_) (fun h_7 => absurd h_7 (by omega))
  refine lv_iload_n hx hb dL_law_575 rfl (lv_at hl 0 rfl) ?_
  refine r_if_eq (tgt := 656) hx hb ⟨by decide, by decide⟩ dL_law_576 (by decide) (fun h_8 => absurd h_8 (by decide)) (fun _ => ?_)
  refine lv_iload hx hb dL_law_579 (lv_at hl 8 rfl) ?_
  refine r_iconst hx hb dL_law_581 ?_
  refine r_icmp_ne (tgt := 656) hx hb ⟨by omega, by omega⟩ ⟨by decide, by decide⟩ dL_law_582 (by decide) (fun h_9 => ?_) (fun h_9 => absurd h_9 (by omega))
  refine lv_iload_n hx hb dL_law_656 rfl (lv_at hl 0 rfl) ?_
  refine r_if_eq (tgt := 731) hx hb ⟨by decide, by decide⟩ dL_law_657 (by decide) (fun h_10 => absurd h_10 (by decide)) (fun _ => ?_)
  refine lv_iload hx hb dL_law_660 (lv_at hl 8 rfl) ?_
  refine r_bipush hx hb dL_law_662 (by decide +kernel) ?_
  refine r_icmp_ne (tgt := 731) hx hb ⟨by omega, by omega⟩ ⟨by decide, by decide⟩ dL_law_664 (by decide) (fun h_11 => ?_) (fun h_11 => absurd h_11 (by omega))
  refine lv_iload_n hx hb dL_law_731 rfl (lv_at hl 0 rfl) ?_
  refine r_if_eq (tgt := 784) hx hb ⟨by decide, by decide⟩ dL_law_732 (by decide) (fun h_12 => absurd h_12 (by decide)) (fun _ => ?_)
  refine lv_iload hx hb dL_law_735 (lv_at hl 8 rfl) ?_
  refine r_iconst hx hb dL_law_737 ?_
  refine r_icmp_eq (tgt := 748) hx hb ⟨by omega, by omega⟩ ⟨by decide, by decide⟩ dL_law_738 (by decide) (fun h_13 => absurd h_13 (by omega)) (fun h_13 => ?_)
  refine lv_iload hx hb dL_law_741 (lv_at hl 8 rfl) ?_
  refine r_bipush hx hb dL_law_743 (by decide +kernel) ?_
  refine r_icmp_ne (tgt := 784) hx hb ⟨by omega, by omega⟩ ⟨by decide, by decide⟩ dL_law_745 (by decide) (fun h_14 => ?_) (fun h_14 => absurd h_14 (by omega))
  refine lv_iload_n hx hb dL_law_784 rfl (lv_at hl 0 rfl) ?_
  refine r_if_eq (tgt := 882) hx hb ⟨by decide, by decide⟩ dL_law_785 (by decide) (fun h_15 => absurd h_15 (by decide)) (fun _ => ?_)
  refine lv_iload hx hb dL_law_788 (lv_at hl 8 rfl) ?_
  refine r_iconst hx hb dL_law_790 ?_
  refine r_icmp_ne (tgt := 882) hx hb ⟨by omega, by omega⟩ ⟨by decide, by decide⟩ dL_law_791 (by decide) (fun h_16 => ?_) (fun h_16 => absurd h_16 (by omega))
  exact W.widen (k := k0 + 20) (n := n0 + 120) (by omega) (by omega) (kk σ _ _ _ G aG (lv_sub hl [5, 0, 4, 3, 10] rfl))
set_option maxRecDepth 100000 in
set_option maxHeartbeats 4000000 in
theorem lw_kee {p : Program} {e : Env} {s : State} {m : MethodId} {below : List Frame} {meth : Method} {c : Code} {H : Heap} {locs : List Loc} {ls : Array Slot} {D : va_G} {T : Nat → ClassId} {σ : Mem} {z b k0 n0 : Nat} {Q : State → Prop} {n i y u w : Int} (l : Launch) (hst0 : l.stackTraces = false) (hx : p.tables.exec = Jvm.exec) (hb : c.code = cL_law) (hml : c.maxLocals = 23) (hown : s.vm.findClass RL = some m.cls) (hts : ∀ w ∈ Gw, w.before #[Value.ref b] s = true) (hv : Xv s) (hT : hol T < z) (G : Wd D T z 133 σ s H locs) (hG : GI n σ) (hn : 0 ≤ n ∧ n ≤ 800) (hi : 0 ≤ i ∧ i ≤ 44) (hy : 0 ≤ y ∧ y ≤ 2147483647) (hu : u = y / 16) (hw : w = y % 16) (h1 : w = 2) (h3 : u % 3 = 2) (hc0 : k0 + 20 ≤ 600130 ∧ n0 + 120 ≤ 7301079) (hl : lv_has ls 23 [(0, .ref b), (1, .ref (z + 0)), (2, .int (kI 1)), (3, .int (kI i)), (4, .int (kI y)), (5, .int (kI u)), (6, .int (kI w)), (7, .int (kI (σ 15 1))), (8, .int (kI (u % 2))), (9, .int (kI (u / 4 % 8))), (10, .int (kI (σ 2 0))), (11, .int (kI (atr σ (u % 2)))), (12, .int (kI (kor σ (u % 2) 2))), (13, .int (kI (σ 9 (u % 2)))), (14, .int (kI (σ 12 (u % 2)))), (15, .int (kI (σ 4 (u % 2 * 16 + u / 4 % 8)))), (16, .int (kI (σ 5 (u % 2 * 16 + u / 4 % 8)))), (17, .int (kI (pok σ (u % 2) (u / 4 % 8) 3))), (18, .int (kI (jud σ (u % 2) (u / 4 % 8) (1 + u / 32 % 4)))), (19, .int (kI (σ 14 1))), (20, .int (kI (σ 14 2)))]) (kk : ∀ (σ1 : Mem) (H1 : Heap) (locs1 : List Loc) (ls1 : Array Slot), Wd D T z 133 σ1 s H1 locs1 → GI (n + 1) σ1 → lv_has ls1 23 [(3, .int (kI i)), (2, .int (kI 1)), (1, .ref (z + 0)), (0, .ref b), (8, .int (kI (u % 2)))] → W p l e room_1 s m #[Value.ref b] below meth c H1 locs1 (k0 + 20) (n0 + 120) Q (F0 m 882 ls1 [])) : W p l e room_1 s m #[Value.ref b] below meth c H locs k0 n0 Q (F0 m 276 ls []) := by
  have hC : ∀ {a b : Nat}, a ≤ 600130 → b ≤ 7301079 → a ≤ room_1.cells ∧ b ≤ room_1.slots := fun h1 h2 => ⟨h1, h2⟩
  have hk4 : 0 ≤ u % 2 ∧ u % 2 < 4 := by omega
  have hx16 : 0 ≤ u / 4 % 8 ∧ u / 4 % 8 < 16 := by omega
  have hxw : 0 ≤ u / 4 % 16 ∧ u / 4 % 16 < 16 := by omega
  have hu0 : 0 ≤ u ∧ u ≤ 134217727 := by omega
  have hz := hG.z
  have hd := hG.i.ic.1
  have hday := hG.i.2.1
  have har := atr_rg (σ := σ) (k := u % 2)
  have hkr := kor_rg (σ := σ) (k := u % 2) (n := 2) (by decide)
  have hac := hG.i.ac hk4
  unfold ACk at hac
  have hky := hG.i.rg hk4 hx16
  have hpk := pok_c (σ := σ) (k := u % 2) (y := u / 4 % 8)
  have hjr := jud_rg (σ := σ) (k := u % 2) (y := u / 4 % 8) (q := 1 + u / 32 % 4)
  have hse := hG.s.2
  have hsea := hG.i.ic.2.1 (u % 2) hk4.1 hk4.2
  refine lv_aload_n hx hb dL_law_276 rfl (lv_at hl 1 rfl) ?_
  refine lv_iload hx hb dL_law_277 (lv_at hl 4 rfl) ?_
  refine r_callK (na := 2) (own := RL) ⟨hx, hb, hml, hown, hts⟩ hT G hv (k_L_acts_kee l hst0 hG (by omega) hy hu (show y % 16 = 2 by omega) h3) (cSx hts qM_L_167 qS_L_acts qN_L qC_L_acts (by decide +kernel) ⟨Nat.le_of_ble_eq_true rfl, Nat.le_of_ble_eq_true rfl⟩) rfl rfl hl.1 rfl (Nat.le_of_ble_eq_true rfl) dL_law_279 (hC (by omega) (by omega)) (fun H locs G => ?_)
  obtain ⟨τ, hτ⟩ : ∃ τ, τ = up (csp σ 1 (102 + 14 * (u / 3 % 2).toNat)) 130 (u / 3 % 2) 1 := ⟨_, rfl⟩
  rw [← hτ] at G
  refine r_name (fun to hto => ?_)
  have hA := GI_kee (q := u / 3 % 2) hG (by omega) (by omega)
  rw [← hτ] at hA
  obtain ⟨aG, a15⟩ := hA
  refine lv_istore (lv' := [(21, .int (kI to)), (0, .ref b), (1, .ref (z + 0)), (2, .int (kI 1)), (3, .int (kI i)), (4, .int (kI y)), (5, .int (kI u)), (6, .int (kI w)), (7, .int (kI (σ 15 1))), (8, .int (kI (u % 2))), (9, .int (kI (u / 4 % 8))), (10, .int (kI (σ 2 0))), (11, .int (kI (atr σ (u % 2)))), (12, .int (kI (kor σ (u % 2) 2))), (13, .int (kI (σ 9 (u % 2)))), (14, .int (kI (σ 12 (u % 2)))), (15, .int (kI (σ 4 (u % 2 * 16 + u / 4 % 8)))), (16, .int (kI (σ 5 (u % 2 * 16 + u / 4 % 8)))), (17, .int (kI (pok σ (u % 2) (u / 4 % 8) 3))), (18, .int (kI (jud σ (u % 2) (u / 4 % 8) (1 + u / 32 % 4)))), (19, .int (kI (σ 14 1))), (20, .int (kI (σ 14 2)))]) hx hb dL_law_282 hl (by decide) rfl (fun ls hl => ?_)
  refine lv_iload hx hb dL_law_284 (lv_at hl 0 rfl) ?_
  refine r_ldc (n := -2000000) hx hb hts hown qCon_L_170 (by decide) dL_law_286 ?_
  refine r_icmp_le (tgt := 295) hx hb ⟨by omega, by omega⟩ ⟨by decide, by decide⟩ dL_law_288 (by decide) (fun h_1 => absurd h_1 (by omega)) (fun h_1 => ?_)
  refine r_iconst hx hb dL_law_291 ?_
  refine lv_goto (tgt := 296) hx hb dL_law_292 (by decide) ?_
  refine lv_istore (lv' := [(22, .int (kI 1)), (21, .int (kI to)), (0, .ref b), (1, .ref (z + 0)), (2, .int (kI 1)), (3, .int (kI i)), (4, .int (kI y)), (5, .int (kI u)), (6, .int (kI w)), (7, .int (kI (σ 15 1))), (8, .int (kI (u % 2))), (9, .int (kI (u / 4 % 8))), (10, .int (kI (σ 2 0))), (11, .int (kI (atr σ (u % 2)))), (12, .int (kI (kor σ (u % 2) 2))), (13, .int (kI (σ 9 (u % 2)))), (14, .int (kI (σ 12 (u % 2)))), (15, .int (kI (σ 4 (u % 2 * 16 + u / 4 % 8)))), (16, .int (kI (σ 5 (u % 2 * 16 + u / 4 % 8)))), (17, .int (kI (pok σ (u % 2) (u / 4 % 8) 3))), (18, .int (kI (jud σ (u % 2) (u / 4 % 8) (1 + u / 32 % 4)))), (19, .int (kI (σ 14 1))), (20, .int (kI (σ 14 2)))]) hx hb dL_law_296 hl (by decide) rfl (fun ls hl => ?_)
  refine lv_aload_n hx hb dL_law_298 rfl (lv_at hl 3 rfl) ?_
  refine r_bipush hx hb dL_law_299 (by decide +kernel) ?_
  refine r_callW (na := 2) (own := RL) ⟨hx, hb, hml, hown, hts⟩ G hv (k_L_count_y l hst0 (σ := τ) (w := 9) ⟨by omega, by omega⟩ (aG.s) (by omega)) qC_L_count qM_L_138 qS_L_count qN_L (by decide +kernel) ⟨Nat.le_of_ble_eq_true rfl, Nat.le_of_ble_eq_true rfl⟩ rfl rfl hl.1 rfl (Nat.le_of_ble_eq_true rfl) dL_law_301 (hC (by omega) (by omega)) (fun H locs G => ?_)
  refine r_top (b := τ 15 1) (rfl) ?_
  refine lv_iload hx hb dL_law_304 (lv_at hl 0 rfl) ?_
  refine r_if_eq (tgt := 330) hx hb ⟨by decide, by decide⟩ dL_law_306 (by decide) (fun h_2 => absurd h_2 (by decide)) (fun _ => ?_)
  refine lv_iload hx hb dL_law_309 (lv_at hl 8 rfl) ?_
  refine r_iconst hx hb dL_law_311 ?_
  refine r_icmp_ne (tgt := 323) hx hb ⟨by omega, by omega⟩ ⟨by decide, by decide⟩ dL_law_312 (by decide) (fun h_3 => absurd h_3 (by omega)) (fun h_3 => ?_)
  refine lv_iload hx hb dL_law_315 (lv_at hl 7 rfl) ?_
  refine r_iconst hx hb dL_law_317 ?_
  refine r_irem hx hb dL_law_318 (by omega) (by omega) (by omega) (by omega) ?_
  refine r_iconst hx hb dL_law_319 ?_
  refine r_icmp_eq (tgt := 330) hx hb ⟨by omega, by omega⟩ ⟨by decide, by decide⟩ dL_law_320 (by decide) (fun h_4 => ?_) (fun h_4 => absurd h_4 (by omega))
  refine lv_iload hx hb dL_law_330 (lv_at hl 9 rfl) ?_
  refine lv_goto (tgt := 339) hx hb dL_law_332 (by decide) ?_
  refine r_icmp_ne (tgt := 346) hx hb ⟨by omega, by omega⟩ ⟨by omega, by omega⟩ dL_law_339 (by decide) (fun h_5 => absurd h_5 (by omega)) (fun h_5 => ?_)
  refine r_iconst hx hb dL_law_342 ?_
  refine lv_goto (tgt := 347) hx hb dL_law_343 (by decide) ?_
  refine lv_istore_n (lv' := [(2, .int (kI 1)), (22, .int (kI 1)), (21, .int (kI to)), (0, .ref b), (1, .ref (z + 0)), (3, .int (kI i)), (4, .int (kI y)), (5, .int (kI u)), (6, .int (kI w)), (7, .int (kI (σ 15 1))), (8, .int (kI (u % 2))), (9, .int (kI (u / 4 % 8))), (10, .int (kI (σ 2 0))), (11, .int (kI (atr σ (u % 2)))), (12, .int (kI (kor σ (u % 2) 2))), (13, .int (kI (σ 9 (u % 2)))), (14, .int (kI (σ 12 (u % 2)))), (15, .int (kI (σ 4 (u % 2 * 16 + u / 4 % 8)))), (16, .int (kI (σ 5 (u % 2 * 16 + u / 4 % 8)))), (17, .int (kI (pok σ (u % 2) (u / 4 % 8) 3))), (18, .int (kI (jud σ (u % 2) (u / 4 % 8) (1 + u / 32 % 4)))), (19, .int (kI (σ 14 1))), (20, .int (kI (σ 14 2)))]) hx hb dL_law_347 rfl hl (by decide) rfl (fun ls hl => ?_)
  refine lv_iload_n hx hb dL_law_348 rfl (lv_at hl 0 rfl) ?_
  refine r_if_eq (tgt := 464) hx hb ⟨by decide, by decide⟩ dL_law_349 (by decide) (fun h_6 => absurd h_6 (by decide)) (fun _ => ?_)
  refine lv_iload hx hb dL_law_352 (lv_at hl 8 rfl) ?_
  refine r_bipush hx hb dL_law_354 (by decide +kernel) ?_
  refine r_icmp_le (tgt := 464) hx hb ⟨by omega, by omega⟩ ⟨by decide, by decide⟩ dL_law_356 (by decide) (fun h_7 => ?_) (fun h_7 => absurd h_7 (by omega))
  refine lv_iload_n hx hb dL_law_464 rfl (lv_at hl 0 rfl) ?_
  refine r_if_eq (tgt := 575) hx hb ⟨by decide, by decide⟩ dL_law_465 (by decide) (fun h_8 => absurd h_8 (by decide)) (fun _ => ?_)
  refine lv_iload hx hb dL_law_468 (lv_at hl 8 rfl) ?_
  refine r_bipush hx hb dL_law_470 (by decide +kernel) ?_
  refine r_icmp_le (tgt := 575) hx hb ⟨by omega, by omega⟩ ⟨by decide, by decide⟩ dL_law_472 (by decide) (fun h_9 => ?_) (fun h_9 => absurd h_9 (by omega))
  refine lv_iload_n hx hb dL_law_575 rfl (lv_at hl 0 rfl) ?_
  refine r_if_eq (tgt := 656) hx hb ⟨by decide, by decide⟩ dL_law_576 (by decide) (fun h_10 => absurd h_10 (by decide)) (fun _ => ?_)
  refine lv_iload hx hb dL_law_579 (lv_at hl 8 rfl) ?_
  refine r_iconst hx hb dL_law_581 ?_
  refine r_icmp_ne (tgt := 656) hx hb ⟨by omega, by omega⟩ ⟨by decide, by decide⟩ dL_law_582 (by decide) (fun h_11 => ?_) (fun h_11 => absurd h_11 (by omega))
  refine lv_iload_n hx hb dL_law_656 rfl (lv_at hl 0 rfl) ?_
  refine r_if_eq (tgt := 731) hx hb ⟨by decide, by decide⟩ dL_law_657 (by decide) (fun h_12 => absurd h_12 (by decide)) (fun _ => ?_)
  refine lv_iload hx hb dL_law_660 (lv_at hl 8 rfl) ?_
  refine r_bipush hx hb dL_law_662 (by decide +kernel) ?_
  refine r_icmp_ne (tgt := 731) hx hb ⟨by omega, by omega⟩ ⟨by decide, by decide⟩ dL_law_664 (by decide) (fun h_13 => ?_) (fun h_13 => absurd h_13 (by omega))
  refine lv_iload_n hx hb dL_law_731 rfl (lv_at hl 0 rfl) ?_
  refine r_if_eq (tgt := 784) hx hb ⟨by decide, by decide⟩ dL_law_732 (by decide) (fun h_14 => absurd h_14 (by decide)) (fun _ => ?_)
  refine lv_iload hx hb dL_law_735 (lv_at hl 8 rfl) ?_
  refine r_iconst hx hb dL_law_737 ?_
  refine r_icmp_eq (tgt := 748) hx hb ⟨by omega, by omega⟩ ⟨by decide, by decide⟩ dL_law_738 (by decide) (fun h_15 => absurd h_15 (by omega)) (fun h_15 => ?_)
  refine lv_iload hx hb dL_law_741 (lv_at hl 8 rfl) ?_
  refine r_bipush hx hb dL_law_743 (by decide +kernel) ?_
  refine r_icmp_ne (tgt := 784) hx hb ⟨by omega, by omega⟩ ⟨by decide, by decide⟩ dL_law_745 (by decide) (fun h_16 => ?_) (fun h_16 => absurd h_16 (by omega))
  refine lv_iload_n hx hb dL_law_784 rfl (lv_at hl 0 rfl) ?_
  refine r_if_eq (tgt := 882) hx hb ⟨by decide, by decide⟩ dL_law_785 (by decide) (fun h_17 => absurd h_17 (by decide)) (fun _ => ?_)
  refine lv_iload hx hb dL_law_788 (lv_at hl 8 rfl) ?_
  refine r_iconst hx hb dL_law_790 ?_
  refine r_icmp_ne (tgt := 882) hx hb ⟨by omega, by omega⟩ ⟨by decide, by decide⟩ dL_law_791 (by decide) (fun h_18 => ?_) (fun h_18 => absurd h_18 (by omega))
  exact W.widen (k := k0 + 20) (n := n0 + 120) (by omega) (by omega) (kk τ _ _ _ G aG (lv_sub hl [5, 0, 4, 3, 10] rfl))
