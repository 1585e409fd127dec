/-! THE LAW'S ROUND: what is looked at before the act; the way back; the tail; the head -/
set_option maxRecDepth 100000 in
set_option maxHeartbeats 4000000 in
theorem lw_obs {p : Program} {e : Env} {s : State} {m : MethodId} {below : List Frame} {meth : Method} {c : Code} {H : Heap} {locs : List Loc} {ls : Array Slot} {D : va_G} {T : Nat → ClassId} {σ : Mem} {z b k0 n0 : Nat} {Q : State → Prop} {n i : Int} {L : Nat} {xs : Nat → Int32} (l : Launch) (hst0 : l.stackTraces = false) (hx : p.tables.exec = Jvm.exec) (hb : c.code = cL_law) (hml : c.maxLocals = 23) (hown : s.vm.findClass RL = some m.cls) (hts : ∀ w ∈ Gw, w.before #[Value.ref b] s = true) (hv : Xv s) (hT : hol T < z) (hX : va_X b L xs s s.heap) (hbl : b < s.heap.size) (hL : L ≤ 260) (hbz : b < z) (G : Wd D T z 133 σ s H locs) (hG : GI n σ) (hn : 0 ≤ n ∧ n ≤ 800) (hi : 0 ≤ i ∧ i ≤ 44) (hc0 : k0 + 26 ≤ 600130 ∧ n0 + 156 ≤ 7301079) (hl : lv_has ls 23 [(3, .int (kI i)), (2, .int (kI 1)), (1, .ref (z + 0)), (0, .ref b)]) (kk : ∀ (y u w : Int) (H1 : Heap) (locs1 : List Loc) (ls1 : Array Slot), (0 ≤ y ∧ y ≤ 2147483647) → u = y / 16 → w = y % 16 → Wd D T z 133 σ s H1 locs1 → lv_has ls1 23 [(0, .ref b), (1, .ref (z + 0)), (2, .int (kI 1)), (3, .int (kI i)), (4, .int (kI y)), (5, .int (kI u)), (6, .int (kI w)), (7, .int (kI (σ 15 1))), (8, .int (kI (u % 2))), (9, .int (kI (u / 4 % 8))), (10, .int (kI (σ 2 0))), (11, .int (kI (atr σ (u % 2)))), (12, .int (kI (kor σ (u % 2) 2))), (13, .int (kI (σ 9 (u % 2)))), (14, .int (kI (σ 12 (u % 2)))), (15, .int (kI (σ 4 (u % 2 * 16 + u / 4 % 8)))), (16, .int (kI (σ 5 (u % 2 * 16 + u / 4 % 8)))), (17, .int (kI (pok σ (u % 2) (u / 4 % 8) 3))), (18, .int (kI (jud σ (u % 2) (u / 4 % 8) (1 + u / 32 % 4)))), (19, .int (kI (σ 14 1))), (20, .int (kI (σ 14 2)))] → W p l e room_1 s m #[Value.ref b] below meth c H1 locs1 (k0 + 26) (n0 + 156) Q (F0 m 276 ls1 [])) : W p l e room_1 s m #[Value.ref b] below meth c H locs k0 n0 Q (F0 m 122 ls []) := by
  have hC : ∀ {a b : Nat}, a ≤ 600130 → b ≤ 7301079 → a ≤ room_1.cells ∧ b ≤ room_1.slots := fun h1 h2 => ⟨h1, h2⟩
  have hd := hG.i.ic.1
  refine lv_aload_n hx hb dL_law_122 rfl (lv_at hl 3 rfl) ?_
  refine lv_iload_n hx hb dL_law_123 rfl (lv_at hl 0 rfl) ?_
  refine r_callCell (own := RL) ⟨hx, hb, hml, hown, hts⟩ G hbz hX hbl hL ⟨by omega, by omega⟩ qM_L_161 ⟨Nat.le_of_ble_eq_true rfl, Nat.le_of_ble_eq_true rfl⟩ hl.1 rfl (Nat.le_of_ble_eq_true rfl) dL_law_124 (hC (by omega) (by omega)) (fun H locs G => ?_)
  obtain ⟨y, hy0, hy1, hyy⟩ : ∃ v : Int, 0 ≤ v ∧ v ≤ 2147483647 ∧ cel xs L i = kI v := and_pos _
  rw [hyy]
  refine lv_istore (lv' := [(4, .int (kI y)), (3, .int (kI i)), (2, .int (kI 1)), (1, .ref (z + 0)), (0, .ref b)]) hx hb dL_law_127 hl (by decide) rfl (fun ls hl => ?_)
  refine lv_iload hx hb dL_law_129 (lv_at hl 0 rfl) ?_
  refine r_bipush hx hb dL_law_131 (by decide +kernel) ?_
  refine r_idiv hx hb dL_law_133 (by omega) (by omega) (by omega) (by omega) ?_
  refine r_name (fun u hu => ?_)
  have hu0 : 0 ≤ u ∧ u ≤ 134217727 := by omega
  refine lv_istore (lv' := [(5, .int (kI u)), (4, .int (kI y)), (3, .int (kI i)), (2, .int (kI 1)), (1, .ref (z + 0)), (0, .ref b)]) hx hb dL_law_134 hl (by decide) rfl (fun ls hl => ?_)
  refine lv_iload hx hb dL_law_136 (lv_at hl 1 rfl) ?_
  refine r_bipush hx hb dL_law_138 (by decide +kernel) ?_
  refine r_irem hx hb dL_law_140 (by omega) (by omega) (by omega) (by omega) ?_
  refine r_name (fun w hw => ?_)
  refine lv_istore (lv' := [(6, .int (kI w)), (5, .int (kI u)), (4, .int (kI y)), (3, .int (kI i)), (2, .int (kI 1)), (1, .ref (z + 0)), (0, .ref b)]) hx hb dL_law_141 hl (by decide) rfl (fun ls hl => ?_)
  refine lv_aload_n hx hb dL_law_143 rfl (lv_at hl 5 rfl) ?_
  refine r_bipush hx hb dL_law_144 (by decide +kernel) ?_
  refine r_callW (na := 2) (own := RL) ⟨hx, hb, hml, hown, hts⟩ G hv (k_L_count_y l hst0 (σ := σ) (w := 9) ⟨by omega, by omega⟩ (hG.s) (by omega)) qC_L_count qM_L_138 qS_L_count qN_L (by decide +kernel) ⟨Nat.le_of_ble_eq_true rfl, Nat.le_of_ble_eq_true rfl⟩ rfl rfl hl.1 rfl (Nat.le_of_ble_eq_true rfl) dL_law_146 (hC (by omega) (by omega)) (fun H locs G => ?_)
  refine r_top (b := σ 15 1) (rfl) ?_
  refine lv_istore (lv' := [(7, .int (kI (σ 15 1))), (6, .int (kI w)), (5, .int (kI u)), (4, .int (kI y)), (3, .int (kI i)), (2, .int (kI 1)), (1, .ref (z + 0)), (0, .ref b)]) hx hb dL_law_149 hl (by decide) rfl (fun ls hl => ?_)
  refine lv_iload hx hb dL_law_151 (lv_at hl 2 rfl) ?_
  refine r_iconst hx hb dL_law_153 ?_
  refine r_irem hx hb dL_law_154 (by omega) (by omega) (by omega) (by omega) ?_
  refine lv_istore (lv' := [(8, .int (kI (u % 2))), (7, .int (kI (σ 15 1))), (6, .int (kI w)), (5, .int (kI u)), (4, .int (kI y)), (3, .int (kI i)), (2, .int (kI 1)), (1, .ref (z + 0)), (0, .ref b)]) hx hb dL_law_155 hl (by decide) rfl (fun ls hl => ?_)
  refine lv_iload hx hb dL_law_157 (lv_at hl 3 rfl) ?_
  refine r_iconst hx hb dL_law_159 ?_
  refine r_idiv hx hb dL_law_160 (by omega) (by omega) (by omega) (by omega) ?_
  refine r_bipush hx hb dL_law_161 (by decide +kernel) ?_
  refine r_irem hx hb dL_law_163 (by omega) (by omega) (by omega) (by omega) ?_
  refine lv_istore (lv' := [(9, .int (kI (u / 4 % 8))), (8, .int (kI (u % 2))), (7, .int (kI (σ 15 1))), (6, .int (kI w)), (5, .int (kI u)), (4, .int (kI y)), (3, .int (kI i)), (2, .int (kI 1)), (1, .ref (z + 0)), (0, .ref b)]) hx hb dL_law_164 hl (by decide) rfl (fun ls hl => ?_)
  refine lv_aload_n hx hb dL_law_166 rfl (lv_at hl 8 rfl) ?_
  refine r_iconst hx hb dL_law_167 ?_
  refine r_callW (na := 2) (own := RL) ⟨hx, hb, hml, hown, hts⟩ G hv (k_L_count_y l hst0 (σ := σ) (w := 0) ⟨by omega, by omega⟩ (hG.s) (by omega)) qC_L_count qM_L_138 qS_L_count qN_L (by decide +kernel) ⟨Nat.le_of_ble_eq_true rfl, Nat.le_of_ble_eq_true rfl⟩ rfl rfl hl.1 rfl (Nat.le_of_ble_eq_true rfl) dL_law_168 (hC (by omega) (by omega)) (fun H locs G => ?_)
  refine r_top (b := σ 2 0) (rfl) ?_
  refine lv_istore (lv' := [(10, .int (kI (σ 2 0))), (9, .int (kI (u / 4 % 8))), (8, .int (kI (u % 2))), (7, .int (kI (σ 15 1))), (6, .int (kI w)), (5, .int (kI u)), (4, .int (kI y)), (3, .int (kI i)), (2, .int (kI 1)), (1, .ref (z + 0)), (0, .ref b)]) hx hb dL_law_171 hl (by decide) rfl (fun ls hl => ?_)
  refine lv_aload_n hx hb dL_law_173 rfl (lv_at hl 9 rfl) ?_
  refine lv_iload hx hb dL_law_174 (lv_at hl 2 rfl) ?_
  refine r_callW (na := 2) (own := RL) ⟨hx, hb, hml, hown, hts⟩ G hv (k_L_ifAsked_y l hst0 (σ := σ) (k := u % 2) ⟨by omega, by omega⟩ (hG.s) ⟨by omega, by omega⟩) qC_L_ifAsked qM_L_130 qS_L_ifAsked qN_L (by decide +kernel) ⟨Nat.le_of_ble_eq_true rfl, Nat.le_of_ble_eq_true rfl⟩ rfl rfl hl.1 rfl (Nat.le_of_ble_eq_true rfl) dL_law_176 (hC (by omega) (by omega)) (fun H locs G => ?_)
  refine lv_istore (lv' := [(11, .int (kI (atr σ (u % 2)))), (10, .int (kI (σ 2 0))), (9, .int (kI (u / 4 % 8))), (8, .int (kI (u % 2))), (7, .int (kI (σ 15 1))), (6, .int (kI w)), (5, .int (kI u)), (4, .int (kI y)), (3, .int (kI i)), (2, .int (kI 1)), (1, .ref (z + 0)), (0, .ref b)]) hx hb dL_law_179 hl (by decide) rfl (fun ls hl => ?_)
  refine lv_aload_n hx hb dL_law_181 rfl (lv_at hl 10 rfl) ?_
  refine lv_iload hx hb dL_law_182 (lv_at hl 3 rfl) ?_
  refine r_iconst hx hb dL_law_184 ?_
  refine r_callW (na := 3) (own := RL) ⟨hx, hb, hml, hown, hts⟩ G hv (k_L_coming_y l hst0 (σ := σ) (k := u % 2) (n := 2) ⟨by omega, by omega⟩ ⟨by omega, by omega⟩ (hG.s) ⟨by omega, by omega⟩ (by omega)) qC_L_coming qM_L_132 qS_L_coming qN_L (by decide +kernel) ⟨Nat.le_of_ble_eq_true rfl, Nat.le_of_ble_eq_true rfl⟩ rfl rfl hl.1 rfl (Nat.le_of_ble_eq_true rfl) dL_law_185 (hC (by omega) (by omega)) (fun H locs G => ?_)
  refine lv_istore (lv' := [(12, .int (kI (kor σ (u % 2) 2))), (11, .int (kI (atr σ (u % 2)))), (10, .int (kI (σ 2 0))), (9, .int (kI (u / 4 % 8))), (8, .int (kI (u % 2))), (7, .int (kI (σ 15 1))), (6, .int (kI w)), (5, .int (kI u)), (4, .int (kI y)), (3, .int (kI i)), (2, .int (kI 1)), (1, .ref (z + 0)), (0, .ref b)]) hx hb dL_law_188 hl (by decide) rfl (fun ls hl => ?_)
  refine lv_aload_n hx hb dL_law_190 rfl (lv_at hl 11 rfl) ?_
  refine lv_iload hx hb dL_law_191 (lv_at hl 4 rfl) ?_
  refine r_bipush hx hb dL_law_193 (by decide +kernel) ?_
  refine r_callW (na := 3) (own := RL) ⟨hx, hb, hml, hown, hts⟩ G hv (k_L_kindOf_y l hst0 (σ := σ) (k := u % 2) (w := 6) ⟨by omega, by omega⟩ ⟨by omega, by omega⟩ (hG.s) ⟨by omega, by omega⟩ (by omega)) qC_L_kindOf qM_L_122 qS_L_kindOf qN_L (by decide +kernel) ⟨Nat.le_of_ble_eq_true rfl, Nat.le_of_ble_eq_true rfl⟩ rfl rfl hl.1 rfl (Nat.le_of_ble_eq_true rfl) dL_law_195 (hC (by omega) (by omega)) (fun H locs G => ?_)
  refine r_top (b := σ 9 (u % 2)) (rfl) ?_
  refine lv_istore (lv' := [(13, .int (kI (σ 9 (u % 2)))), (12, .int (kI (kor σ (u % 2) 2))), (11, .int (kI (atr σ (u % 2)))), (10, .int (kI (σ 2 0))), (9, .int (kI (u / 4 % 8))), (8, .int (kI (u % 2))), (7, .int (kI (σ 15 1))), (6, .int (kI w)), (5, .int (kI u)), (4, .int (kI y)), (3, .int (kI i)), (2, .int (kI 1)), (1, .ref (z + 0)), (0, .ref b)]) hx hb dL_law_198 hl (by decide) rfl (fun ls hl => ?_)
  refine lv_aload_n hx hb dL_law_200 rfl (lv_at hl 12 rfl) ?_
  refine lv_iload hx hb dL_law_201 (lv_at hl 5 rfl) ?_
  refine r_bipush hx hb dL_law_203 (by decide +kernel) ?_
  refine r_callW (na := 3) (own := RL) ⟨hx, hb, hml, hown, hts⟩ G hv (k_L_kindOf_y l hst0 (σ := σ) (k := u % 2) (w := 8) ⟨by omega, by omega⟩ ⟨by omega, by omega⟩ (hG.s) ⟨by omega, by omega⟩ (by omega)) qC_L_kindOf qM_L_122 qS_L_kindOf qN_L (by decide +kernel) ⟨Nat.le_of_ble_eq_true rfl, Nat.le_of_ble_eq_true rfl⟩ rfl rfl hl.1 rfl (Nat.le_of_ble_eq_true rfl) dL_law_205 (hC (by omega) (by omega)) (fun H locs G => ?_)
  refine r_top (b := σ 12 (u % 2)) (rfl) ?_
  refine lv_istore (lv' := [(14, .int (kI (σ 12 (u % 2)))), (13, .int (kI (σ 9 (u % 2)))), (12, .int (kI (kor σ (u % 2) 2))), (11, .int (kI (atr σ (u % 2)))), (10, .int (kI (σ 2 0))), (9, .int (kI (u / 4 % 8))), (8, .int (kI (u % 2))), (7, .int (kI (σ 15 1))), (6, .int (kI w)), (5, .int (kI u)), (4, .int (kI y)), (3, .int (kI i)), (2, .int (kI 1)), (1, .ref (z + 0)), (0, .ref b)]) hx hb dL_law_208 hl (by decide) rfl (fun ls hl => ?_)
  refine lv_aload_n hx hb dL_law_210 rfl (lv_at hl 13 rfl) ?_
  refine lv_iload hx hb dL_law_211 (lv_at hl 6 rfl) ?_
  refine lv_iload hx hb dL_law_213 (lv_at hl 5 rfl) ?_
  refine r_iconst hx hb dL_law_215 ?_
  refine r_callW (na := 4) (own := RL) ⟨hx, hb, hml, hown, hts⟩ G hv (k_L_keyOf_y l hst0 (σ := σ) (k := u % 2) (y := u / 4 % 8) (w := 0) ⟨by omega, by omega⟩ ⟨by omega, by omega⟩ ⟨by omega, by omega⟩ (hG.s) ⟨⟨by omega, by omega⟩, by omega, by omega⟩ (by omega)) qC_L_keyOf qM_L_124 qS_L_keyOf qN_L (by decide +kernel) ⟨Nat.le_of_ble_eq_true rfl, Nat.le_of_ble_eq_true rfl⟩ rfl rfl hl.1 rfl (Nat.le_of_ble_eq_true rfl) dL_law_216 (hC (by omega) (by omega)) (fun H locs G => ?_)
  refine r_top (b := σ 4 (u % 2 * 16 + u / 4 % 8)) (pok_0) ?_
  refine lv_istore (lv' := [(15, .int (kI (σ 4 (u % 2 * 16 + u / 4 % 8)))), (14, .int (kI (σ 12 (u % 2)))), (13, .int (kI (σ 9 (u % 2)))), (12, .int (kI (kor σ (u % 2) 2))), (11, .int (kI (atr σ (u % 2)))), (10, .int (kI (σ 2 0))), (9, .int (kI (u / 4 % 8))), (8, .int (kI (u % 2))), (7, .int (kI (σ 15 1))), (6, .int (kI w)), (5, .int (kI u)), (4, .int (kI y)), (3, .int (kI i)), (2, .int (kI 1)), (1, .ref (z + 0)), (0, .ref b)]) hx hb dL_law_219 hl (by decide) rfl (fun ls hl => ?_)
  refine lv_aload_n hx hb dL_law_221 rfl (lv_at hl 14 rfl) ?_
  refine lv_iload hx hb dL_law_222 (lv_at hl 7 rfl) ?_
  refine lv_iload hx hb dL_law_224 (lv_at hl 6 rfl) ?_
  refine r_iconst hx hb dL_law_226 ?_
  refine r_callW (na := 4) (own := RL) ⟨hx, hb, hml, hown, hts⟩ G hv (k_L_keyOf_y l hst0 (σ := σ) (k := u % 2) (y := u / 4 % 8) (w := 1) ⟨by omega, by omega⟩ ⟨by omega, by omega⟩ ⟨by omega, by omega⟩ (hG.s) ⟨⟨by omega, by omega⟩, by omega, by omega⟩ (by omega)) qC_L_keyOf qM_L_124 qS_L_keyOf qN_L (by decide +kernel) ⟨Nat.le_of_ble_eq_true rfl, Nat.le_of_ble_eq_true rfl⟩ rfl rfl hl.1 rfl (Nat.le_of_ble_eq_true rfl) dL_law_227 (hC (by omega) (by omega)) (fun H locs G => ?_)
  refine r_top (b := σ 5 (u % 2 * 16 + u / 4 % 8)) (pok_1) ?_
  refine lv_istore (lv' := [(16, .int (kI (σ 5 (u % 2 * 16 + u / 4 % 8)))), (15, .int (kI (σ 4 (u % 2 * 16 + u / 4 % 8)))), (14, .int (kI (σ 12 (u % 2)))), (13, .int (kI (σ 9 (u % 2)))), (12, .int (kI (kor σ (u % 2) 2))), (11, .int (kI (atr σ (u % 2)))), (10, .int (kI (σ 2 0))), (9, .int (kI (u / 4 % 8))), (8, .int (kI (u % 2))), (7, .int (kI (σ 15 1))), (6, .int (kI w)), (5, .int (kI u)), (4, .int (kI y)), (3, .int (kI i)), (2, .int (kI 1)), (1, .ref (z + 0)), (0, .ref b)]) hx hb dL_law_230 hl (by decide) rfl (fun ls hl => ?_)
  refine lv_aload_n hx hb dL_law_232 rfl (lv_at hl 15 rfl) ?_
  refine lv_iload hx hb dL_law_233 (lv_at hl 8 rfl) ?_
  refine lv_iload hx hb dL_law_235 (lv_at hl 7 rfl) ?_
  refine r_iconst hx hb dL_law_237 ?_
  refine r_callW (na := 4) (own := RL) ⟨hx, hb, hml, hown, hts⟩ G hv (k_L_keyOf_y l hst0 (σ := σ) (k := u % 2) (y := u / 4 % 8) (w := 3) ⟨by omega, by omega⟩ ⟨by omega, by omega⟩ ⟨by omega, by omega⟩ (hG.s) ⟨⟨by omega, by omega⟩, by omega, by omega⟩ (by omega)) qC_L_keyOf qM_L_124 qS_L_keyOf qN_L (by decide +kernel) ⟨Nat.le_of_ble_eq_true rfl, Nat.le_of_ble_eq_true rfl⟩ rfl rfl hl.1 rfl (Nat.le_of_ble_eq_true rfl) dL_law_238 (hC (by omega) (by omega)) (fun H locs G => ?_)
  refine lv_istore (lv' := [(17, .int (kI (pok σ (u % 2) (u / 4 % 8) 3))), (16, .int (kI (σ 5 (u % 2 * 16 + u / 4 % 8)))), (15, .int (kI (σ 4 (u % 2 * 16 + u / 4 % 8)))), (14, .int (kI (σ 12 (u % 2)))), (13, .int (kI (σ 9 (u % 2)))), (12, .int (kI (kor σ (u % 2) 2))), (11, .int (kI (atr σ (u % 2)))), (10, .int (kI (σ 2 0))), (9, .int (kI (u / 4 % 8))), (8, .int (kI (u % 2))), (7, .int (kI (σ 15 1))), (6, .int (kI w)), (5, .int (kI u)), (4, .int (kI y)), (3, .int (kI i)), (2, .int (kI 1)), (1, .ref (z + 0)), (0, .ref b)]) hx hb dL_law_241 hl (by decide) rfl (fun ls hl => ?_)
  refine lv_aload_n hx hb dL_law_243 rfl (lv_at hl 16 rfl) ?_
  refine lv_iload hx hb dL_law_244 (lv_at hl 9 rfl) ?_
  refine lv_iload hx hb dL_law_246 (lv_at hl 8 rfl) ?_
  refine r_iconst hx hb dL_law_248 ?_
  refine lv_iload hx hb dL_law_249 (lv_at hl 12 rfl) ?_
  refine r_bipush hx hb dL_law_251 (by decide +kernel) ?_
  refine r_idiv hx hb dL_law_253 (by omega) (by omega) (by omega) (by omega) ?_
  refine r_iconst hx hb dL_law_254 ?_
  refine r_irem hx hb dL_law_255 (by omega) (by omega) (by omega) (by omega) ?_
  refine r_iadd hx hb dL_law_256 ?_
  refine r_callW (na := 4) (own := RL) ⟨hx, hb, hml, hown, hts⟩ G hv (k_L_ifFollowed_y l hst0 (σ := σ) (k := u % 2) (y := u / 4 % 8) (q := 1 + u / 32 % 4) ⟨by omega, by omega⟩ ⟨by omega, by omega⟩ ⟨by omega, by omega⟩ (hG.s) ⟨⟨by omega, by omega⟩, by omega, by omega⟩ (by omega)) qC_L_ifFollowed qM_L_165 qS_L_ifFollowed qN_L (by decide +kernel) ⟨Nat.le_of_ble_eq_true rfl, Nat.le_of_ble_eq_true rfl⟩ rfl rfl hl.1 rfl (Nat.le_of_ble_eq_true rfl) dL_law_257 (hC (by omega) (by omega)) (fun H locs G => ?_)
  refine lv_istore (lv' := [(18, .int (kI (jud σ (u % 2) (u / 4 % 8) (1 + u / 32 % 4)))), (17, .int (kI (pok σ (u % 2) (u / 4 % 8) 3))), (16, .int (kI (σ 5 (u % 2 * 16 + u / 4 % 8)))), (15, .int (kI (σ 4 (u % 2 * 16 + u / 4 % 8)))), (14, .int (kI (σ 12 (u % 2)))), (13, .int (kI (σ 9 (u % 2)))), (12, .int (kI (kor σ (u % 2) 2))), (11, .int (kI (atr σ (u % 2)))), (10, .int (kI (σ 2 0))), (9, .int (kI (u / 4 % 8))), (8, .int (kI (u % 2))), (7, .int (kI (σ 15 1))), (6, .int (kI w)), (5, .int (kI u)), (4, .int (kI y)), (3, .int (kI i)), (2, .int (kI 1)), (1, .ref (z + 0)), (0, .ref b)]) hx hb dL_law_260 hl (by decide) rfl (fun ls hl => ?_)
  refine lv_aload_n hx hb dL_law_262 rfl (lv_at hl 17 rfl) ?_
  refine r_iconst hx hb dL_law_263 ?_
  refine r_callW (na := 2) (own := RL) ⟨hx, hb, hml, hown, hts⟩ G hv (k_L_setting_y l hst0 (σ := σ) (k := 1) ⟨by omega, by omega⟩ (by omega)) qC_L_setting qM_L_128 qS_L_setting qN_L (by decide +kernel) ⟨Nat.le_of_ble_eq_true rfl, Nat.le_of_ble_eq_true rfl⟩ rfl rfl hl.1 rfl (Nat.le_of_ble_eq_true rfl) dL_law_264 (hC (by omega) (by omega)) (fun H locs G => ?_)
  refine lv_istore (lv' := [(19, .int (kI (σ 14 1))), (18, .int (kI (jud σ (u % 2) (u / 4 % 8) (1 + u / 32 % 4)))), (17, .int (kI (pok σ (u % 2) (u / 4 % 8) 3))), (16, .int (kI (σ 5 (u % 2 * 16 + u / 4 % 8)))), (15, .int (kI (σ 4 (u % 2 * 16 + u / 4 % 8)))), (14, .int (kI (σ 12 (u % 2)))), (13, .int (kI (σ 9 (u % 2)))), (12, .int (kI (kor σ (u % 2) 2))), (11, .int (kI (atr σ (u % 2)))), (10, .int (kI (σ 2 0))), (9, .int (kI (u / 4 % 8))), (8, .int (kI (u % 2))), (7, .int (kI (σ 15 1))), (6, .int (kI w)), (5, .int (kI u)), (4, .int (kI y)), (3, .int (kI i)), (2, .int (kI 1)), (1, .ref (z + 0)), (0, .ref b)]) hx hb dL_law_267 hl (by decide) rfl (fun ls hl => ?_)
  refine lv_aload_n hx hb dL_law_269 rfl (lv_at hl 18 rfl) ?_
  refine r_iconst hx hb dL_law_270 ?_
  refine r_callW (na := 2) (own := RL) ⟨hx, hb, hml, hown, hts⟩ G hv (k_L_setting_y l hst0 (σ := σ) (k := 2) ⟨by omega, by omega⟩ (by omega)) qC_L_setting qM_L_128 qS_L_setting qN_L (by decide +kernel) ⟨Nat.le_of_ble_eq_true rfl, Nat.le_of_ble_eq_true rfl⟩ rfl rfl hl.1 rfl (Nat.le_of_ble_eq_true rfl) dL_law_271 (hC (by omega) (by omega)) (fun H locs G => ?_)
  refine lv_istore (lv' := [(20, .int (kI (σ 14 2))), (19, .int (kI (σ 14 1))), (18, .int (kI (jud σ (u % 2) (u / 4 % 8) (1 + u / 32 % 4)))), (17, .int (kI (pok σ (u % 2) (u / 4 % 8) 3))), (16, .int (kI (σ 5 (u % 2 * 16 + u / 4 % 8)))), (15, .int (kI (σ 4 (u % 2 * 16 + u / 4 % 8)))), (14, .int (kI (σ 12 (u % 2)))), (13, .int (kI (σ 9 (u % 2)))), (12, .int (kI (kor σ (u % 2) 2))), (11, .int (kI (atr σ (u % 2)))), (10, .int (kI (σ 2 0))), (9, .int (kI (u / 4 % 8))), (8, .int (kI (u % 2))), (7, .int (kI (σ 15 1))), (6, .int (kI w)), (5, .int (kI u)), (4, .int (kI y)), (3, .int (kI i)), (2, .int (kI 1)), (1, .ref (z + 0)), (0, .ref b)]) hx hb dL_law_274 hl (by decide) rfl (fun ls hl => ?_)
  exact W.widen (k := k0 + 26) (n := n0 + 156) (by omega) (by omega) (kk y u w _ _ _ ⟨hy0, hy1⟩ hu hw G (lv_sub hl [20, 19, 18, 17, 16, 15, 14, 13, 12, 11, 10, 9, 8, 7, 6, 5, 4, 3, 2, 1, 0] rfl))
set_option maxRecDepth 100000 in
set_option maxHeartbeats 4000000 in
theorem lw_back {p : Program} {e : Env} {s : State} {m : MethodId} {below : List Frame} {meth : Method} {c : Code} {H : Heap} {locs : List Loc} {ls : Array Slot} {D : va_G} {T : Nat → ClassId} {σ : Mem} {z b k0 n0 : Nat} {Q : State → Prop} {n i : Int} {L : Nat} {xs : Nat → Int32} (l : Launch) (hst0 : l.stackTraces = false) (hx : p.tables.exec = Jvm.exec) (hb : c.code = cL_law) (hml : c.maxLocals = 23) (hown : s.vm.findClass RL = some m.cls) (hts : ∀ w ∈ Gw, w.before #[Value.ref b] s = true) (hv : Xv s) (hT : hol T < z) (hX : va_X b L xs s s.heap) (hbl : b < s.heap.size) (hL : L ≤ 260) (hbz : b < z) (G : Wd D T z 133 σ s H locs) {k : Int} (hk : 0 ≤ k ∧ k < 4) (hG : GI n σ) (hn : 0 ≤ n ∧ n ≤ 800) (hi : 0 ≤ i ∧ i ≤ 44) (hc0 : k0 + 520 ≤ 600130 ∧ n0 + 3120 ≤ 7301079) (hl : lv_has ls 23 [(3, .int (kI i)), (2, .int (kI 1)), (1, .ref (z + 0)), (0, .ref b), (8, .int (kI k))]) (kk : ∀ (H1 : Heap) (locs1 : List Loc) (ls1 : Array Slot), Wd D T z 133 σ s H1 locs1 → lv_has ls1 23 [(3, .int (kI (i + 1))), (2, .int (kI 1)), (1, .ref (z + 0)), (0, .ref b)] → W p l e room_1 s m #[Value.ref b] below meth c H1 locs1 (k0 + 520) (n0 + 3120) Q (F0 m 112 ls1 [])) : W p l e room_1 s m #[Value.ref b] below meth c H locs k0 n0 Q (F0 m 882 ls []) := by
  have hC : ∀ {a b : Nat}, a ≤ 600130 → b ≤ 7301079 → a ≤ room_1.cells ∧ b ≤ room_1.slots := fun h1 h2 => ⟨h1, h2⟩
  refine lv_iload_n hx hb dL_law_882 rfl (lv_at hl 1 rfl) ?_
  refine r_if_eq (tgt := 912) hx hb ⟨by decide, by decide⟩ dL_law_883 (by decide) (fun h_1 => absurd h_1 (by decide)) (fun _ => ?_)
  refine lv_iload_n hx hb dL_law_886 rfl (lv_at hl 0 rfl) ?_
  refine r_iconst hx hb dL_law_887 ?_
  refine r_irem hx hb dL_law_888 (by omega) (by omega) (by omega) (by omega) ?_
  refine r_if_gt (tgt := 908) hx hb ⟨by omega, by omega⟩ dL_law_889 (by decide) (fun h_2 => ?_) (fun h_2 => ?_)
  · skip
    refine r_iconst hx hb dL_law_908 ?_
    refine lv_goto (tgt := 913) hx hb dL_law_909 (by decide) ?_
    refine lv_istore_n (lv' := [(2, .int (kI 1)), (3, .int (kI i)), (1, .ref (z + 0)), (0, .ref b), (8, .int (kI k))]) hx hb dL_law_913 rfl hl (by decide) rfl (fun ls hl => ?_)
    refine r_iinc (lv' := [(3, .int (kI (i + 1))), (2, .int (kI 1)), (1, .ref (z + 0)), (0, .ref b), (8, .int (kI k))]) hx hb dL_law_914 hl (k := 1) rfl (by decide) rfl (fun ls hl => ?_)
    refine lv_goto (tgt := 112) hx hb dL_law_917 (by decide) ?_
    exact W.widen (k := k0 + 520) (n := n0 + 3120) (by omega) (by omega) (kk _ _ _ G (lv_sub hl [0, 1, 2, 3] rfl))
  · skip
    refine lv_aload_n hx hb dL_law_892 rfl (lv_at hl 2 rfl) ?_
    refine lv_iload hx hb dL_law_893 (lv_at hl 4 rfl) ?_
    refine r_callK (na := 2) (own := RL) ⟨hx, hb, hml, hown, hts⟩ hT G hv (k_L_kind l hst0 (k := k) ⟨by omega, by omega⟩ hG.i (by omega)) (cSx hts qM_L_153 qS_L_kind qN_L qC_L_kind (by decide +kernel) ⟨Nat.le_of_ble_eq_true rfl, Nat.le_of_ble_eq_true rfl⟩) rfl rfl hl.1 rfl (Nat.le_of_ble_eq_true rfl) dL_law_895 (hC (by omega) (by omega)) (fun H locs G => ?_)
    refine r_if_eq (tgt := 912) hx hb ⟨by decide, by decide⟩ dL_law_898 (by decide) (fun h_3 => absurd h_3 (by decide)) (fun _ => ?_)
    refine lv_aload_n hx hb dL_law_901 rfl (lv_at hl 2 rfl) ?_
    refine r_callK (na := 1) (own := RL) ⟨hx, hb, hml, hown, hts⟩ hT G hv (k_L_hangs l hst0 hG.i (by omega)) (cSx hts qM_L_157 qS_L_hangs qN_L qC_L_hangs (by decide +kernel) ⟨Nat.le_of_ble_eq_true rfl, Nat.le_of_ble_eq_true rfl⟩) rfl rfl hl.1 rfl (Nat.le_of_ble_eq_true rfl) dL_law_902 (hC (by omega) (by omega)) (fun H locs G => ?_)
    refine r_if_eq (tgt := 912) hx hb ⟨by decide, by decide⟩ dL_law_905 (by decide) (fun h_4 => absurd h_4 (by decide)) (fun _ => ?_)
    refine r_iconst hx hb dL_law_908 ?_
    refine lv_goto (tgt := 913) hx hb dL_law_909 (by decide) ?_
    refine lv_istore_n (lv' := [(2, .int (kI 1)), (3, .int (kI i)), (1, .ref (z + 0)), (0, .ref b), (8, .int (kI k))]) hx hb dL_law_913 rfl hl (by decide) rfl (fun ls hl => ?_)
    refine r_iinc (lv' := [(3, .int (kI (i + 1))), (2, .int (kI 1)), (1, .ref (z + 0)), (0, .ref b), (8, .int (kI k))]) hx hb dL_law_914 hl (k := 1) rfl (by decide) rfl (fun ls hl => ?_)
    refine lv_goto (tgt := 112) hx hb dL_law_917 (by decide) ?_
    exact W.widen (k := k0 + 520) (n := n0 + 3120) (by omega) (by omega) (kk _ _ _ G (lv_sub hl [0, 1, 2, 3] rfl))
/-! THE CLAIM OUT OF ONE WALK OF THE LAW'S BODY. Your part is whole_start (and what it stands on); all else here is the same for every law, but numbers. -/
def R_law : String := "CompostKeysLaw"
def lw_P (b : Addr) (xs : List Int32) (args : Array Value) (s : State) : Prop := args = #[.ref b] ∧ s.IntsAt b xs ∧ xs.length ≤ 260 ∧ (Jvm.Cond.and given_1 narrow_1).before args s = true
/-- what a walk over the start with the record d0 says of its end, said of the start itself -/
theorem lw_closed {s t : State} {o : Outcome} {d0 : Drawn} {L : List Loc} {k n : Nat} (hd0 : s.drawn.sameBut d0 lw_cs) (hv : ∃ v, o = .returned v) (hW : (s.setDrawn d0).WarmedH t.vm) (hs : (s.setDrawn d0).sameButNew ({ t with vm := s.vm } : State) L k n) : State.butDraws s t lw_cs (fun t1 => Framed s o t1 L k n) := by
  have h2 : t.drawn = d0 := congrArg State.drawn hs.1
  refine ⟨⟨hv, hW, State.sameButNew.setDrawn hs s.drawn⟩, ?_, by decide⟩
  rw [h2]
  exact hd0
def lw_Q (_ : Array Value) (s : State) (o : Outcome) (t : State) : Prop := o = .returned (some (.int 1)) ∧ State.butDraws s t lw_cs (fun t1 => Framed s o t1 [] 600130 7301079)
def lw_Z (below : List Frame) (a : Array Value) (s : State) : State → Prop := fun t => ∃ o, t.status = .running ∧ Ended t below o ∧ lw_Q a s o t
/-- the law's own end, with 1 on the stack, nothing written that was there before, its room as the claim has it; d0: the record of draws at this point (at the entry s.drawn: begin with 'refine W.base ?_' and 'have hd0 := Drawn.sameBut.refl s.drawn lw_cs') -/
theorem lw_ret {p : Program} {l : Launch} {e : Env} {s : State} {m : MethodId} {below : List Frame} {meth : Method} {c : Code} {b : Nat} {d0 : Drawn} (hd0 : s.drawn.sameBut d0 lw_cs) (hx : p.tables.exec = Jvm.exec) (hb : c.code = code) (hr : meth.sig.returnType = ret) (hlocks : meth.locks = false) {pc : Nat} {H : Heap} {ls : Array Slot} (hdg : decode code pc = .ok (.ireturn, 1)) : W p l e room_1 (s.setDrawn d0) m #[Value.ref b] below meth c H [] 600130 7301079 (lw_Z below #[Value.ref b] s) (F0 m pc ls [.int 1]) := by
  intro T hT X
  obtain ⟨fs, hret, hrun, hended, hW, hframe⟩ := X.leave (v := some (.int 1)) (hlocks := hlocks) (fun h => by rw [hr] at h; cases h)
  have hmeth' : T.vm.method? m = some meth := X.method'
  refine ⟨T.setFrames fs, ?_, .returned (some (.int 1)), hrun, hended, rfl, lw_closed hd0 ⟨_, rfl⟩ hW hframe⟩
  jvm_step X.here [X.here.top, hx, hb, hdg, hmeth', hr, ret, narrow_b1]
  (try refine ⟨rfl, ?_⟩); (try refine ⟨rfl, ?_⟩)
  first | (intro acts; rw [hret _ acts rfl rfl rfl]) | rw [hret _ _ rfl rfl rfl]
  exact Steps.refl _
/-- what holds at the law's entry: the machine, the code, the tables' words (any of lw_tbl by 'hts w (by decide +kernel)'), the script of L ints xs at the cell b, what the Statement gives of the start (any of its parts by flat_of_before) -/
def lw_At (p : Program) (s : State) (m : MethodId) (meth : Method) (c : Code) (b L : Nat) (xs : Nat → Int32) : Prop :=
  p.tables.exec = Jvm.exec ∧ c.code = code ∧ meth.sig.returnType = ret ∧ c.maxLocals = 23 ∧ s.vm.findClass R_law = some m.cls ∧ (∀ w ∈ lw_tbl, w.before #[Value.ref b] s = true) ∧ va_X b L xs s s.heap ∧ b < s.heap.size ∧ meth.locks = false ∧ (Jvm.Cond.and given_1 narrow_1).before #[Value.ref b] s = true
set_option maxRecDepth 100000 in
set_option maxHeartbeats 4000000 in
theorem lw_tail {p : Program} {e : Env} {s : State} {m : MethodId} {below : List Frame} {meth : Method} {c : Code} {H : Heap} {locs : List Loc} {ls : Array Slot} {D : va_G} {T : Nat → ClassId} {σ : Mem} {z b k0 n0 : Nat} {Q : State → Prop} {n i : Int} {L : Nat} {xs : Nat → Int32} (l : Launch) (hst0 : l.stackTraces = false) (hx : p.tables.exec = Jvm.exec) (hb : c.code = cL_law) (hml : c.maxLocals = 23) (hown : s.vm.findClass RL = some m.cls) (hts : ∀ w ∈ Gw, w.before #[Value.ref b] s = true) (hv : Xv s) (hT : hol T < z) (hX : va_X b L xs s s.heap) (hbl : b < s.heap.size) (hL : L ≤ 260) (hbz : b < z) (G : Wd D T z 133 σ s H locs) (hz0 : s.heap.size ≤ z) (hr : meth.sig.returnType = ret) (hlk : meth.locks = false) (hG : GI n σ) (hn : 0 ≤ n ∧ n ≤ 800) (hc0 : k0 + 1000 ≤ 600130 ∧ n0 + 6000 ≤ 7301079) (hl : lv_has ls 23 [(3, .int (kI i)), (2, .int (kI 1)), (1, .ref (z + 0)), (0, .ref b)]) : W p l e room_1 s m #[Value.ref b] below meth c H locs k0 n0 (lw_Z below #[Value.ref b] s) (F0 m 920 ls []) := by
  have hC : ∀ {a b : Nat}, a ≤ 600130 → b ≤ 7301079 → a ≤ room_1.cells ∧ b ≤ room_1.slots := fun h1 h2 => ⟨h1, h2⟩
  refine lv_iload_n hx hb dL_law_920 rfl (lv_at hl 1 rfl) ?_
  refine r_if_eq (tgt := 1185) hx hb ⟨by decide, by decide⟩ dL_law_921 (by decide) (fun h_1 => absurd h_1 (by decide)) (fun _ => ?_)
  refine lv_aload_n hx hb dL_law_924 rfl (lv_at hl 2 rfl) ?_
  refine r_iconst hx hb dL_law_925 ?_
  refine r_callK (na := 2) (own := RL) ⟨hx, hb, hml, hown, hts⟩ hT G hv (k_L_kind l hst0 (k := 0) ⟨by omega, by omega⟩ hG.i (by omega)) (cSx hts qM_L_153 qS_L_kind qN_L qC_L_kind (by decide +kernel) ⟨Nat.le_of_ble_eq_true rfl, Nat.le_of_ble_eq_true rfl⟩) rfl rfl hl.1 rfl (Nat.le_of_ble_eq_true rfl) dL_law_926 (hC (by omega) (by omega)) (fun H locs G => ?_)
  refine r_if_eq (tgt := 1185) hx hb ⟨by decide, by decide⟩ dL_law_929 (by decide) (fun h_2 => absurd h_2 (by decide)) (fun _ => ?_)
  refine lv_aload_n hx hb dL_law_932 rfl (lv_at hl 2 rfl) ?_
  refine r_iconst hx hb dL_law_933 ?_
  refine r_callK (na := 2) (own := RL) ⟨hx, hb, hml, hown, hts⟩ hT G hv (k_L_kind l hst0 (k := 1) ⟨by omega, by omega⟩ hG.i (by omega)) (cSx hts qM_L_153 qS_L_kind qN_L qC_L_kind (by decide +kernel) ⟨Nat.le_of_ble_eq_true rfl, Nat.le_of_ble_eq_true rfl⟩) rfl rfl hl.1 rfl (Nat.le_of_ble_eq_true rfl) dL_law_934 (hC (by omega) (by omega)) (fun H locs G => ?_)
  refine r_if_eq (tgt := 1185) hx hb ⟨by decide, by decide⟩ dL_law_937 (by decide) (fun h_3 => absurd h_3 (by decide)) (fun _ => ?_)
  refine lv_aload_n hx hb dL_law_940 rfl (lv_at hl 2 rfl) ?_
  refine r_callK (na := 1) (own := RL) ⟨hx, hb, hml, hown, hts⟩ hT G hv (k_L_hangs l hst0 hG.i (by omega)) (cSx hts qM_L_157 qS_L_hangs qN_L qC_L_hangs (by decide +kernel) ⟨Nat.le_of_ble_eq_true rfl, Nat.le_of_ble_eq_true rfl⟩) rfl rfl hl.1 rfl (Nat.le_of_ble_eq_true rfl) dL_law_941 (hC (by omega) (by omega)) (fun H locs G => ?_)
  refine r_if_eq (tgt := 1185) hx hb ⟨by decide, by decide⟩ dL_law_944 (by decide) (fun h_4 => absurd h_4 (by decide)) (fun _ => ?_)
  refine lv_aload_n hx hb dL_law_947 rfl (lv_at hl 2 rfl) ?_
  refine r_iconst hx hb dL_law_948 ?_
  refine r_callW (na := 2) (own := RL) ⟨hx, hb, hml, hown, hts⟩ G hv (k_L_ask_1 l hst0 (σ := σ) (k := 4) ⟨by omega, by omega⟩ (hG.xc) (hG.z) (hG.s) (by first | omega | decide)) qC_L_ask qM_L_120 qS_L_ask qN_L (by decide +kernel) ⟨Nat.le_of_ble_eq_true rfl, Nat.le_of_ble_eq_true rfl⟩ rfl rfl hl.1 rfl (Nat.le_of_ble_eq_true rfl) dL_law_949 (hC (by omega) (by omega)) (fun H locs G => ?_)
  refine r_ldc (n := -2000001) hx hb hts hown qCon_L_17 (by decide) dL_law_952 ?_
  refine r_icmp_ne (tgt := 1185) hx hb ⟨by decide, by decide⟩ ⟨by decide, by decide⟩ dL_law_954 (by decide) (fun h_5 => absurd h_5 (by decide)) (fun _ => ?_)
  refine lv_aload_n hx hb dL_law_957 rfl (lv_at hl 2 rfl) ?_
  refine r_iconst hx hb dL_law_958 ?_
  refine r_bipush hx hb dL_law_959 (by decide +kernel) ?_
  refine r_callW (na := 3) (own := RL) ⟨hx, hb, hml, hown, hts⟩ G hv (k_L_want_1 l hst0 (σ := σ) (k := 0) (y := 16) ⟨by omega, by omega⟩ ⟨by omega, by omega⟩ (hG.xc) (hG.z) (hG.s) (by first | omega | decide)) qC_L_want qM_L_109 qS_L_want qN_L (by decide +kernel) ⟨Nat.le_of_ble_eq_true rfl, Nat.le_of_ble_eq_true rfl⟩ rfl rfl hl.1 rfl (Nat.le_of_ble_eq_true rfl) dL_law_961 (hC (by omega) (by omega)) (fun H locs G => ?_)
  refine r_ldc (n := -2000001) hx hb hts hown qCon_L_17 (by decide) dL_law_964 ?_
  refine r_icmp_ne (tgt := 1185) hx hb ⟨by decide, by decide⟩ ⟨by decide, by decide⟩ dL_law_966 (by decide) (fun h_6 => absurd h_6 (by decide)) (fun _ => ?_)
  refine lv_aload_n hx hb dL_law_969 rfl (lv_at hl 2 rfl) ?_
  refine r_iconst hx hb dL_law_970 ?_
  refine r_iconst hx hb dL_law_971 ?_
  refine r_callW (na := 3) (own := RL) ⟨hx, hb, hml, hown, hts⟩ G hv (k_L_delete_1 l hst0 (σ := σ) (k := -1) (y := 0) ⟨by omega, by omega⟩ ⟨by omega, by omega⟩ (hG.xc) (hG.z) (hG.s) (by first | omega | decide)) qC_L_delete qM_L_118 qS_L_delete qN_L (by decide +kernel) ⟨Nat.le_of_ble_eq_true rfl, Nat.le_of_ble_eq_true rfl⟩ rfl rfl hl.1 rfl (Nat.le_of_ble_eq_true rfl) dL_law_972 (hC (by omega) (by omega)) (fun H locs G => ?_)
  refine r_ldc (n := -2000001) hx hb hts hown qCon_L_17 (by decide) dL_law_975 ?_
  refine r_icmp_ne (tgt := 1185) hx hb ⟨by decide, by decide⟩ ⟨by decide, by decide⟩ dL_law_977 (by decide) (fun h_7 => absurd h_7 (by decide)) (fun _ => ?_)
  refine lv_aload_n hx hb dL_law_980 rfl (lv_at hl 2 rfl) ?_
  refine r_iconst hx hb dL_law_981 ?_
  refine r_bipush hx hb dL_law_982 (by decide +kernel) ?_
  refine r_callW (na := 3) (own := RL) ⟨hx, hb, hml, hown, hts⟩ G hv (k_L_bringBack_1 l hst0 (σ := σ) (k := 0) (y := 16) ⟨by omega, by omega⟩ ⟨by omega, by omega⟩ (hG.xc) (hG.z) (hG.s) (by first | omega | decide)) qC_L_bringBack qM_L_111 qS_L_bringBack qN_L (by decide +kernel) ⟨Nat.le_of_ble_eq_true rfl, Nat.le_of_ble_eq_true rfl⟩ rfl rfl hl.1 rfl (Nat.le_of_ble_eq_true rfl) dL_law_984 (hC (by omega) (by omega)) (fun H locs G => ?_)
  refine r_ldc (n := -2000001) hx hb hts hown qCon_L_17 (by decide) dL_law_987 ?_
  refine r_icmp_ne (tgt := 1185) hx hb ⟨by decide, by decide⟩ ⟨by decide, by decide⟩ dL_law_989 (by decide) (fun h_8 => absurd h_8 (by decide)) (fun _ => ?_)
  refine lv_aload_n hx hb dL_law_992 rfl (lv_at hl 2 rfl) ?_
  refine r_iconst hx hb dL_law_993 ?_
  refine r_callW (na := 2) (own := RL) ⟨hx, hb, hml, hown, hts⟩ G hv (k_L_turn_1 l hst0 (σ := σ) (k := 4) ⟨by omega, by omega⟩ (hG.xc) (hG.z) (hG.s) (by first | omega | decide)) qC_L_turn qM_L_102 qS_L_turn qN_L (by decide +kernel) ⟨Nat.le_of_ble_eq_true rfl, Nat.le_of_ble_eq_true rfl⟩ rfl rfl hl.1 rfl (Nat.le_of_ble_eq_true rfl) dL_law_994 (hC (by omega) (by omega)) (fun H locs G => ?_)
  refine r_ldc (n := -2000001) hx hb hts hown qCon_L_17 (by decide) dL_law_997 ?_
  refine r_icmp_ne (tgt := 1185) hx hb ⟨by decide, by decide⟩ ⟨by decide, by decide⟩ dL_law_999 (by decide) (fun h_9 => absurd h_9 (by decide)) (fun _ => ?_)
  refine lv_aload_n hx hb dL_law_1002 rfl (lv_at hl 2 rfl) ?_
  refine r_iconst hx hb dL_law_1003 ?_
  refine r_iconst hx hb dL_law_1004 ?_
  refine r_iconst hx hb dL_law_1005 ?_
  refine r_callW (na := 4) (own := RL) ⟨hx, hb, hml, hown, hts⟩ G hv (k_L_follow_2 l hst0 (σ := σ) (k := 0) (y := 0) (q := 0) ⟨by omega, by omega⟩ ⟨by omega, by omega⟩ ⟨by omega, by omega⟩ (hG.xc) (hG.z) (hG.s) ⟨⟨by omega, by omega⟩, by omega, by omega⟩ (by first | omega | decide)) qC_L_follow qM_L_115 qS_L_follow qN_L (by decide +kernel) ⟨Nat.le_of_ble_eq_true rfl, Nat.le_of_ble_eq_true rfl⟩ rfl rfl hl.1 rfl (Nat.le_of_ble_eq_true rfl) dL_law_1006 (hC (by omega) (by omega)) (fun H locs G => ?_)
  refine r_ldc (n := -2000002) hx hb hts hown qCon_L_27 (by decide) dL_law_1009 ?_
  refine r_icmp_ne (tgt := 1185) hx hb ⟨by decide, by decide⟩ ⟨by decide, by decide⟩ dL_law_1011 (by decide) (fun h_10 => absurd h_10 (by decide)) (fun _ => ?_)
  refine lv_aload_n hx hb dL_law_1014 rfl (lv_at hl 2 rfl) ?_
  refine r_bipush hx hb dL_law_1015 (by decide +kernel) ?_
  refine r_callW (na := 2) (own := RL) ⟨hx, hb, hml, hown, hts⟩ G hv (k_L_pass_1 l hst0 (σ := σ) (d := 100) ⟨by omega, by omega⟩ (hG.xc) (hG.z) (hG.s) (by first | omega | decide)) qC_L_pass qM_L_113 qS_L_pass qN_L (by decide +kernel) ⟨Nat.le_of_ble_eq_true rfl, Nat.le_of_ble_eq_true rfl⟩ rfl rfl hl.1 rfl (Nat.le_of_ble_eq_true rfl) dL_law_1017 (hC (by omega) (by omega)) (fun H locs G => ?_)
  refine r_ldc (n := -2000001) hx hb hts hown qCon_L_17 (by decide) dL_law_1020 ?_
  refine r_icmp_ne (tgt := 1185) hx hb ⟨by decide, by decide⟩ ⟨by decide, by decide⟩ dL_law_1022 (by decide) (fun h_11 => absurd h_11 (by decide)) (fun _ => ?_)
  refine lv_aload_n hx hb dL_law_1025 rfl (lv_at hl 2 rfl) ?_
  refine r_iconst hx hb dL_law_1026 ?_
  refine r_bipush hx hb dL_law_1027 (by decide +kernel) ?_
  refine r_callW (na := 3) (own := RL) ⟨hx, hb, hml, hown, hts⟩ G hv (k_L_season_2 l hst0 (σ := σ) (k := 0) (d := 100) ⟨by omega, by omega⟩ ⟨by omega, by omega⟩ (hG.xc) (hG.z) (hG.s) ⟨by omega, by omega⟩ (by first | omega | decide)) qC_L_season qM_L_95 qS_L_season qN_L (by decide +kernel) ⟨Nat.le_of_ble_eq_true rfl, Nat.le_of_ble_eq_true rfl⟩ rfl rfl hl.1 rfl (Nat.le_of_ble_eq_true rfl) dL_law_1029 (hC (by omega) (by omega)) (fun H locs G => ?_)
  refine r_ldc (n := -2000002) hx hb hts hown qCon_L_27 (by decide) dL_law_1032 ?_
  refine r_icmp_ne (tgt := 1185) hx hb ⟨by decide, by decide⟩ ⟨by decide, by decide⟩ dL_law_1034 (by decide) (fun h_12 => absurd h_12 (by decide)) (fun _ => ?_)
  refine lv_aload_n hx hb dL_law_1037 rfl (lv_at hl 2 rfl) ?_
  refine r_iconst hx hb dL_law_1038 ?_
  refine r_iconst hx hb dL_law_1039 ?_
  refine r_callW (na := 3) (own := RL) ⟨hx, hb, hml, hown, hts⟩ G hv (k_L_set_1 l hst0 (σ := σ) (k := 3) (d := 0) ⟨by omega, by omega⟩ ⟨by omega, by omega⟩ (hG.xc) (hG.z) (hG.s) (by first | omega | decide)) qC_L_set qM_L_100 qS_L_set qN_L (by decide +kernel) ⟨Nat.le_of_ble_eq_true rfl, Nat.le_of_ble_eq_true rfl⟩ rfl rfl hl.1 rfl (Nat.le_of_ble_eq_true rfl) dL_law_1040 (hC (by omega) (by omega)) (fun H locs G => ?_)
  refine r_ldc (n := -2000001) hx hb hts hown qCon_L_17 (by decide) dL_law_1043 ?_
  refine r_icmp_ne (tgt := 1185) hx hb ⟨by decide, by decide⟩ ⟨by decide, by decide⟩ dL_law_1045 (by decide) (fun h_13 => absurd h_13 (by decide)) (fun _ => ?_)
  refine lv_aload_n hx hb dL_law_1048 rfl (lv_at hl 2 rfl) ?_
  refine r_iconst hx hb dL_law_1049 ?_
  refine r_iconst hx hb dL_law_1050 ?_
  refine r_callW (na := 3) (own := RL) ⟨hx, hb, hml, hown, hts⟩ G hv (k_L_set_2 l hst0 (σ := σ) (k := 0) (d := 4) ⟨by omega, by omega⟩ ⟨by omega, by omega⟩ (hG.xc) (hG.z) (hG.s) (by omega) (by first | omega | decide)) qC_L_set qM_L_100 qS_L_set qN_L (by decide +kernel) ⟨Nat.le_of_ble_eq_true rfl, Nat.le_of_ble_eq_true rfl⟩ rfl rfl hl.1 rfl (Nat.le_of_ble_eq_true rfl) dL_law_1051 (hC (by omega) (by omega)) (fun H locs G => ?_)
  refine r_ldc (n := -2000002) hx hb hts hown qCon_L_27 (by decide) dL_law_1054 ?_
  refine r_icmp_ne (tgt := 1185) hx hb ⟨by decide, by decide⟩ ⟨by decide, by decide⟩ dL_law_1056 (by decide) (fun h_14 => absurd h_14 (by decide)) (fun _ => ?_)
  refine lv_aload_n hx hb dL_law_1059 rfl (lv_at hl 2 rfl) ?_
  refine r_iconst hx hb dL_law_1060 ?_
  refine r_iconst hx hb dL_law_1061 ?_
  refine r_callW (na := 3) (own := RL) ⟨hx, hb, hml, hown, hts⟩ G hv (k_L_set_2 l hst0 (σ := σ) (k := 1) (d := 0) ⟨by omega, by omega⟩ ⟨by omega, by omega⟩ (hG.xc) (hG.z) (hG.s) (by omega) (by first | omega | decide)) qC_L_set qM_L_100 qS_L_set qN_L (by decide +kernel) ⟨Nat.le_of_ble_eq_true rfl, Nat.le_of_ble_eq_true rfl⟩ rfl rfl hl.1 rfl (Nat.le_of_ble_eq_true rfl) dL_law_1062 (hC (by omega) (by omega)) (fun H locs G => ?_)
  refine r_ldc (n := -2000002) hx hb hts hown qCon_L_27 (by decide) dL_law_1065 ?_
  refine r_icmp_ne (tgt := 1185) hx hb ⟨by decide, by decide⟩ ⟨by decide, by decide⟩ dL_law_1067 (by decide) (fun h_15 => absurd h_15 (by decide)) (fun _ => ?_)
  refine lv_aload_n hx hb dL_law_1070 rfl (lv_at hl 2 rfl) ?_
  refine r_bipush hx hb dL_law_1071 (by decide +kernel) ?_
  refine r_callW (na := 2) (own := RL) ⟨hx, hb, hml, hown, hts⟩ G hv (k_L_append_1 l hst0 (σ := σ) (v := 32) ⟨by omega, by omega⟩ (hG.it) (by first | omega | decide)) qC_L_append qM_L_171 qS_L_append qN_L (by decide +kernel) ⟨Nat.le_of_ble_eq_true rfl, Nat.le_of_ble_eq_true rfl⟩ rfl rfl hl.1 rfl (Nat.le_of_ble_eq_true rfl) dL_law_1073 (hC (by omega) (by omega)) (fun H locs G => ?_)
  refine r_ldc (n := -2000001) hx hb hts hown qCon_L_17 (by decide) dL_law_1076 ?_
  refine r_icmp_ne (tgt := 1185) hx hb ⟨by decide, by decide⟩ ⟨by decide, by decide⟩ dL_law_1078 (by decide) (fun h_16 => absurd h_16 (by decide)) (fun _ => ?_)
  refine lv_aload_n hx hb dL_law_1081 rfl (lv_at hl 2 rfl) ?_
  refine r_iconst hx hb dL_law_1082 ?_
  refine r_callW (na := 2) (own := RL) ⟨hx, hb, hml, hown, hts⟩ G hv (k_L_keep_1 l hst0 (σ := σ) (q := 2) ⟨by omega, by omega⟩ (by first | omega | decide)) qC_L_keep qM_L_107 qS_L_keep qN_L (by decide +kernel) ⟨Nat.le_of_ble_eq_true rfl, Nat.le_of_ble_eq_true rfl⟩ rfl rfl hl.1 rfl (Nat.le_of_ble_eq_true rfl) dL_law_1083 (hC (by omega) (by omega)) (fun H locs G => ?_)
  refine r_ldc (n := -2000001) hx hb hts hown qCon_L_17 (by decide) dL_law_1086 ?_
  refine r_icmp_ne (tgt := 1185) hx hb ⟨by decide, by decide⟩ ⟨by decide, by decide⟩ dL_law_1088 (by decide) (fun h_17 => absurd h_17 (by decide)) (fun _ => ?_)
  refine lv_aload_n hx hb dL_law_1091 rfl (lv_at hl 2 rfl) ?_
  refine r_iconst hx hb dL_law_1092 ?_
  refine r_iconst hx hb dL_law_1093 ?_
  refine r_iconst hx hb dL_law_1094 ?_
  refine r_callW (na := 4) (own := RL) ⟨hx, hb, hml, hown, hts⟩ G hv (k_L_keyOf_2 l hst0 (σ := σ) (k := 0) (y := 0) (w := 5) ⟨by omega, by omega⟩ ⟨by omega, by omega⟩ ⟨by omega, by omega⟩ (hG.s) ⟨⟨by omega, by omega⟩, by omega, by omega⟩ (by first | omega | decide)) qC_L_keyOf qM_L_124 qS_L_keyOf qN_L (by decide +kernel) ⟨Nat.le_of_ble_eq_true rfl, Nat.le_of_ble_eq_true rfl⟩ rfl rfl hl.1 rfl (Nat.le_of_ble_eq_true rfl) dL_law_1095 (hC (by omega) (by omega)) (fun H locs G => ?_)
  refine r_ldc (n := -2000002) hx hb hts hown qCon_L_27 (by decide) dL_law_1098 ?_
  refine r_icmp_ne (tgt := 1185) hx hb ⟨by decide, by decide⟩ ⟨by decide, by decide⟩ dL_law_1100 (by decide) (fun h_18 => absurd h_18 (by decide)) (fun _ => ?_)
  refine lv_aload_n hx hb dL_law_1103 rfl (lv_at hl 2 rfl) ?_
  refine r_iconst hx hb dL_law_1104 ?_
  refine r_bipush hx hb dL_law_1105 (by decide +kernel) ?_
  refine r_callW (na := 3) (own := RL) ⟨hx, hb, hml, hown, hts⟩ G hv (k_L_kindOf_2 l hst0 (σ := σ) (k := 0) (w := 11) ⟨by omega, by omega⟩ ⟨by omega, by omega⟩ (hG.s) ⟨by omega, by omega⟩ (by first | omega | decide)) qC_L_kindOf qM_L_122 qS_L_kindOf qN_L (by decide +kernel) ⟨Nat.le_of_ble_eq_true rfl, Nat.le_of_ble_eq_true rfl⟩ rfl rfl hl.1 rfl (Nat.le_of_ble_eq_true rfl) dL_law_1107 (hC (by omega) (by omega)) (fun H locs G => ?_)
  refine r_ldc (n := -2000002) hx hb hts hown qCon_L_27 (by decide) dL_law_1110 ?_
  refine r_icmp_ne (tgt := 1185) hx hb ⟨by decide, by decide⟩ ⟨by decide, by decide⟩ dL_law_1112 (by decide) (fun h_19 => absurd h_19 (by decide)) (fun _ => ?_)
  refine lv_aload_n hx hb dL_law_1115 rfl (lv_at hl 2 rfl) ?_
  refine r_iconst hx hb dL_law_1116 ?_
  refine r_iconst hx hb dL_law_1117 ?_
  refine r_callW (na := 3) (own := RL) ⟨hx, hb, hml, hown, hts⟩ G hv (k_L_pile_2 l hst0 (σ := σ) (k := 0) (q := -1) ⟨by omega, by omega⟩ ⟨by omega, by omega⟩ (hG.s) ⟨by omega, by omega⟩ (by first | omega | decide)) qC_L_pile qM_L_126 qS_L_pile qN_L (by decide +kernel) ⟨Nat.le_of_ble_eq_true rfl, Nat.le_of_ble_eq_true rfl⟩ rfl rfl hl.1 rfl (Nat.le_of_ble_eq_true rfl) dL_law_1118 (hC (by omega) (by omega)) (fun H locs G => ?_)
  refine r_ldc (n := -2000002) hx hb hts hown qCon_L_27 (by decide) dL_law_1121 ?_
  refine r_icmp_ne (tgt := 1185) hx hb ⟨by decide, by decide⟩ ⟨by decide, by decide⟩ dL_law_1123 (by decide) (fun h_20 => absurd h_20 (by decide)) (fun _ => ?_)
  refine lv_aload_n hx hb dL_law_1126 rfl (lv_at hl 2 rfl) ?_
  refine r_bipush hx hb dL_law_1127 (by decide +kernel) ?_
  refine r_callW (na := 2) (own := RL) ⟨hx, hb, hml, hown, hts⟩ G hv (k_L_count_1 l hst0 (σ := σ) (w := 10) ⟨by omega, by omega⟩ (hG.s) (by first | omega | decide)) qC_L_count qM_L_138 qS_L_count qN_L (by decide +kernel) ⟨Nat.le_of_ble_eq_true rfl, Nat.le_of_ble_eq_true rfl⟩ rfl rfl hl.1 rfl (Nat.le_of_ble_eq_true rfl) dL_law_1129 (hC (by omega) (by omega)) (fun H locs G => ?_)
  refine r_ldc (n := -2000001) hx hb hts hown qCon_L_17 (by decide) dL_law_1132 ?_
  refine r_icmp_ne (tgt := 1185) hx hb ⟨by decide, by decide⟩ ⟨by decide, by decide⟩ dL_law_1134 (by decide) (fun h_21 => absurd h_21 (by decide)) (fun _ => ?_)
  refine lv_aload_n hx hb dL_law_1137 rfl (lv_at hl 2 rfl) ?_
  refine r_iconst hx hb dL_law_1138 ?_
  refine r_callW (na := 2) (own := RL) ⟨hx, hb, hml, hown, hts⟩ G hv (k_L_setting_1 l hst0 (σ := σ) (k := 3) ⟨by omega, by omega⟩ (by first | omega | decide)) qC_L_setting qM_L_128 qS_L_setting qN_L (by decide +kernel) ⟨Nat.le_of_ble_eq_true rfl, Nat.le_of_ble_eq_true rfl⟩ rfl rfl hl.1 rfl (Nat.le_of_ble_eq_true rfl) dL_law_1139 (hC (by omega) (by omega)) (fun H locs G => ?_)
  refine r_ldc (n := -2000001) hx hb hts hown qCon_L_17 (by decide) dL_law_1142 ?_
  refine r_icmp_ne (tgt := 1185) hx hb ⟨by decide, by decide⟩ ⟨by decide, by decide⟩ dL_law_1144 (by decide) (fun h_22 => absurd h_22 (by decide)) (fun _ => ?_)
  refine lv_aload_n hx hb dL_law_1147 rfl (lv_at hl 2 rfl) ?_
  refine r_iconst hx hb dL_law_1148 ?_
  refine r_bipush hx hb dL_law_1149 (by decide +kernel) ?_
  refine r_callW (na := 3) (own := RL) ⟨hx, hb, hml, hown, hts⟩ G hv (k_L_coming_2 l hst0 (σ := σ) (k := 0) (n := 17) ⟨by omega, by omega⟩ ⟨by omega, by omega⟩ (hG.s) ⟨by omega, by omega⟩ (by first | omega | decide)) qC_L_coming qM_L_132 qS_L_coming qN_L (by decide +kernel) ⟨Nat.le_of_ble_eq_true rfl, Nat.le_of_ble_eq_true rfl⟩ rfl rfl hl.1 rfl (Nat.le_of_ble_eq_true rfl) dL_law_1151 (hC (by omega) (by omega)) (fun H locs G => ?_)
  refine r_ldc (n := -2000002) hx hb hts hown qCon_L_27 (by decide) dL_law_1154 ?_
  refine r_icmp_ne (tgt := 1185) hx hb ⟨by decide, by decide⟩ ⟨by decide, by decide⟩ dL_law_1156 (by decide) (fun h_23 => absurd h_23 (by decide)) (fun _ => ?_)
  refine lv_aload_n hx hb dL_law_1159 rfl (lv_at hl 2 rfl) ?_
  refine r_iconst hx hb dL_law_1160 ?_
  refine r_callW (na := 2) (own := RL) ⟨hx, hb, hml, hown, hts⟩ G hv (k_L_longest_1 l hst0 (σ := σ) (k := 4) ⟨by omega, by omega⟩ (hG.s) (by first | omega | decide)) qC_L_longest qM_L_136 qS_L_longest qN_L (by decide +kernel) ⟨Nat.le_of_ble_eq_true rfl, Nat.le_of_ble_eq_true rfl⟩ rfl rfl hl.1 rfl (Nat.le_of_ble_eq_true rfl) dL_law_1161 (hC (by omega) (by omega)) (fun H locs G => ?_)
  refine r_ldc (n := -2000001) hx hb hts hown qCon_L_17 (by decide) dL_law_1164 ?_
  refine r_icmp_ne (tgt := 1185) hx hb ⟨by decide, by decide⟩ ⟨by decide, by decide⟩ dL_law_1166 (by decide) (fun h_24 => absurd h_24 (by decide)) (fun _ => ?_)
  refine lv_aload_n hx hb dL_law_1169 rfl (lv_at hl 2 rfl) ?_
  refine r_iconst hx hb dL_law_1170 ?_
  refine r_iconst hx hb dL_law_1171 ?_
  refine r_iconst hx hb dL_law_1172 ?_
  refine r_callW (na := 4) (own := RL) ⟨hx, hb, hml, hown, hts⟩ G hv (k_L_ifFollowed_2 l hst0 (σ := σ) (k := 0) (y := 0) (q := 0) ⟨by omega, by omega⟩ ⟨by omega, by omega⟩ ⟨by omega, by omega⟩ (hG.s) ⟨⟨by omega, by omega⟩, by omega, by omega⟩ (by first | omega | decide)) qC_L_ifFollowed qM_L_165 qS_L_ifFollowed qN_L (by decide +kernel) ⟨Nat.le_of_ble_eq_true rfl, Nat.le_of_ble_eq_true rfl⟩ rfl rfl hl.1 rfl (Nat.le_of_ble_eq_true rfl) dL_law_1173 (hC (by omega) (by omega)) (fun H locs G => ?_)
  refine r_ldc (n := -2000002) hx hb hts hown qCon_L_27 (by decide) dL_law_1176 ?_
  refine r_icmp_ne (tgt := 1185) hx hb ⟨by decide, by decide⟩ ⟨by decide, by decide⟩ dL_law_1178 (by decide) (fun h_25 => absurd h_25 (by decide)) (fun _ => ?_)
  refine r_iconst hx hb dL_law_1181 ?_
  refine lv_goto (tgt := 1186) hx hb dL_law_1182 (by decide) ?_
  exact va_forget (fun q hq => Nat.le_trans hz0 (G.2.2.1.2.2 q hq).1) (W.widen (k := 600130) (n := 7301079) (by omega) (by omega) (W.base (lw_ret (Drawn.sameBut.refl s.drawn lw_cs) hx hb hr hlk dL_law_1186)))
theorem z_io {k : Nat} {j : Int} (h2 : k ≠ 2) (h13 : k ≠ 13) : io k j = 0 := by
  unfold io
  rw [if_neg (fun q => h2 q.1), if_neg (fun q => h13 q.1)]
theorem z_c {c : Nat} {j : Int} (h : 1 ≤ c ∧ c < 15) (h3 : c ≠ 3) (h14 : c ≠ 14) : σ0 c j = 0 := by
  have e : σ0 c j = io (c - 1) j := by unfold σ0; rw [if_pos h]
  rw [e, z_io (by omega) (by omega)]
theorem Inv_0 : Inv 0 σ0 := by
  have e3 : ∀ k : Int, k < 4 → σ0 3 k = 5 := fun k h => by
    have e : σ0 3 k = io 2 k := rfl
    rw [e]; unfold io; rw [if_pos ⟨rfl, h⟩]
  have hh : ∀ k w, w ≠ 0 → hm σ0 k w = 0 := fun k w hw => cn_0f (by decide) (fun j _ _ q => by
    have q' : σ0 4 (k * 16 + j) = w := q
    rw [z_c (by decide) (by decide) (by decide)] at q'; exact hw q'.symm)
  refine ⟨⟨⟨by rw [z_c (by decide) (by decide) (by decide)]; decide, fun k a b => by rw [e3 k b]; decide, fun i a b => ?_⟩, ?_, ?_, ?_⟩, by rw [z_c (by decide) (by decide) (by decide)]; decide, fun k hk => ⟨fun y hy => ⟨?_, fun q => ?_⟩, fun y z _ _ q _ _ => ?_⟩, fun k hk => ?_, ?_⟩
  · rw [z_c (c := 4) (by decide) (by decide) (by decide), z_c (c := 5) (by decide) (by decide) (by decide), z_c (c := 6) (by decide) (by decide) (by decide), z_c (c := 7) (by decide) (by decide) (by decide), z_c (c := 2) (by decide) (by decide) (by decide)]; decide
  · have e : σ0 14 0 = 0 := by decide +kernel
    rw [e]; decide
  · have e : σ0 14 1 = 4 := by decide +kernel
    rw [e]; decide
  · have e : σ0 14 2 = 3 := by decide +kernel
    rw [e]; decide
  · rw [z_c (c := 4) (by decide) (by decide) (by decide), z_c (c := 5) (by decide) (by decide) (by decide)]
  · rw [z_c (c := 4) (by decide) (by decide) (by decide)] at q; exact absurd q (by decide)
  · rw [z_c (c := 4) (by decide) (by decide) (by decide)] at q; exact absurd q (by decide)
  · unfold ACk
    rw [z_c (c := 9) (by decide) (by decide) (by decide), z_c (c := 10) (by decide) (by decide) (by decide), z_c (c := 11) (by decide) (by decide) (by decide), z_c (c := 12) (by decide) (by decide) (by decide), z_c (c := 13) (by decide) (by decide) (by decide), hh k 1 (by decide)]; decide
  · rw [z_c (c := 8) (by decide) (by decide) (by decide), z_c (c := 8) (by decide) (by decide) (by decide), z_c (c := 8) (by decide) (by decide) (by decide)]; decide
theorem GI_0 : GI 0 σ0 := by
  have e16 : ∀ i, σ0 16 i = i := fun _ => rfl
  have e130 : ∀ i, σ0 130 i = 0 := fun _ => rfl
  have e15 : σ0 15 1 = 0 := rfl
  exact ⟨Inv_0, fun i a b => by rw [e16]; exact ⟨a, b⟩, by rw [e15]; decide, fun q _ _ => ⟨Or.inl (e130 q), fun g => by rw [e130] at g; exact absurd g (by decide)⟩, rfl⟩
set_option maxRecDepth 100000 in
set_option maxHeartbeats 4000000 in
theorem lw_first {p : Program} {e : Env} {s : State} {m : MethodId} {below : List Frame} {meth : Method} {c : Code} {H : Heap} {locs : List Loc} {ls : Array Slot} {D : va_G} {T : Nat → ClassId} {σ : Mem} {z b k0 n0 : Nat} {Q : State → Prop} {n i : Int} {L : Nat} {xs : Nat → Int32} (l : Launch) (hst0 : l.stackTraces = false) (hx : p.tables.exec = Jvm.exec) (hb : c.code = cL_law) (hml : c.maxLocals = 23) (hown : s.vm.findClass RL = some m.cls) (hts : ∀ w ∈ Gw, w.before #[Value.ref b] s = true) (hv : Xv s) (hT : hol T < z) (hX : va_X b L xs s s.heap) (hbl : b < s.heap.size) (hL : L ≤ 260) (hbz : b < z) (G : Wd D T z 133 σ0 s H locs) (hG : GI 0 σ0) (hc0 : k0 + 600 ≤ 600130 ∧ n0 + 3600 ≤ 7301079) (hl : lv_has ls 23 [(1, .ref (z + 0)), (0, .ref b)]) (kk : ∀ (H1 : Heap) (locs1 : List Loc) (ls1 : Array Slot), Wd D T z 133 σ0 s H1 locs1 → lv_has ls1 23 [(3, .int (kI 0)), (2, .int (kI 1)), (1, .ref (z + 0)), (0, .ref b)] → W p l e room_1 s m #[Value.ref b] below meth c H1 locs1 (k0 + 600) (n0 + 3600) Q (F0 m 112 ls1 [])) : W p l e room_1 s m #[Value.ref b] below meth c H locs k0 n0 Q (F0 m 8 ls []) := by
  have hC : ∀ {a b : Nat}, a ≤ 600130 → b ≤ 7301079 → a ≤ room_1.cells ∧ b ≤ room_1.slots := fun h1 h2 => ⟨h1, h2⟩
  have hn : (0 : Int) ≤ 1000 := by decide
  refine lv_aload_n hx hb dL_law_8 rfl (lv_at hl 0 rfl) ?_
  refine r_callW (na := 1) (own := RL) ⟨hx, hb, hml, hown, hts⟩ G hv (k_L_undo_1 l hst0 (σ := σ0) (hG.xc) (hG.z) (by decide +kernel)) qC_L_undo qM_L_148 qS_L_undo qN_L (by decide +kernel) ⟨Nat.le_of_ble_eq_true rfl, Nat.le_of_ble_eq_true rfl⟩ rfl rfl hl.1 rfl (Nat.le_of_ble_eq_true rfl) dL_law_9 (hC (by omega) (by omega)) (fun H locs G => ?_)
  refine r_ldc (n := -2000001) hx hb hts hown qCon_L_17 (by decide) dL_law_12 ?_
  refine r_icmp_ne (tgt := 108) hx hb ⟨by decide, by decide⟩ ⟨by decide, by decide⟩ dL_law_14 (by decide) (fun h_1 => absurd h_1 (by decide)) (fun _ => ?_)
  refine lv_aload_n hx hb dL_law_17 rfl (lv_at hl 0 rfl) ?_
  refine r_iconst hx hb dL_law_18 ?_
  refine r_callW (na := 2) (own := RL) ⟨hx, hb, hml, hown, hts⟩ G hv (k_L_goBack_2 l hst0 (σ := σ0) (q := 0) ⟨by omega, by omega⟩ (hG.kc) (hG.xc) (hG.z) (hG.s) (by decide) (by decide +kernel)) qC_L_goBack qM_L_105 qS_L_goBack qN_L (by decide +kernel) ⟨Nat.le_of_ble_eq_true rfl, Nat.le_of_ble_eq_true rfl⟩ rfl rfl hl.1 rfl (Nat.le_of_ble_eq_true rfl) dL_law_19 (hC (by omega) (by omega)) (fun H locs G => ?_)
  refine r_ldc (n := -2000002) hx hb hts hown qCon_L_27 (by decide) dL_law_22 ?_
  refine r_icmp_ne (tgt := 108) hx hb ⟨by decide, by decide⟩ ⟨by decide, by decide⟩ dL_law_24 (by decide) (fun h_2 => absurd h_2 (by decide)) (fun _ => ?_)
  refine lv_aload_n hx hb dL_law_27 rfl (lv_at hl 0 rfl) ?_
  refine r_callW (na := 1) (own := RL) ⟨hx, hb, hml, hown, hts⟩ G hv (k_L_run_1 l hst0 (σ := σ0) (hG.it) (hG.xc) (hG.z) (hG.s) (fun q => absurd q (by decide +kernel)) (by decide +kernel)) qC_L_run qM_L_151 qS_L_run qN_L (by decide +kernel) ⟨Nat.le_of_ble_eq_true rfl, Nat.le_of_ble_eq_true rfl⟩ rfl rfl hl.1 rfl (Nat.le_of_ble_eq_true rfl) dL_law_28 (hC (by omega) (by omega)) (fun H locs G => ?_)
  refine r_ldc (n := -2000001) hx hb hts hown qCon_L_17 (by decide) dL_law_31 ?_
  refine r_icmp_ne (tgt := 108) hx hb ⟨by decide, by decide⟩ ⟨by decide, by decide⟩ dL_law_33 (by decide) (fun h_3 => absurd h_3 (by decide)) (fun _ => ?_)
  refine lv_aload_n hx hb dL_law_36 rfl (lv_at hl 0 rfl) ?_
  refine r_iconst hx hb dL_law_37 ?_
  refine r_callW (na := 2) (own := RL) ⟨hx, hb, hml, hown, hts⟩ G hv (k_L_ifAsked_y l hst0 (σ := σ0) (k := 0) ⟨by omega, by omega⟩ (hG.s) ⟨by omega, by omega⟩) qC_L_ifAsked qM_L_130 qS_L_ifAsked qN_L (by decide +kernel) ⟨Nat.le_of_ble_eq_true rfl, Nat.le_of_ble_eq_true rfl⟩ rfl rfl hl.1 rfl (Nat.le_of_ble_eq_true rfl) dL_law_38 (hC (by omega) (by omega)) (fun H locs G => ?_)
  refine r_top (b := 0) (by decide +kernel) ?_
  refine r_if_ne (tgt := 108) hx hb ⟨by decide, by decide⟩ dL_law_41 (by decide) (fun h_4 => absurd h_4 (by decide)) (fun _ => ?_)
  refine lv_aload_n hx hb dL_law_44 rfl (lv_at hl 0 rfl) ?_
  refine r_iconst hx hb dL_law_45 ?_
  refine r_callW (na := 2) (own := RL) ⟨hx, hb, hml, hown, hts⟩ G hv (k_L_keyIn_y l hst0 (σ := σ0) (k := 3) ⟨by omega, by omega⟩ (hG.s) ⟨by omega, by omega⟩) qC_L_keyIn qM_L_134 qS_L_keyIn qN_L (by decide +kernel) ⟨Nat.le_of_ble_eq_true rfl, Nat.le_of_ble_eq_true rfl⟩ rfl rfl hl.1 rfl (Nat.le_of_ble_eq_true rfl) dL_law_46 (hC (by omega) (by omega)) (fun H locs G => ?_)
  refine r_top (b := 0) (by decide +kernel) ?_
  refine r_if_ne (tgt := 108) hx hb ⟨by decide, by decide⟩ dL_law_49 (by decide) (fun h_5 => absurd h_5 (by decide)) (fun _ => ?_)
  refine lv_aload_n hx hb dL_law_52 rfl (lv_at hl 0 rfl) ?_
  refine r_iconst hx hb dL_law_53 ?_
  refine r_callW (na := 2) (own := RL) ⟨hx, hb, hml, hown, hts⟩ G hv (k_L_longest_y l hst0 (σ := σ0) (k := 2) ⟨by omega, by omega⟩ (hG.s) ⟨by omega, by omega⟩) qC_L_longest qM_L_136 qS_L_longest qN_L (by decide +kernel) ⟨Nat.le_of_ble_eq_true rfl, Nat.le_of_ble_eq_true rfl⟩ rfl rfl hl.1 rfl (Nat.le_of_ble_eq_true rfl) dL_law_54 (hC (by omega) (by omega)) (fun H locs G => ?_)
  refine r_top (b := 99) (by decide +kernel) ?_
  refine r_bipush hx hb dL_law_57 (by decide +kernel) ?_
  refine r_icmp_ne (tgt := 108) hx hb ⟨by decide, by decide⟩ ⟨by decide, by decide⟩ dL_law_59 (by decide) (fun h_6 => absurd h_6 (by decide)) (fun _ => ?_)
  refine lv_aload_n hx hb dL_law_62 rfl (lv_at hl 0 rfl) ?_
  refine r_iconst hx hb dL_law_63 ?_
  refine r_iconst hx hb dL_law_64 ?_
  refine r_callW (na := 3) (own := RL) ⟨hx, hb, hml, hown, hts⟩ G hv (k_L_delete_2 l hst0 (σ := σ0) (k := 0) (y := 0) ⟨by omega, by omega⟩ ⟨by omega, by omega⟩ (hG.xc) (hG.z) (hG.s) (by decide) (by decide +kernel)) qC_L_delete qM_L_118 qS_L_delete qN_L (by decide +kernel) ⟨Nat.le_of_ble_eq_true rfl, Nat.le_of_ble_eq_true rfl⟩ rfl rfl hl.1 rfl (Nat.le_of_ble_eq_true rfl) dL_law_65 (hC (by omega) (by omega)) (fun H locs G => ?_)
  refine r_ldc (n := -2000002) hx hb hts hown qCon_L_27 (by decide) dL_law_68 ?_
  refine r_icmp_ne (tgt := 108) hx hb ⟨by decide, by decide⟩ ⟨by decide, by decide⟩ dL_law_70 (by decide) (fun h_7 => absurd h_7 (by decide)) (fun _ => ?_)
  refine lv_aload_n hx hb dL_law_73 rfl (lv_at hl 0 rfl) ?_
  have hS := hG.s
  refine r_callVD ⟨hx, hb, hml, hown, hts⟩ G (k_X5_ripeShare l (σ := σ0) hS) (kVp_X5_ripeShare hts qM_L_143 ⟨Nat.le_of_ble_eq_true rfl, Nat.le_of_ble_eq_true rfl⟩) (rc_X5 G) rfl rfl hl.1 rfl (Nat.le_of_ble_eq_true rfl) dL_law_74 (hC (by omega) (by omega)) (fun H locs G => ?_)
  refine r_topD (if_pos (by decide +kernel)) ?_
  refine lv_dconst1 hx hb dL_law_77 ?_
  refine lv_dcmp hx hb dL_law_78 ?_
  refine lv_if_ne (tgt := 108) hx hb dL_law_79 (by decide) (fun h => absurd sh_11.1 h) (fun _ => ?_)
  refine lv_aload_n hx hb dL_law_82 rfl (lv_at hl 0 rfl) ?_
  refine r_callVI ⟨hx, hb, hml, hown, hts⟩ G (k_X5_scarcest l (σ := σ0) hS) (kVp_X5_scarcest hts qM_L_140 ⟨Nat.le_of_ble_eq_true rfl, Nat.le_of_ble_eq_true rfl⟩) (rc_X5 G) rfl rfl hl.1 rfl (Nat.le_of_ble_eq_true rfl) dL_law_83 (hC (by omega) (by omega)) (fun H locs G => ?_)
  refine r_top (b := 0) (by decide +kernel) ?_
  refine r_if_ne (tgt := 108) hx hb ⟨by decide, by decide⟩ dL_law_86 (by decide) (fun h_8 => absurd h_8 (by decide)) (fun _ => ?_)
  refine lv_aload_n hx hb dL_law_89 rfl (lv_at hl 0 rfl) ?_
  refine r_iconst hx hb dL_law_90 ?_
  refine r_callK (na := 2) (own := RL) ⟨hx, hb, hml, hown, hts⟩ hT G hv (k_L_kind l hst0 (k := 0) ⟨by omega, by omega⟩ hG.i (by omega)) (cSx hts qM_L_153 qS_L_kind qN_L qC_L_kind (by decide +kernel) ⟨Nat.le_of_ble_eq_true rfl, Nat.le_of_ble_eq_true rfl⟩) rfl rfl hl.1 rfl (Nat.le_of_ble_eq_true rfl) dL_law_91 (hC (by omega) (by omega)) (fun H locs G => ?_)
  refine r_if_eq (tgt := 108) hx hb ⟨by decide, by decide⟩ dL_law_94 (by decide) (fun h_9 => absurd h_9 (by decide)) (fun _ => ?_)
  refine lv_aload_n hx hb dL_law_97 rfl (lv_at hl 0 rfl) ?_
  refine r_callK (na := 1) (own := RL) ⟨hx, hb, hml, hown, hts⟩ hT G hv (k_L_hangs l hst0 hG.i (by omega)) (cSx hts qM_L_157 qS_L_hangs qN_L qC_L_hangs (by decide +kernel) ⟨Nat.le_of_ble_eq_true rfl, Nat.le_of_ble_eq_true rfl⟩) rfl rfl hl.1 rfl (Nat.le_of_ble_eq_true rfl) dL_law_98 (hC (by omega) (by omega)) (fun H locs G => ?_)
  refine r_if_eq (tgt := 108) hx hb ⟨by decide, by decide⟩ dL_law_101 (by decide) (fun h_10 => absurd h_10 (by decide)) (fun _ => ?_)
  refine r_iconst hx hb dL_law_104 ?_
  refine lv_goto (tgt := 109) hx hb dL_law_105 (by decide) ?_
  refine lv_istore_n (lv' := [(2, .int (kI 1)), (1, .ref (z + 0)), (0, .ref b)]) hx hb dL_law_109 rfl hl (by decide) rfl (fun ls hl => ?_)
  refine r_iconst hx hb dL_law_110 ?_
  refine lv_istore_n (lv' := [(3, .int (kI 0)), (2, .int (kI 1)), (1, .ref (z + 0)), (0, .ref b)]) hx hb dL_law_111 rfl hl (by decide) rfl (fun ls hl => ?_)
  exact W.widen (k := k0 + 600) (n := n0 + 3600) (by omega) (by omega) (kk _ _ _ G (lv_sub hl [0, 1, 2, 3] rfl))
