/-! THE LAW'S CASES -/
abbrev lawC : ByteArray := cL_law
/-- an int of the script -/
def sx (xs : Nat → Int32) (i : Int) : Int := (xs i.toNat).toInt
theorem sx_rg {xs : Nat → Int32} {i : Int} : inR (sx xs i) := kI_rg _
def Lf (p : Program) (s : State) (m : MethodId) (meth : Method) (c : Code) (b L : Nat) (xs : Nat → Int32) : Prop := p.tables.exec = Jvm.exec ∧ c.code = lawC ∧ c.maxLocals = 10 ∧ s.vm.findClass RL = some m.cls ∧ (∀ w ∈ Gw, w.before #[Value.ref b] s = true) ∧ va_X b L xs s s.heap ∧ b < s.heap.size ∧ L ≤ 2048
section LWR
variable {p : Program} {l : Launch} {e : Env} {R : Room} {s : State} {m : MethodId} {args : Array Value} {below : List Frame} {meth : Method} {c : Code} {H : Heap} {locs : List Loc} {cells slots : Nat} {Q : State → Prop}
variable {cc : ByteArray} {pc : Nat} {ls : Array Slot} {rest st : List Value} {D : va_G} {T : Nat → ClassId} {z : Nat} {σ τ τ' : Mem}
theorem r_sld (hx : p.tables.exec = Jvm.exec) (hb : c.code = cc) (G : Wd D T s.heap.size 139 σ s H locs) {b L : Nat} {xs : Nat → Int32} (hX : va_X b L xs s s.heap) (hbl : b < s.heap.size) (hL : L ≤ 2048) {i a : Int} (hi : 0 ≤ i ∧ i < (L : Int)) (ha : sx xs i = a) (hdg : decode cc pc = .ok (.iaload, 1)) (kk : W p l e R s m args below meth c H locs cells slots Q (F0 m (pc + 1) ls (.int (kI a) :: rest))) : W p l e R s m args below meth c H locs cells slots Q (F0 m pc ls (.int (kI i) :: .ref b :: rest)) := by
  refine va_sld hx hb hX hbl (show ¬ Own s.heap.size b from Nat.not_le.mpr hbl) G.2.2.1 (kI_in hi.1 hi.2 (by omega)) hdg ?_
  rw [kI_cn hi.1 (by omega), ← kI_self (xs i.toNat)]
  rw [← ha] at kk
  exact kk
theorem r_lald (hx : p.tables.exec = Jvm.exec) (hb : c.code = cc) (G : Wd D T z 139 σ s H locs) (hdg : decode cc pc = .ok (.laload, 1)) (kk : W p l e R s m args below meth c H locs cells slots Q (F0 m (pc + 1) ls (.long (Int64.ofInt (σ 137 0)) :: rest))) : W p l e R s m args below meth c H locs cells slots Q (F0 m pc ls (.int (kI 0) :: .ref (z + 137) :: rest)) := by
  have hg := World_get (T := T) (z := z) (σ := σ) (show 137 < 139 by decide)
  exact va_lald hx hb G.2.1 G.1 137 3 hg rfl (kI_in (i := 0) (n := 1) (by decide) (by decide) (by decide)) hdg kk
theorem r_dald (hx : p.tables.exec = Jvm.exec) (hb : c.code = cc) (G : Wd D T z 139 σ s H locs) (hdg : decode cc pc = .ok (.daload, 1)) {x : UInt64} (hx2 : σ 138 0 = (x.toNat : Int)) (kk : W p l e R s m args below meth c H locs cells slots Q (F0 m (pc + 1) ls (.double x :: rest))) : W p l e R s m args below meth c H locs cells slots Q (F0 m pc ls (.int (kI 0) :: .ref (z + 138) :: rest)) := by
  have hg := World_get (T := T) (z := z) (σ := σ) (show 138 < 139 by decide)
  refine va_dald hx hb G.2.1 G.1 138 4 hg rfl (kI_in (i := 0) (n := 1) (by decide) (by decide) (by decide)) hdg ?_
  have e : UInt64.ofNat (σ 138 (((kI 0).toNatClampNeg : Nat) : Int)).toNat = x := by
    show UInt64.ofNat (σ 138 0).toNat = x
    rw [hx2, Int.toNat_natCast, UInt64.ofNat_toNat]
  rw [e]; exact kk
theorem lg_self {a : Int64} : lg_cmp a a = 0 := by
  unfold lg_cmp
  rw [if_neg (fun h => by have h1 : a < a := h; rw [Int64.lt_iff_toInt_lt] at h1; omega), if_pos rfl]
theorem r_leq {a a' : Int64} {off : Int} {tgt : Nat} (hx : p.tables.exec = Jvm.exec) (hb : c.code = cc) (he : a = a') (d1 : decode cc pc = .ok (.lcmp, 1)) (d2 : decode cc (pc + 1) = .ok (.ifCond .eq off, 3)) (ht : ((pc + 1 : Nat) : Int) + off = (tgt : Int)) (k : W p l e R s m args below meth c H locs cells slots Q (F0 m tgt ls rest)) : W p l e R s m args below meth c H locs cells slots Q (F0 m pc ls (.long a' :: .long a :: rest)) := by
  subst he
  exact W.lcmp hx hb d1 (lv_if_eq hx hb d2 ht (fun _ => k) (fun h => absurd lg_self h))
theorem r_deq {a a' : UInt64} {off : Int} {tgt : Nat} (hx : p.tables.exec = Jvm.exec) (hb : c.code = cc) (he : a = a') (hd : DP a) (d1 : decode cc pc = .ok (.dcmp .l, 1)) (d2 : decode cc (pc + 1) = .ok (.ifCond .eq off, 3)) (ht : ((pc + 1 : Nat) : Int) + off = (tgt : Int)) (k : W p l e R s m args below meth c H locs cells slots Q (F0 m tgt ls rest)) : W p l e R s m args below meth c H locs cells slots Q (F0 m pc ls (.double a' :: .double a :: rest)) := by
  subst he
  exact lv_dcmp hx hb d1 (lv_if_eq hx hb d2 ht (fun _ => k) (fun h => absurd hd.c h))
theorem r_ieq {a a' : Int} {off : Int} {tgt : Nat} (hx : p.tables.exec = Jvm.exec) (hb : c.code = cc) (he : a = a') (hdg : decode cc pc = .ok (.if_icmp .eq off, 3)) (ht : (pc : Int) + off = (tgt : Int)) (k : W p l e R s m args below meth c H locs cells slots Q (F0 m tgt ls rest)) : W p l e R s m args below meth c H locs cells slots Q (F0 m pc ls (.int (kI a') :: .int (kI a) :: rest)) := by
  subst he
  exact lv_icmp_eq hx hb hdg ht (fun _ => k) (fun h => absurd rfl h)
end LWR
theorem FPq.dp {x : UInt32} (h : FPq x) : DP (FP.f2d x) := by
  rcases h with rfl | ⟨E, T, h1, h2, h3, rfl⟩
  · rw [f2d_0]; exact Or.inl rfl
  · rw [f2d_fw h1 (by omega) h3]; exact Or.inr ⟨E + 896, T * 536870912, by omega, by omega, by omega, rfl⟩
theorem cr_o {σ : Mem} (hX : XC σ) (hz : 0 ≤ σ 15 1 ∧ σ 15 1 ≤ 6) {i : Int} (hi : 0 ≤ i) {c : Nat} (h : 133 ≤ c) : (crI σ i).1 c = σ c := by
  refine it_inv (f := crF σ) (a := (pus σ, 0, 1)) (n := i) (fun _ v => v.1 c = σ c) (pus_o hX hz (Or.inr (by omega))) (fun q v _ _ h3 => ?_) hi (Int.le_refl _)
  unfold crF
  split
  · exact h3
  · show dorM v.1 q c = σ c
    rw [dorM_o (by omega)]; exact h3
theorem pop_o {σ : Mem} {c : Nat} (h : 133 ≤ c) : pop σ c = σ c := by
  unfold pop; split
  · rfl
  · rw [csp_o (by omega), up_o (by omega)]
theorem aft_rg {σ M : Mem} {P Q : Prop} [Decidable P] [Decidable Q] {r : Int} (h : RG σ σ) (hM : P ∧ Q → ∀ c, 133 ≤ c → M c = σ c) : RG σ (aft P Q M r σ) := by
  unfold aft
  split
  · rename_i q; exact h.t (hM q)
  · exact h
theorem kVp_X5_clearBuffer {R : Room} {s : State} {args : Array Value} {own : String} {idx fr lo : Nat} (hts : ∀ w ∈ Gw, w.before args s = true) (h1 : Cond.methodLink own idx yX5_clearBuffer ∈ Gw) (hR : fr + 1 ≤ R.frames ∧ 8 + (2 + 11) + lo ≤ R.locals) : CallW R s args own RX5 idx yX5_clearBuffer cX5_clearBuffer 2 (some .int) (Cond.code yX5_clearBuffer cX5_clearBuffer 2 (some .int) :: Gw) (rmN fr lo) 0 0 0 := cV hts h1 qI_X5_clearBuffer qV_X5_clearBuffer qN_X5 qC_X5_clearBuffer (by decide +kernel) hR
theorem kVp_X5_firstError {R : Room} {s : State} {args : Array Value} {own : String} {idx fr lo : Nat} (hts : ∀ w ∈ Gw, w.before args s = true) (h1 : Cond.methodLink own idx yX5_firstError ∈ Gw) (hR : fr + 1 ≤ R.frames ∧ 8 + (1 + 11) + lo ≤ R.locals) : CallW R s args own RX5 idx yX5_firstError cX5_firstError 1 (some .int) (Cond.code yX5_firstError cX5_firstError 1 (some .int) :: Gw) (rmN fr lo) 0 0 0 := cV hts h1 qI_X5_firstError qV_X5_firstError qN_X5 qC_X5_firstError (by decide +kernel) hR
theorem kVp_X5_scarcest {R : Room} {s : State} {args : Array Value} {own : String} {idx fr lo : Nat} (hts : ∀ w ∈ Gw, w.before args s = true) (h1 : Cond.methodLink own idx yX5_scarcest ∈ Gw) (hR : fr + 1 ≤ R.frames ∧ 8 + (1 + 11) + lo ≤ R.locals) : CallW R s args own RX5 idx yX5_scarcest cX5_scarcest 1 (some .int) (Cond.code yX5_scarcest cX5_scarcest 1 (some .int) :: Gw) (rmN fr lo) 0 0 0 := cV hts h1 qI_X5_scarcest qV_X5_scarcest qN_X5 qC_X5_scarcest (by decide +kernel) hR
theorem kVp_X5_ripeShare {R : Room} {s : State} {args : Array Value} {own : String} {idx fr lo : Nat} (hts : ∀ w ∈ Gw, w.before args s = true) (h1 : Cond.methodLink own idx yX5_ripeShare ∈ Gw) (hR : fr + 1 ≤ R.frames ∧ 8 + (1 + 11) + lo ≤ R.locals) : CallW R s args own RX5 idx yX5_ripeShare cX5_ripeShare 1 (some .double) (Cond.code yX5_ripeShare cX5_ripeShare 1 (some .double) :: Gw) (rmN fr lo) 0 0 0 := cV hts h1 qI_X5_ripeShare qV_X5_ripeShare qN_X5 qC_X5_ripeShare (by decide +kernel) hR
theorem kVp_X5_digest {R : Room} {s : State} {args : Array Value} {own : String} {idx fr lo : Nat} (hts : ∀ w ∈ Gw, w.before args s = true) (h1 : Cond.methodLink own idx yX5_digest ∈ Gw) (hR : fr + 1 ≤ R.frames ∧ 8 + (4 + 11) + lo ≤ R.locals) : CallW R s args own RX5 idx yX5_digest cX5_digest 4 (some .long) (Cond.code yX5_digest cX5_digest 4 (some .long) :: Gw) (rmN fr lo) 0 0 0 := cV hts h1 qI_X5_digest qV_X5_digest qN_X5 qC_X5_digest (by decide +kernel) hR
set_option maxRecDepth 100000 in
set_option maxHeartbeats 4000000 in
theorem lc_0 {p : Program} {e : Env} {s : State} {m : MethodId} {below : List Frame} {meth : Method} {c : Code} {H : Heap} {locs : List Loc} {ls : Array Slot} {D : va_G} {T : Nat → ClassId} {σ : Mem} {b L j k0 n0 : Nat} {xs : Nat → Int32} {Q : State → Prop} (l : Launch) (hst0 : l.stackTraces = false) (hF : Lf p s m meth c b L xs) (hv : Xv s) (G : Wd D T s.heap.size 139 σ s H locs) (hR : RG σ σ) (hj : 4 * j + 4 ≤ L) (hc : k0 + 2 ≤ 601024 ∧ n0 + 12 ≤ 7293034) {a1 : Int} (h1 : sx xs (4 * (j : Int) + 1) = a1) (hl : lv_has ls 10 [(5, .int (kI (4 * (j : Int)))), (4, .ref (s.heap.size + 138)), (3, .ref (s.heap.size + 137)), (2, .ref (s.heap.size + 133)), (1, .ref (s.heap.size + 0)), (0, .ref b)]) (kk : ∀ (σ1 : Mem) (H1 : Heap) (locs1 : List Loc) (ls1 : Array Slot), Wd D T s.heap.size 139 σ1 s H1 locs1 → RG σ1 σ1 → lv_has ls1 10 [(5, .int (kI (4 * (j : Int)))), (4, .ref (s.heap.size + 138)), (3, .ref (s.heap.size + 137)), (2, .ref (s.heap.size + 133)), (1, .ref (s.heap.size + 0)), (0, .ref b)] → W p l e room_1 s m #[Value.ref b] below meth c H1 locs1 (k0 + 2) (n0 + 12) Q (F0 m 1840 ls1 [])) : W p l e room_1 s m #[Value.ref b] below meth c H locs k0 n0 Q (F0 m 180 ls []) := by
  obtain ⟨hx, hb, hml, hown, hts, hXs, hbl, hL⟩ := hF
  have hcf : k0 + 2 ≤ room_1.cells ∧ n0 + 12 ≤ room_1.slots := hc
  have hcf0 : k0 ≤ room_1.cells ∧ n0 ≤ room_1.slots := ⟨by show k0 ≤ 601024; omega, by show n0 ≤ 7293034; omega⟩
  have rg1 : inR a1 := by rw [← h1]; exact sx_rg
  refine lv_aload_n hx hb dL_law_180 rfl (lv_at hl 4 rfl) ?_
  refine lv_aload_n hx hb dL_law_181 rfl (lv_at hl 5 rfl) ?_
  refine lv_iload hx hb dL_law_182 (lv_at hl 0 rfl) ?_
  refine r_iconst hx hb dL_law_184 ?_
  refine r_iadd hx hb dL_law_185 ?_
  refine r_sld hx hb G hXs hbl hL ⟨by omega, by omega⟩ h1 dL_law_186 ?_
  refine lv_aload_n hx hb dL_law_187 rfl (lv_at hl 2 rfl) ?_
  refine r_callW (na := 3) (own := RL) ⟨hx, hb, hml, hown, hts⟩ G hv (k_L_ask l hst0 (σ := σ) (k := a1) (rg1) ((hR.xc.1)) ((hR.xc.2)) (hR.1.is)) qC_L_ask qM_L_99 qS_L_ask qN_L (by decide +kernel) ⟨Nat.le_of_ble_eq_true rfl, Nat.le_of_ble_eq_true rfl⟩ rfl rfl hl.1 rfl (Nat.le_of_ble_eq_true rfl) dL_law_188 hcf (fun H locs G => ?_)
  obtain ⟨κ, hκ⟩ : ∃ κ, κ = thr (isK a1) (True) := ⟨_, rfl⟩
  rw [← hκ]
  obtain ⟨τ, hτ⟩ : ∃ τ, τ = aft (isK a1) (True) (svr (pus σ) a1) (atr (pus σ) a1) σ := ⟨_, rfl⟩
  rw [← hτ] at G
  have x := hR.xc
  have hb2 : RG σ τ := by rw [hτ]; exact aft_rg hR (fun hq c a => by rw [svr_o (by omega), pus_o x.1 x.2 (Or.inr (by omega))])
  refine lv_istore (lv' := [(6, .int (kI κ)), (5, .int (kI (4 * (j : Int)))), (4, .ref (s.heap.size + 138)), (3, .ref (s.heap.size + 137)), (2, .ref (s.heap.size + 133)), (1, .ref (s.heap.size + 0)), (0, .ref b)]) hx hb dL_law_191 hl (by decide) rfl (fun ls hl => ?_)
  refine lv_aload_n hx hb dL_law_193 rfl (lv_at hl 4 rfl) ?_
  refine lv_aload_n hx hb dL_law_194 rfl (lv_at hl 6 rfl) ?_
  refine lv_iload hx hb dL_law_195 (lv_at hl 1 rfl) ?_
  refine r_iconst hx hb dL_law_197 ?_
  refine r_iadd hx hb dL_law_198 ?_
  refine r_sld hx hb G hXs hbl hL ⟨by omega, by omega⟩ h1 dL_law_199 ?_
  obtain ⟨r, ν, hM, st⟩ : ∃ r ν, CtI l yX6_ask (Cond.code yX6_ask cX6_ask 2 (some .int)) 6 143 (fun z => [.ref (z + 133), .int (kI a1)]) τ r ν ∧ ST κ r ν := ⟨_, _, k_X6_ask l (σ := τ) (k := a1) (rg1) (hb2.2.1.2.1) (hb2.1.g), by rw [hκ]; exact st_ask hR hτ⟩
  refine r_callVI ⟨hx, hb, hml, hown, hts⟩ G hM (kV_X6_ask hts qM_L_104 ⟨Nat.le_of_ble_eq_true rfl, Nat.le_of_ble_eq_true rfl⟩) (rc_X6 G) rfl rfl hl.1 rfl (Nat.le_of_ble_eq_true rfl) dL_law_200 hcf (fun H locs G => ?_)
  refine lv_istore (lv' := [(7, .int (kI r)), (6, .int (kI κ)), (5, .int (kI (4 * (j : Int)))), (4, .ref (s.heap.size + 138)), (3, .ref (s.heap.size + 137)), (2, .ref (s.heap.size + 133)), (1, .ref (s.heap.size + 0)), (0, .ref b)]) hx hb dL_law_203 hl (by decide) rfl (fun ls hl => ?_)
  refine lv_aload_n hx hb dL_law_205 rfl (lv_at hl 5 rfl) ?_
  refine r_callVI ⟨hx, hb, hml, hown, hts⟩ G (k_X6_thrown l (σ := ν)) (kV_X6_thrown hts qM_L_105 ⟨Nat.le_of_ble_eq_true rfl, Nat.le_of_ble_eq_true rfl⟩) (rc_X6 G) rfl rfl hl.1 rfl (Nat.le_of_ble_eq_true rfl) dL_law_206 hcf (fun H locs G => ?_)
  refine r_top (b := κ) st.1 ?_
  refine lv_iload hx hb dL_law_209 (lv_at hl 1 rfl) ?_
  refine r_ieq (tgt := 216) hx hb rfl dL_law_211 (by decide) ?_
  refine lv_iload hx hb dL_law_216 (lv_at hl 1 rfl) ?_
  have hkr := st.2.1
  refine r_if_ne (tgt := 233) hx hb ⟨by omega, by omega⟩ dL_law_218 (by decide) (fun _ => ?_) (fun hz0 => ?_)
  · skip
    refine lv_goto (tgt := 1840) hx hb dL_law_233 (by decide) ?_
    exact kk _ _ _ _ G st.2.2.2 (lv_sub hl [2, 3, 4, 5, 6, 7] rfl)
  · skip
    refine lv_aload_n hx hb dL_law_221 rfl (lv_at hl 4 rfl) ?_
    refine r_iconst hx hb dL_law_222 ?_
    refine r_lald hx hb G dL_law_223 ?_
    refine r_topL (b := Int64.ofInt (wr r)) (by rw [st.2.2.1 hz0]) ?_
    refine lv_iload hx hb dL_law_224 (lv_at hl 0 rfl) ?_
    refine lv_i2l hx hb dL_law_226 rfl ?_
    refine r_leq (tgt := 233) hx hb rfl dL_law_227 dL_law_228 (by decide) ?_
    refine lv_goto (tgt := 1840) hx hb dL_law_233 (by decide) ?_
    exact kk _ _ _ _ G st.2.2.2 (lv_sub hl [2, 3, 4, 5, 6, 7] rfl)
set_option maxRecDepth 100000 in
set_option maxHeartbeats 4000000 in
theorem lc_1 {p : Program} {e : Env} {s : State} {m : MethodId} {below : List Frame} {meth : Method} {c : Code} {H : Heap} {locs : List Loc} {ls : Array Slot} {D : va_G} {T : Nat → ClassId} {σ : Mem} {b L j k0 n0 : Nat} {xs : Nat → Int32} {Q : State → Prop} (l : Launch) (hst0 : l.stackTraces = false) (hF : Lf p s m meth c b L xs) (hv : Xv s) (G : Wd D T s.heap.size 139 σ s H locs) (hR : RG σ σ) (hj : 4 * j + 4 ≤ L) (hc : k0 + 2 ≤ 601024 ∧ n0 + 12 ≤ 7293034) {a1 : Int} (h1 : sx xs (4 * (j : Int) + 1) = a1) {a2 : Int} (h2 : sx xs (4 * (j : Int) + 2) = a2) (hl : lv_has ls 10 [(5, .int (kI (4 * (j : Int)))), (4, .ref (s.heap.size + 138)), (3, .ref (s.heap.size + 137)), (2, .ref (s.heap.size + 133)), (1, .ref (s.heap.size + 0)), (0, .ref b)]) (kk : ∀ (σ1 : Mem) (H1 : Heap) (locs1 : List Loc) (ls1 : Array Slot), Wd D T s.heap.size 139 σ1 s H1 locs1 → RG σ1 σ1 → lv_has ls1 10 [(5, .int (kI (4 * (j : Int)))), (4, .ref (s.heap.size + 138)), (3, .ref (s.heap.size + 137)), (2, .ref (s.heap.size + 133)), (1, .ref (s.heap.size + 0)), (0, .ref b)] → W p l e room_1 s m #[Value.ref b] below meth c H1 locs1 (k0 + 2) (n0 + 12) Q (F0 m 1840 ls1 [])) : W p l e room_1 s m #[Value.ref b] below meth c H locs k0 n0 Q (F0 m 236 ls []) := by
  obtain ⟨hx, hb, hml, hown, hts, hXs, hbl, hL⟩ := hF
  have hcf : k0 + 2 ≤ room_1.cells ∧ n0 + 12 ≤ room_1.slots := hc
  have hcf0 : k0 ≤ room_1.cells ∧ n0 ≤ room_1.slots := ⟨by show k0 ≤ 601024; omega, by show n0 ≤ 7293034; omega⟩
  have rg1 : inR a1 := by rw [← h1]; exact sx_rg
  have rg2 : inR a2 := by rw [← h2]; exact sx_rg
  refine lv_aload_n hx hb dL_law_236 rfl (lv_at hl 4 rfl) ?_
  refine lv_aload_n hx hb dL_law_237 rfl (lv_at hl 5 rfl) ?_
  refine lv_iload hx hb dL_law_238 (lv_at hl 0 rfl) ?_
  refine r_iconst hx hb dL_law_240 ?_
  refine r_iadd hx hb dL_law_241 ?_
  refine r_sld hx hb G hXs hbl hL ⟨by omega, by omega⟩ h1 dL_law_242 ?_
  refine lv_aload_n hx hb dL_law_243 rfl (lv_at hl 5 rfl) ?_
  refine lv_iload hx hb dL_law_244 (lv_at hl 0 rfl) ?_
  refine r_iconst hx hb dL_law_246 ?_
  refine r_iadd hx hb dL_law_247 ?_
  refine r_sld hx hb G hXs hbl hL ⟨by omega, by omega⟩ h2 dL_law_248 ?_
  refine lv_aload_n hx hb dL_law_249 rfl (lv_at hl 2 rfl) ?_
  refine r_callW (na := 4) (own := RL) ⟨hx, hb, hml, hown, hts⟩ G hv (k_L_want l hst0 (σ := σ) (k := a1) (y := a2) (rg1) (rg2) ((hR.xc.1)) ((hR.xc.2)) (hR.1.is)) qC_L_want qM_L_108 qS_L_want qN_L (by decide +kernel) ⟨Nat.le_of_ble_eq_true rfl, Nat.le_of_ble_eq_true rfl⟩ rfl rfl hl.1 rfl (Nat.le_of_ble_eq_true rfl) dL_law_250 hcf (fun H locs G => ?_)
  obtain ⟨κ, hκ⟩ : ∃ κ, κ = thr (isY a1 a2) (True) := ⟨_, rfl⟩
  rw [← hκ]
  obtain ⟨τ, hτ⟩ : ∃ τ, τ = aft (isY a1 a2) (True) (svw (pus σ) a1 a2) (svwR (pus σ) a1 a2) σ := ⟨_, rfl⟩
  rw [← hτ] at G
  have x := hR.xc
  have hb2 : RG σ τ := by rw [hτ]; exact aft_rg hR (fun hq c a => by rw [svw_o (by omega), pus_o x.1 x.2 (Or.inr (by omega))])
  refine lv_istore (lv' := [(6, .int (kI κ)), (5, .int (kI (4 * (j : Int)))), (4, .ref (s.heap.size + 138)), (3, .ref (s.heap.size + 137)), (2, .ref (s.heap.size + 133)), (1, .ref (s.heap.size + 0)), (0, .ref b)]) hx hb dL_law_253 hl (by decide) rfl (fun ls hl => ?_)
  refine lv_aload_n hx hb dL_law_255 rfl (lv_at hl 4 rfl) ?_
  refine lv_aload_n hx hb dL_law_256 rfl (lv_at hl 6 rfl) ?_
  refine lv_iload hx hb dL_law_257 (lv_at hl 1 rfl) ?_
  refine r_iconst hx hb dL_law_259 ?_
  refine r_iadd hx hb dL_law_260 ?_
  refine r_sld hx hb G hXs hbl hL ⟨by omega, by omega⟩ h1 dL_law_261 ?_
  refine lv_aload_n hx hb dL_law_262 rfl (lv_at hl 6 rfl) ?_
  refine lv_iload hx hb dL_law_263 (lv_at hl 1 rfl) ?_
  refine r_iconst hx hb dL_law_265 ?_
  refine r_iadd hx hb dL_law_266 ?_
  refine r_sld hx hb G hXs hbl hL ⟨by omega, by omega⟩ h2 dL_law_267 ?_
  obtain ⟨r, ν, hM, st⟩ : ∃ r ν, CtI l yX6_want (Cond.code yX6_want cX6_want 3 (some .int)) 5 120 (fun z => [.ref (z + 133), .int (kI a1), .int (kI a2)]) τ r ν ∧ ST κ r ν := ⟨_, _, k_X6_want l (σ := τ) (k := a1) (y := a2) (rg1) (rg2) (hb2.2.1.2.1) (hb2.1.g), by rw [hκ]; exact st_want hR hτ⟩
  refine r_callVI ⟨hx, hb, hml, hown, hts⟩ G hM (kV_X6_want hts qM_L_111 ⟨Nat.le_of_ble_eq_true rfl, Nat.le_of_ble_eq_true rfl⟩) (rc_X6 G) rfl rfl hl.1 rfl (Nat.le_of_ble_eq_true rfl) dL_law_268 hcf (fun H locs G => ?_)
  refine lv_istore (lv' := [(7, .int (kI r)), (6, .int (kI κ)), (5, .int (kI (4 * (j : Int)))), (4, .ref (s.heap.size + 138)), (3, .ref (s.heap.size + 137)), (2, .ref (s.heap.size + 133)), (1, .ref (s.heap.size + 0)), (0, .ref b)]) hx hb dL_law_271 hl (by decide) rfl (fun ls hl => ?_)
  refine lv_aload_n hx hb dL_law_273 rfl (lv_at hl 5 rfl) ?_
  refine r_callVI ⟨hx, hb, hml, hown, hts⟩ G (k_X6_thrown l (σ := ν)) (kV_X6_thrown hts qM_L_105 ⟨Nat.le_of_ble_eq_true rfl, Nat.le_of_ble_eq_true rfl⟩) (rc_X6 G) rfl rfl hl.1 rfl (Nat.le_of_ble_eq_true rfl) dL_law_274 hcf (fun H locs G => ?_)
  refine r_top (b := κ) st.1 ?_
  refine lv_iload hx hb dL_law_277 (lv_at hl 1 rfl) ?_
  refine r_ieq (tgt := 284) hx hb rfl dL_law_279 (by decide) ?_
  refine lv_iload hx hb dL_law_284 (lv_at hl 1 rfl) ?_
  have hkr := st.2.1
  refine r_if_ne (tgt := 301) hx hb ⟨by omega, by omega⟩ dL_law_286 (by decide) (fun _ => ?_) (fun hz0 => ?_)
  · skip
    refine lv_goto (tgt := 1840) hx hb dL_law_301 (by decide) ?_
    exact kk _ _ _ _ G st.2.2.2 (lv_sub hl [2, 3, 4, 5, 6, 7] rfl)
  · skip
    refine lv_aload_n hx hb dL_law_289 rfl (lv_at hl 4 rfl) ?_
    refine r_iconst hx hb dL_law_290 ?_
    refine r_lald hx hb G dL_law_291 ?_
    refine r_topL (b := Int64.ofInt (wr r)) (by rw [st.2.2.1 hz0]) ?_
    refine lv_iload hx hb dL_law_292 (lv_at hl 0 rfl) ?_
    refine lv_i2l hx hb dL_law_294 rfl ?_
    refine r_leq (tgt := 301) hx hb rfl dL_law_295 dL_law_296 (by decide) ?_
    refine lv_goto (tgt := 1840) hx hb dL_law_301 (by decide) ?_
    exact kk _ _ _ _ G st.2.2.2 (lv_sub hl [2, 3, 4, 5, 6, 7] rfl)
set_option maxRecDepth 100000 in
set_option maxHeartbeats 4000000 in
theorem lc_2 {p : Program} {e : Env} {s : State} {m : MethodId} {below : List Frame} {meth : Method} {c : Code} {H : Heap} {locs : List Loc} {ls : Array Slot} {D : va_G} {T : Nat → ClassId} {σ : Mem} {b L j k0 n0 : Nat} {xs : Nat → Int32} {Q : State → Prop} (l : Launch) (hst0 : l.stackTraces = false) (hF : Lf p s m meth c b L xs) (hv : Xv s) (G : Wd D T s.heap.size 139 σ s H locs) (hR : RG σ σ) (hj : 4 * j + 4 ≤ L) (hc : k0 + 2 ≤ 601024 ∧ n0 + 12 ≤ 7293034) {a1 : Int} (h1 : sx xs (4 * (j : Int) + 1) = a1) {a2 : Int} (h2 : sx xs (4 * (j : Int) + 2) = a2) (hl : lv_has ls 10 [(5, .int (kI (4 * (j : Int)))), (4, .ref (s.heap.size + 138)), (3, .ref (s.heap.size + 137)), (2, .ref (s.heap.size + 133)), (1, .ref (s.heap.size + 0)), (0, .ref b)]) (kk : ∀ (σ1 : Mem) (H1 : Heap) (locs1 : List Loc) (ls1 : Array Slot), Wd D T s.heap.size 139 σ1 s H1 locs1 → RG σ1 σ1 → lv_has ls1 10 [(5, .int (kI (4 * (j : Int)))), (4, .ref (s.heap.size + 138)), (3, .ref (s.heap.size + 137)), (2, .ref (s.heap.size + 133)), (1, .ref (s.heap.size + 0)), (0, .ref b)] → W p l e room_1 s m #[Value.ref b] below meth c H1 locs1 (k0 + 2) (n0 + 12) Q (F0 m 1840 ls1 [])) : W p l e room_1 s m #[Value.ref b] below meth c H locs k0 n0 Q (F0 m 304 ls []) := by
  obtain ⟨hx, hb, hml, hown, hts, hXs, hbl, hL⟩ := hF
  have hcf : k0 + 2 ≤ room_1.cells ∧ n0 + 12 ≤ room_1.slots := hc
  have hcf0 : k0 ≤ room_1.cells ∧ n0 ≤ room_1.slots := ⟨by show k0 ≤ 601024; omega, by show n0 ≤ 7293034; omega⟩
  have rg1 : inR a1 := by rw [← h1]; exact sx_rg
  have rg2 : inR a2 := by rw [← h2]; exact sx_rg
  refine lv_aload_n hx hb dL_law_304 rfl (lv_at hl 4 rfl) ?_
  refine lv_aload_n hx hb dL_law_305 rfl (lv_at hl 5 rfl) ?_
  refine lv_iload hx hb dL_law_306 (lv_at hl 0 rfl) ?_
  refine r_iconst hx hb dL_law_308 ?_
  refine r_iadd hx hb dL_law_309 ?_
  refine r_sld hx hb G hXs hbl hL ⟨by omega, by omega⟩ h1 dL_law_310 ?_
  refine lv_aload_n hx hb dL_law_311 rfl (lv_at hl 5 rfl) ?_
  refine lv_iload hx hb dL_law_312 (lv_at hl 0 rfl) ?_
  refine r_iconst hx hb dL_law_314 ?_
  refine r_iadd hx hb dL_law_315 ?_
  refine r_sld hx hb G hXs hbl hL ⟨by omega, by omega⟩ h2 dL_law_316 ?_
  refine lv_aload_n hx hb dL_law_317 rfl (lv_at hl 2 rfl) ?_
  refine r_callW (na := 4) (own := RL) ⟨hx, hb, hml, hown, hts⟩ G hv (k_L_delete l hst0 (σ := σ) (k := a1) (y := a2) (rg1) (rg2) ((hR.xc.1)) ((hR.xc.2)) (hR.1.is)) qC_L_delete qM_L_112 qS_L_delete qN_L (by decide +kernel) ⟨Nat.le_of_ble_eq_true rfl, Nat.le_of_ble_eq_true rfl⟩ rfl rfl hl.1 rfl (Nat.le_of_ble_eq_true rfl) dL_law_318 hcf (fun H locs G => ?_)
  obtain ⟨κ, hκ⟩ : ∃ κ, κ = thr (isY a1 a2) (σ 4 (a1 * 16 + a2) = 1) := ⟨_, rfl⟩
  rw [← hκ]
  obtain ⟨τ, hτ⟩ : ∃ τ, τ = aft (isY a1 a2) (σ 4 (a1 * 16 + a2) = 1) (dlr (pus σ) a1 a2) (bz ((pus σ) 14 1 ≤ (pus σ) 5 (a1 * 16 + a2))) σ := ⟨_, rfl⟩
  rw [← hτ] at G
  have x := hR.xc
  have hb2 : RG σ τ := by rw [hτ]; exact aft_rg hR (fun hq c a => by rw [dlr_o (by omega), pus_o x.1 x.2 (Or.inr (by omega))])
  refine lv_istore (lv' := [(6, .int (kI κ)), (5, .int (kI (4 * (j : Int)))), (4, .ref (s.heap.size + 138)), (3, .ref (s.heap.size + 137)), (2, .ref (s.heap.size + 133)), (1, .ref (s.heap.size + 0)), (0, .ref b)]) hx hb dL_law_321 hl (by decide) rfl (fun ls hl => ?_)
  refine lv_aload_n hx hb dL_law_323 rfl (lv_at hl 4 rfl) ?_
  refine lv_aload_n hx hb dL_law_324 rfl (lv_at hl 6 rfl) ?_
  refine lv_iload hx hb dL_law_325 (lv_at hl 1 rfl) ?_
  refine r_iconst hx hb dL_law_327 ?_
  refine r_iadd hx hb dL_law_328 ?_
  refine r_sld hx hb G hXs hbl hL ⟨by omega, by omega⟩ h1 dL_law_329 ?_
  refine lv_aload_n hx hb dL_law_330 rfl (lv_at hl 6 rfl) ?_
  refine lv_iload hx hb dL_law_331 (lv_at hl 1 rfl) ?_
  refine r_iconst hx hb dL_law_333 ?_
  refine r_iadd hx hb dL_law_334 ?_
  refine r_sld hx hb G hXs hbl hL ⟨by omega, by omega⟩ h2 dL_law_335 ?_
  obtain ⟨r, ν, hM, st⟩ : ∃ r ν, CtI l yX6_delete (Cond.code yX6_delete cX6_delete 4 (some .int)) 3 63 (fun z => [.ref (z + 133), .int (kI a1), .int (kI a2)]) τ r ν ∧ ST κ r ν := ⟨_, _, k_X6_delete l (σ := τ) (k := a1) (y := a2) (rg1) (rg2) (hb2.2.1.2.1) (hb2.1.g), by rw [hκ]; exact st_delete hR hτ⟩
  refine r_callVI ⟨hx, hb, hml, hown, hts⟩ G hM (kV_X6_delete hts qM_L_114 ⟨Nat.le_of_ble_eq_true rfl, Nat.le_of_ble_eq_true rfl⟩) (rc_X6 G) rfl rfl hl.1 rfl (Nat.le_of_ble_eq_true rfl) dL_law_336 hcf (fun H locs G => ?_)
  refine lv_istore (lv' := [(7, .int (kI r)), (6, .int (kI κ)), (5, .int (kI (4 * (j : Int)))), (4, .ref (s.heap.size + 138)), (3, .ref (s.heap.size + 137)), (2, .ref (s.heap.size + 133)), (1, .ref (s.heap.size + 0)), (0, .ref b)]) hx hb dL_law_339 hl (by decide) rfl (fun ls hl => ?_)
  refine lv_aload_n hx hb dL_law_341 rfl (lv_at hl 5 rfl) ?_
  refine r_callVI ⟨hx, hb, hml, hown, hts⟩ G (k_X6_thrown l (σ := ν)) (kV_X6_thrown hts qM_L_105 ⟨Nat.le_of_ble_eq_true rfl, Nat.le_of_ble_eq_true rfl⟩) (rc_X6 G) rfl rfl hl.1 rfl (Nat.le_of_ble_eq_true rfl) dL_law_342 hcf (fun H locs G => ?_)
  refine r_top (b := κ) st.1 ?_
  refine lv_iload hx hb dL_law_345 (lv_at hl 1 rfl) ?_
  refine r_ieq (tgt := 352) hx hb rfl dL_law_347 (by decide) ?_
  refine lv_iload hx hb dL_law_352 (lv_at hl 1 rfl) ?_
  have hkr := st.2.1
  refine r_if_ne (tgt := 369) hx hb ⟨by omega, by omega⟩ dL_law_354 (by decide) (fun _ => ?_) (fun hz0 => ?_)
  · skip
    refine lv_goto (tgt := 1840) hx hb dL_law_369 (by decide) ?_
    exact kk _ _ _ _ G st.2.2.2 (lv_sub hl [2, 3, 4, 5, 6, 7] rfl)
  · skip
    refine lv_aload_n hx hb dL_law_357 rfl (lv_at hl 4 rfl) ?_
    refine r_iconst hx hb dL_law_358 ?_
    refine r_lald hx hb G dL_law_359 ?_
    refine r_topL (b := Int64.ofInt (wr r)) (by rw [st.2.2.1 hz0]) ?_
    refine lv_iload hx hb dL_law_360 (lv_at hl 0 rfl) ?_
    refine lv_i2l hx hb dL_law_362 rfl ?_
    refine r_leq (tgt := 369) hx hb rfl dL_law_363 dL_law_364 (by decide) ?_
    refine lv_goto (tgt := 1840) hx hb dL_law_369 (by decide) ?_
    exact kk _ _ _ _ G st.2.2.2 (lv_sub hl [2, 3, 4, 5, 6, 7] rfl)
set_option maxRecDepth 100000 in
set_option maxHeartbeats 4000000 in
theorem lc_3 {p : Program} {e : Env} {s : State} {m : MethodId} {below : List Frame} {meth : Method} {c : Code} {H : Heap} {locs : List Loc} {ls : Array Slot} {D : va_G} {T : Nat → ClassId} {σ : Mem} {b L j k0 n0 : Nat} {xs : Nat → Int32} {Q : State → Prop} (l : Launch) (hst0 : l.stackTraces = false) (hF : Lf p s m meth c b L xs) (hv : Xv s) (G : Wd D T s.heap.size 139 σ s H locs) (hR : RG σ σ) (hj : 4 * j + 4 ≤ L) (hc : k0 + 2 ≤ 601024 ∧ n0 + 12 ≤ 7293034) {a1 : Int} (h1 : sx xs (4 * (j : Int) + 1) = a1) {a2 : Int} (h2 : sx xs (4 * (j : Int) + 2) = a2) (hl : lv_has ls 10 [(5, .int (kI (4 * (j : Int)))), (4, .ref (s.heap.size + 138)), (3, .ref (s.heap.size + 137)), (2, .ref (s.heap.size + 133)), (1, .ref (s.heap.size + 0)), (0, .ref b)]) (kk : ∀ (σ1 : Mem) (H1 : Heap) (locs1 : List Loc) (ls1 : Array Slot), Wd D T s.heap.size 139 σ1 s H1 locs1 → RG σ1 σ1 → lv_has ls1 10 [(5, .int (kI (4 * (j : Int)))), (4, .ref (s.heap.size + 138)), (3, .ref (s.heap.size + 137)), (2, .ref (s.heap.size + 133)), (1, .ref (s.heap.size + 0)), (0, .ref b)] → W p l e room_1 s m #[Value.ref b] below meth c H1 locs1 (k0 + 2) (n0 + 12) Q (F0 m 1840 ls1 [])) : W p l e room_1 s m #[Value.ref b] below meth c H locs k0 n0 Q (F0 m 372 ls []) := by
  obtain ⟨hx, hb, hml, hown, hts, hXs, hbl, hL⟩ := hF
  have hcf : k0 + 2 ≤ room_1.cells ∧ n0 + 12 ≤ room_1.slots := hc
  have hcf0 : k0 ≤ room_1.cells ∧ n0 ≤ room_1.slots := ⟨by show k0 ≤ 601024; omega, by show n0 ≤ 7293034; omega⟩
  have rg1 : inR a1 := by rw [← h1]; exact sx_rg
  have rg2 : inR a2 := by rw [← h2]; exact sx_rg
  refine lv_aload_n hx hb dL_law_372 rfl (lv_at hl 4 rfl) ?_
  refine lv_aload_n hx hb dL_law_373 rfl (lv_at hl 5 rfl) ?_
  refine lv_iload hx hb dL_law_374 (lv_at hl 0 rfl) ?_
  refine r_iconst hx hb dL_law_376 ?_
  refine r_iadd hx hb dL_law_377 ?_
  refine r_sld hx hb G hXs hbl hL ⟨by omega, by omega⟩ h1 dL_law_378 ?_
  refine lv_aload_n hx hb dL_law_379 rfl (lv_at hl 5 rfl) ?_
  refine lv_iload hx hb dL_law_380 (lv_at hl 0 rfl) ?_
  refine r_iconst hx hb dL_law_382 ?_
  refine r_iadd hx hb dL_law_383 ?_
  refine r_sld hx hb G hXs hbl hL ⟨by omega, by omega⟩ h2 dL_law_384 ?_
  refine lv_aload_n hx hb dL_law_385 rfl (lv_at hl 2 rfl) ?_
  refine r_callW (na := 4) (own := RL) ⟨hx, hb, hml, hown, hts⟩ G hv (k_L_bringBack l hst0 (σ := σ) (k := a1) (y := a2) (rg1) (rg2) ((hR.xc.1)) ((hR.xc.2)) (hR.1.is)) qC_L_bringBack qM_L_115 qS_L_bringBack qN_L (by decide +kernel) ⟨Nat.le_of_ble_eq_true rfl, Nat.le_of_ble_eq_true rfl⟩ rfl rfl hl.1 rfl (Nat.le_of_ble_eq_true rfl) dL_law_386 hcf (fun H locs G => ?_)
  obtain ⟨κ, hκ⟩ : ∃ κ, κ = thr (isY a1 a2) (cbb σ a1 a2) := ⟨_, rfl⟩
  rw [← hκ]
  obtain ⟨τ, hτ⟩ : ∃ τ, τ = aft (isY a1 a2) (cbb σ a1 a2) (brb (pus σ) a1 a2) ((pus σ) 5 (a1 * 16 + a2)) σ := ⟨_, rfl⟩
  rw [← hτ] at G
  have x := hR.xc
  have hb2 : RG σ τ := by rw [hτ]; exact aft_rg hR (fun hq c a => by rw [brb_o (by omega), pus_o x.1 x.2 (Or.inr (by omega))])
  refine lv_istore (lv' := [(6, .int (kI κ)), (5, .int (kI (4 * (j : Int)))), (4, .ref (s.heap.size + 138)), (3, .ref (s.heap.size + 137)), (2, .ref (s.heap.size + 133)), (1, .ref (s.heap.size + 0)), (0, .ref b)]) hx hb dL_law_389 hl (by decide) rfl (fun ls hl => ?_)
  refine lv_aload_n hx hb dL_law_391 rfl (lv_at hl 4 rfl) ?_
  refine lv_aload_n hx hb dL_law_392 rfl (lv_at hl 6 rfl) ?_
  refine lv_iload hx hb dL_law_393 (lv_at hl 1 rfl) ?_
  refine r_iconst hx hb dL_law_395 ?_
  refine r_iadd hx hb dL_law_396 ?_
  refine r_sld hx hb G hXs hbl hL ⟨by omega, by omega⟩ h1 dL_law_397 ?_
  refine lv_aload_n hx hb dL_law_398 rfl (lv_at hl 6 rfl) ?_
  refine lv_iload hx hb dL_law_399 (lv_at hl 1 rfl) ?_
  refine r_iconst hx hb dL_law_401 ?_
  refine r_iadd hx hb dL_law_402 ?_
  refine r_sld hx hb G hXs hbl hL ⟨by omega, by omega⟩ h2 dL_law_403 ?_
  obtain ⟨r, ν, hM, st⟩ : ∃ r ν, CtI l yX6_bringBack (Cond.code yX6_bringBack cX6_bringBack 4 (some .int)) 4 96 (fun z => [.ref (z + 133), .int (kI a1), .int (kI a2)]) τ r ν ∧ ST κ r ν := ⟨_, _, k_X6_bringBack l (σ := τ) (k := a1) (y := a2) (rg1) (rg2) (hb2.2.1.2.1) (hb2.1.g), by rw [hκ]; exact st_bringBack hR hτ⟩
  refine r_callVI ⟨hx, hb, hml, hown, hts⟩ G hM (kV_X6_bringBack hts qM_L_117 ⟨Nat.le_of_ble_eq_true rfl, Nat.le_of_ble_eq_true rfl⟩) (rc_X6 G) rfl rfl hl.1 rfl (Nat.le_of_ble_eq_true rfl) dL_law_404 hcf (fun H locs G => ?_)
  refine lv_istore (lv' := [(7, .int (kI r)), (6, .int (kI κ)), (5, .int (kI (4 * (j : Int)))), (4, .ref (s.heap.size + 138)), (3, .ref (s.heap.size + 137)), (2, .ref (s.heap.size + 133)), (1, .ref (s.heap.size + 0)), (0, .ref b)]) hx hb dL_law_407 hl (by decide) rfl (fun ls hl => ?_)
  refine lv_aload_n hx hb dL_law_409 rfl (lv_at hl 5 rfl) ?_
  refine r_callVI ⟨hx, hb, hml, hown, hts⟩ G (k_X6_thrown l (σ := ν)) (kV_X6_thrown hts qM_L_105 ⟨Nat.le_of_ble_eq_true rfl, Nat.le_of_ble_eq_true rfl⟩) (rc_X6 G) rfl rfl hl.1 rfl (Nat.le_of_ble_eq_true rfl) dL_law_410 hcf (fun H locs G => ?_)
  refine r_top (b := κ) st.1 ?_
  refine lv_iload hx hb dL_law_413 (lv_at hl 1 rfl) ?_
  refine r_ieq (tgt := 420) hx hb rfl dL_law_415 (by decide) ?_
  refine lv_iload hx hb dL_law_420 (lv_at hl 1 rfl) ?_
  have hkr := st.2.1
  refine r_if_ne (tgt := 437) hx hb ⟨by omega, by omega⟩ dL_law_422 (by decide) (fun _ => ?_) (fun hz0 => ?_)
  · skip
    refine lv_goto (tgt := 1840) hx hb dL_law_437 (by decide) ?_
    exact kk _ _ _ _ G st.2.2.2 (lv_sub hl [2, 3, 4, 5, 6, 7] rfl)
  · skip
    refine lv_aload_n hx hb dL_law_425 rfl (lv_at hl 4 rfl) ?_
    refine r_iconst hx hb dL_law_426 ?_
    refine r_lald hx hb G dL_law_427 ?_
    refine r_topL (b := Int64.ofInt (wr r)) (by rw [st.2.2.1 hz0]) ?_
    refine lv_iload hx hb dL_law_428 (lv_at hl 0 rfl) ?_
    refine lv_i2l hx hb dL_law_430 rfl ?_
    refine r_leq (tgt := 437) hx hb rfl dL_law_431 dL_law_432 (by decide) ?_
    refine lv_goto (tgt := 1840) hx hb dL_law_437 (by decide) ?_
    exact kk _ _ _ _ G st.2.2.2 (lv_sub hl [2, 3, 4, 5, 6, 7] rfl)
set_option maxRecDepth 100000 in
set_option maxHeartbeats 4000000 in
theorem lc_4 {p : Program} {e : Env} {s : State} {m : MethodId} {below : List Frame} {meth : Method} {c : Code} {H : Heap} {locs : List Loc} {ls : Array Slot} {D : va_G} {T : Nat → ClassId} {σ : Mem} {b L j k0 n0 : Nat} {xs : Nat → Int32} {Q : State → Prop} (l : Launch) (hst0 : l.stackTraces = false) (hF : Lf p s m meth c b L xs) (hv : Xv s) (G : Wd D T s.heap.size 139 σ s H locs) (hR : RG σ σ) (hj : 4 * j + 4 ≤ L) (hc : k0 + 2 ≤ 601024 ∧ n0 + 12 ≤ 7293034) {a1 : Int} (h1 : sx xs (4 * (j : Int) + 1) = a1) (hl : lv_has ls 10 [(5, .int (kI (4 * (j : Int)))), (4, .ref (s.heap.size + 138)), (3, .ref (s.heap.size + 137)), (2, .ref (s.heap.size + 133)), (1, .ref (s.heap.size + 0)), (0, .ref b)]) (kk : ∀ (σ1 : Mem) (H1 : Heap) (locs1 : List Loc) (ls1 : Array Slot), Wd D T s.heap.size 139 σ1 s H1 locs1 → RG σ1 σ1 → lv_has ls1 10 [(5, .int (kI (4 * (j : Int)))), (4, .ref (s.heap.size + 138)), (3, .ref (s.heap.size + 137)), (2, .ref (s.heap.size + 133)), (1, .ref (s.heap.size + 0)), (0, .ref b)] → W p l e room_1 s m #[Value.ref b] below meth c H1 locs1 (k0 + 2) (n0 + 12) Q (F0 m 1840 ls1 [])) : W p l e room_1 s m #[Value.ref b] below meth c H locs k0 n0 Q (F0 m 440 ls []) := by
  obtain ⟨hx, hb, hml, hown, hts, hXs, hbl, hL⟩ := hF
  have hcf : k0 + 2 ≤ room_1.cells ∧ n0 + 12 ≤ room_1.slots := hc
  have hcf0 : k0 ≤ room_1.cells ∧ n0 ≤ room_1.slots := ⟨by show k0 ≤ 601024; omega, by show n0 ≤ 7293034; omega⟩
  have rg1 : inR a1 := by rw [← h1]; exact sx_rg
  refine lv_aload_n hx hb dL_law_440 rfl (lv_at hl 4 rfl) ?_
  refine lv_aload_n hx hb dL_law_441 rfl (lv_at hl 5 rfl) ?_
  refine lv_iload hx hb dL_law_442 (lv_at hl 0 rfl) ?_
  refine r_iconst hx hb dL_law_444 ?_
  refine r_iadd hx hb dL_law_445 ?_
  refine r_sld hx hb G hXs hbl hL ⟨by omega, by omega⟩ h1 dL_law_446 ?_
  refine lv_aload_n hx hb dL_law_447 rfl (lv_at hl 2 rfl) ?_
  refine r_callW (na := 3) (own := RL) ⟨hx, hb, hml, hown, hts⟩ G hv (k_L_turn l hst0 (σ := σ) (k := a1) (rg1) ((hR.xc.1)) ((hR.xc.2)) (hR.1.is)) qC_L_turn qM_L_118 qS_L_turn qN_L (by decide +kernel) ⟨Nat.le_of_ble_eq_true rfl, Nat.le_of_ble_eq_true rfl⟩ rfl rfl hl.1 rfl (Nat.le_of_ble_eq_true rfl) dL_law_448 hcf (fun H locs G => ?_)
  obtain ⟨κ, hκ⟩ : ∃ κ, κ = thr (isK a1) (True) := ⟨_, rfl⟩
  rw [← hκ]
  obtain ⟨τ, hτ⟩ : ∃ τ, τ = aft (isK a1) (True) (tup (pus σ) a1) (kat (tup (pus σ) a1) a1 0) σ := ⟨_, rfl⟩
  rw [← hτ] at G
  have x := hR.xc
  have hb2 : RG σ τ := by rw [hτ]; exact aft_rg hR (fun hq c a => by rw [tup_o (by omega), pus_o x.1 x.2 (Or.inr (by omega))])
  refine lv_istore (lv' := [(6, .int (kI κ)), (5, .int (kI (4 * (j : Int)))), (4, .ref (s.heap.size + 138)), (3, .ref (s.heap.size + 137)), (2, .ref (s.heap.size + 133)), (1, .ref (s.heap.size + 0)), (0, .ref b)]) hx hb dL_law_451 hl (by decide) rfl (fun ls hl => ?_)
  refine lv_aload_n hx hb dL_law_453 rfl (lv_at hl 4 rfl) ?_
  refine lv_aload_n hx hb dL_law_454 rfl (lv_at hl 6 rfl) ?_
  refine lv_iload hx hb dL_law_455 (lv_at hl 1 rfl) ?_
  refine r_iconst hx hb dL_law_457 ?_
  refine r_iadd hx hb dL_law_458 ?_
  refine r_sld hx hb G hXs hbl hL ⟨by omega, by omega⟩ h1 dL_law_459 ?_
  obtain ⟨r, ν, hM, st⟩ : ∃ r ν, CtI l yX6_turn (Cond.code yX6_turn cX6_turn 2 (some .int)) 2 49 (fun z => [.ref (z + 133), .int (kI a1)]) τ r ν ∧ ST κ r ν := ⟨_, _, k_X6_turn l (σ := τ) (k := a1) (rg1) (hb2.2.1.2.1) (hb2.1.g), by rw [hκ]; exact st_turn hR hτ⟩
  refine r_callVI ⟨hx, hb, hml, hown, hts⟩ G hM (kV_X6_turn hts qM_L_120 ⟨Nat.le_of_ble_eq_true rfl, Nat.le_of_ble_eq_true rfl⟩) (rc_X6 G) rfl rfl hl.1 rfl (Nat.le_of_ble_eq_true rfl) dL_law_460 hcf (fun H locs G => ?_)
  refine lv_istore (lv' := [(7, .int (kI r)), (6, .int (kI κ)), (5, .int (kI (4 * (j : Int)))), (4, .ref (s.heap.size + 138)), (3, .ref (s.heap.size + 137)), (2, .ref (s.heap.size + 133)), (1, .ref (s.heap.size + 0)), (0, .ref b)]) hx hb dL_law_463 hl (by decide) rfl (fun ls hl => ?_)
  refine lv_aload_n hx hb dL_law_465 rfl (lv_at hl 5 rfl) ?_
  refine r_callVI ⟨hx, hb, hml, hown, hts⟩ G (k_X6_thrown l (σ := ν)) (kV_X6_thrown hts qM_L_105 ⟨Nat.le_of_ble_eq_true rfl, Nat.le_of_ble_eq_true rfl⟩) (rc_X6 G) rfl rfl hl.1 rfl (Nat.le_of_ble_eq_true rfl) dL_law_466 hcf (fun H locs G => ?_)
  refine r_top (b := κ) st.1 ?_
  refine lv_iload hx hb dL_law_469 (lv_at hl 1 rfl) ?_
  refine r_ieq (tgt := 476) hx hb rfl dL_law_471 (by decide) ?_
  refine lv_iload hx hb dL_law_476 (lv_at hl 1 rfl) ?_
  have hkr := st.2.1
  refine r_if_ne (tgt := 493) hx hb ⟨by omega, by omega⟩ dL_law_478 (by decide) (fun _ => ?_) (fun hz0 => ?_)
  · skip
    refine lv_goto (tgt := 1840) hx hb dL_law_493 (by decide) ?_
    exact kk _ _ _ _ G st.2.2.2 (lv_sub hl [2, 3, 4, 5, 6, 7] rfl)
  · skip
    refine lv_aload_n hx hb dL_law_481 rfl (lv_at hl 4 rfl) ?_
    refine r_iconst hx hb dL_law_482 ?_
    refine r_lald hx hb G dL_law_483 ?_
    refine r_topL (b := Int64.ofInt (wr r)) (by rw [st.2.2.1 hz0]) ?_
    refine lv_iload hx hb dL_law_484 (lv_at hl 0 rfl) ?_
    refine lv_i2l hx hb dL_law_486 rfl ?_
    refine r_leq (tgt := 493) hx hb rfl dL_law_487 dL_law_488 (by decide) ?_
    refine lv_goto (tgt := 1840) hx hb dL_law_493 (by decide) ?_
    exact kk _ _ _ _ G st.2.2.2 (lv_sub hl [2, 3, 4, 5, 6, 7] rfl)
set_option maxRecDepth 100000 in
set_option maxHeartbeats 4000000 in
theorem lc_5 {p : Program} {e : Env} {s : State} {m : MethodId} {below : List Frame} {meth : Method} {c : Code} {H : Heap} {locs : List Loc} {ls : Array Slot} {D : va_G} {T : Nat → ClassId} {σ : Mem} {b L j k0 n0 : Nat} {xs : Nat → Int32} {Q : State → Prop} (l : Launch) (hst0 : l.stackTraces = false) (hF : Lf p s m meth c b L xs) (hv : Xv s) (G : Wd D T s.heap.size 139 σ s H locs) (hR : RG σ σ) (hj : 4 * j + 4 ≤ L) (hc : k0 + 2 ≤ 601024 ∧ n0 + 12 ≤ 7293034) {a1 : Int} (h1 : sx xs (4 * (j : Int) + 1) = a1) {a2 : Int} (h2 : sx xs (4 * (j : Int) + 2) = a2) {a3 : Int} (h3 : sx xs (4 * (j : Int) + 3) = a3) (hl : lv_has ls 10 [(5, .int (kI (4 * (j : Int)))), (4, .ref (s.heap.size + 138)), (3, .ref (s.heap.size + 137)), (2, .ref (s.heap.size + 133)), (1, .ref (s.heap.size + 0)), (0, .ref b)]) (kk : ∀ (σ1 : Mem) (H1 : Heap) (locs1 : List Loc) (ls1 : Array Slot), Wd D T s.heap.size 139 σ1 s H1 locs1 → RG σ1 σ1 → lv_has ls1 10 [(5, .int (kI (4 * (j : Int)))), (4, .ref (s.heap.size + 138)), (3, .ref (s.heap.size + 137)), (2, .ref (s.heap.size + 133)), (1, .ref (s.heap.size + 0)), (0, .ref b)] → W p l e room_1 s m #[Value.ref b] below meth c H1 locs1 (k0 + 2) (n0 + 12) Q (F0 m 1840 ls1 [])) : W p l e room_1 s m #[Value.ref b] below meth c H locs k0 n0 Q (F0 m 496 ls []) := by
  obtain ⟨hx, hb, hml, hown, hts, hXs, hbl, hL⟩ := hF
  have hcf : k0 + 2 ≤ room_1.cells ∧ n0 + 12 ≤ room_1.slots := hc
  have hcf0 : k0 ≤ room_1.cells ∧ n0 ≤ room_1.slots := ⟨by show k0 ≤ 601024; omega, by show n0 ≤ 7293034; omega⟩
  have rg1 : inR a1 := by rw [← h1]; exact sx_rg
  have rg2 : inR a2 := by rw [← h2]; exact sx_rg
  have rg3 : inR a3 := by rw [← h3]; exact sx_rg
  refine lv_aload_n hx hb dL_law_496 rfl (lv_at hl 4 rfl) ?_
  refine lv_aload_n hx hb dL_law_497 rfl (lv_at hl 5 rfl) ?_
  refine lv_iload hx hb dL_law_498 (lv_at hl 0 rfl) ?_
  refine r_iconst hx hb dL_law_500 ?_
  refine r_iadd hx hb dL_law_501 ?_
  refine r_sld hx hb G hXs hbl hL ⟨by omega, by omega⟩ h1 dL_law_502 ?_
  refine lv_aload_n hx hb dL_law_503 rfl (lv_at hl 5 rfl) ?_
  refine lv_iload hx hb dL_law_504 (lv_at hl 0 rfl) ?_
  refine r_iconst hx hb dL_law_506 ?_
  refine r_iadd hx hb dL_law_507 ?_
  refine r_sld hx hb G hXs hbl hL ⟨by omega, by omega⟩ h2 dL_law_508 ?_
  refine lv_aload_n hx hb dL_law_509 rfl (lv_at hl 5 rfl) ?_
  refine lv_iload hx hb dL_law_510 (lv_at hl 0 rfl) ?_
  refine r_iconst hx hb dL_law_512 ?_
  refine r_iadd hx hb dL_law_513 ?_
  refine r_sld hx hb G hXs hbl hL ⟨by omega, by omega⟩ h3 dL_law_514 ?_
  refine lv_aload_n hx hb dL_law_515 rfl (lv_at hl 2 rfl) ?_
  refine r_callW (na := 5) (own := RL) ⟨hx, hb, hml, hown, hts⟩ G hv (k_L_follow l hst0 (σ := σ) (k := a1) (y := a2) (q := a3) (rg1) (rg2) (rg3) ((hR.xc.1)) ((hR.xc.2)) (hR.1.is)) qC_L_follow qM_L_121 qS_L_follow qN_L (by decide +kernel) ⟨Nat.le_of_ble_eq_true rfl, Nat.le_of_ble_eq_true rfl⟩ rfl rfl hl.1 rfl (Nat.le_of_ble_eq_true rfl) dL_law_516 hcf (fun H locs G => ?_)
  obtain ⟨κ, hκ⟩ : ∃ κ, κ = thr (isY a1 a2) (1 ≤ a3) := ⟨_, rfl⟩
  rw [← hκ]
  obtain ⟨τ, hτ⟩ : ∃ τ, τ = aft (isY a1 a2) (1 ≤ a3) (nfo (pus σ) (jud (pus σ) a1 a2 a3)) (jud (pus σ) a1 a2 a3) σ := ⟨_, rfl⟩
  rw [← hτ] at G
  have x := hR.xc
  have hb2 : RG σ τ := by rw [hτ]; exact aft_rg hR (fun hq c a => by rw [nfo_o (by omega), pus_o x.1 x.2 (Or.inr (by omega))])
  refine lv_istore (lv' := [(6, .int (kI κ)), (5, .int (kI (4 * (j : Int)))), (4, .ref (s.heap.size + 138)), (3, .ref (s.heap.size + 137)), (2, .ref (s.heap.size + 133)), (1, .ref (s.heap.size + 0)), (0, .ref b)]) hx hb dL_law_519 hl (by decide) rfl (fun ls hl => ?_)
  refine lv_aload_n hx hb dL_law_521 rfl (lv_at hl 4 rfl) ?_
  refine lv_aload_n hx hb dL_law_522 rfl (lv_at hl 6 rfl) ?_
  refine lv_iload hx hb dL_law_523 (lv_at hl 1 rfl) ?_
  refine r_iconst hx hb dL_law_525 ?_
  refine r_iadd hx hb dL_law_526 ?_
  refine r_sld hx hb G hXs hbl hL ⟨by omega, by omega⟩ h1 dL_law_527 ?_
  refine lv_aload_n hx hb dL_law_528 rfl (lv_at hl 6 rfl) ?_
  refine lv_iload hx hb dL_law_529 (lv_at hl 1 rfl) ?_
  refine r_iconst hx hb dL_law_531 ?_
  refine r_iadd hx hb dL_law_532 ?_
  refine r_sld hx hb G hXs hbl hL ⟨by omega, by omega⟩ h2 dL_law_533 ?_
  refine lv_aload_n hx hb dL_law_534 rfl (lv_at hl 6 rfl) ?_
  refine lv_iload hx hb dL_law_535 (lv_at hl 1 rfl) ?_
  refine r_iconst hx hb dL_law_537 ?_
  refine r_iadd hx hb dL_law_538 ?_
  refine r_sld hx hb G hXs hbl hL ⟨by omega, by omega⟩ h3 dL_law_539 ?_
  obtain ⟨r, ν, hM, st⟩ : ∃ r ν, CtI l yX6_follow (Cond.code yX6_follow cX6_follow 5 (some .int)) 3 68 (fun z => [.ref (z + 133), .int (kI a1), .int (kI a2), .int (kI a3)]) τ r ν ∧ ST κ r ν := ⟨_, _, k_X6_follow l (σ := τ) (k := a1) (y := a2) (q := a3) (rg1) (rg2) (rg3) (hb2.2.1.2.1) (hb2.1.g), by rw [hκ]; exact st_follow hR hτ⟩
  refine r_callVI ⟨hx, hb, hml, hown, hts⟩ G hM (kV_X6_follow hts qM_L_124 ⟨Nat.le_of_ble_eq_true rfl, Nat.le_of_ble_eq_true rfl⟩) (rc_X6 G) rfl rfl hl.1 rfl (Nat.le_of_ble_eq_true rfl) dL_law_540 hcf (fun H locs G => ?_)
  refine lv_istore (lv' := [(7, .int (kI r)), (6, .int (kI κ)), (5, .int (kI (4 * (j : Int)))), (4, .ref (s.heap.size + 138)), (3, .ref (s.heap.size + 137)), (2, .ref (s.heap.size + 133)), (1, .ref (s.heap.size + 0)), (0, .ref b)]) hx hb dL_law_543 hl (by decide) rfl (fun ls hl => ?_)
  refine lv_aload_n hx hb dL_law_545 rfl (lv_at hl 5 rfl) ?_
  refine r_callVI ⟨hx, hb, hml, hown, hts⟩ G (k_X6_thrown l (σ := ν)) (kV_X6_thrown hts qM_L_105 ⟨Nat.le_of_ble_eq_true rfl, Nat.le_of_ble_eq_true rfl⟩) (rc_X6 G) rfl rfl hl.1 rfl (Nat.le_of_ble_eq_true rfl) dL_law_546 hcf (fun H locs G => ?_)
  refine r_top (b := κ) st.1 ?_
  refine lv_iload hx hb dL_law_549 (lv_at hl 1 rfl) ?_
  refine r_ieq (tgt := 556) hx hb rfl dL_law_551 (by decide) ?_
  refine lv_iload hx hb dL_law_556 (lv_at hl 1 rfl) ?_
  have hkr := st.2.1
  refine r_if_ne (tgt := 573) hx hb ⟨by omega, by omega⟩ dL_law_558 (by decide) (fun _ => ?_) (fun hz0 => ?_)
  · skip
    refine lv_goto (tgt := 1840) hx hb dL_law_573 (by decide) ?_
    exact kk _ _ _ _ G st.2.2.2 (lv_sub hl [2, 3, 4, 5, 6, 7] rfl)
  · skip
    refine lv_aload_n hx hb dL_law_561 rfl (lv_at hl 4 rfl) ?_
    refine r_iconst hx hb dL_law_562 ?_
    refine r_lald hx hb G dL_law_563 ?_
    refine r_topL (b := Int64.ofInt (wr r)) (by rw [st.2.2.1 hz0]) ?_
    refine lv_iload hx hb dL_law_564 (lv_at hl 0 rfl) ?_
    refine lv_i2l hx hb dL_law_566 rfl ?_
    refine r_leq (tgt := 573) hx hb rfl dL_law_567 dL_law_568 (by decide) ?_
    refine lv_goto (tgt := 1840) hx hb dL_law_573 (by decide) ?_
    exact kk _ _ _ _ G st.2.2.2 (lv_sub hl [2, 3, 4, 5, 6, 7] rfl)
set_option maxRecDepth 100000 in
set_option maxHeartbeats 4000000 in
theorem lc_6 {p : Program} {e : Env} {s : State} {m : MethodId} {below : List Frame} {meth : Method} {c : Code} {H : Heap} {locs : List Loc} {ls : Array Slot} {D : va_G} {T : Nat → ClassId} {σ : Mem} {b L j k0 n0 : Nat} {xs : Nat → Int32} {Q : State → Prop} (l : Launch) (hst0 : l.stackTraces = false) (hF : Lf p s m meth c b L xs) (hv : Xv s) (G : Wd D T s.heap.size 139 σ s H locs) (hR : RG σ σ) (hj : 4 * j + 4 ≤ L) (hc : k0 + 2 ≤ 601024 ∧ n0 + 12 ≤ 7293034) {a1 : Int} (h1 : sx xs (4 * (j : Int) + 1) = a1) (hl : lv_has ls 10 [(5, .int (kI (4 * (j : Int)))), (4, .ref (s.heap.size + 138)), (3, .ref (s.heap.size + 137)), (2, .ref (s.heap.size + 133)), (1, .ref (s.heap.size + 0)), (0, .ref b)]) (kk : ∀ (σ1 : Mem) (H1 : Heap) (locs1 : List Loc) (ls1 : Array Slot), Wd D T s.heap.size 139 σ1 s H1 locs1 → RG σ1 σ1 → lv_has ls1 10 [(5, .int (kI (4 * (j : Int)))), (4, .ref (s.heap.size + 138)), (3, .ref (s.heap.size + 137)), (2, .ref (s.heap.size + 133)), (1, .ref (s.heap.size + 0)), (0, .ref b)] → W p l e room_1 s m #[Value.ref b] below meth c H1 locs1 (k0 + 2) (n0 + 12) Q (F0 m 1840 ls1 [])) : W p l e room_1 s m #[Value.ref b] below meth c H locs k0 n0 Q (F0 m 576 ls []) := by
  obtain ⟨hx, hb, hml, hown, hts, hXs, hbl, hL⟩ := hF
  have hcf : k0 + 2 ≤ room_1.cells ∧ n0 + 12 ≤ room_1.slots := hc
  have hcf0 : k0 ≤ room_1.cells ∧ n0 ≤ room_1.slots := ⟨by show k0 ≤ 601024; omega, by show n0 ≤ 7293034; omega⟩
  have rg1 : inR a1 := by rw [← h1]; exact sx_rg
  refine lv_aload_n hx hb dL_law_576 rfl (lv_at hl 4 rfl) ?_
  refine lv_aload_n hx hb dL_law_577 rfl (lv_at hl 5 rfl) ?_
  refine lv_iload hx hb dL_law_578 (lv_at hl 0 rfl) ?_
  refine r_iconst hx hb dL_law_580 ?_
  refine r_iadd hx hb dL_law_581 ?_
  refine r_sld hx hb G hXs hbl hL ⟨by omega, by omega⟩ h1 dL_law_582 ?_
  refine lv_aload_n hx hb dL_law_583 rfl (lv_at hl 2 rfl) ?_
  refine r_callW (na := 3) (own := RL) ⟨hx, hb, hml, hown, hts⟩ G hv (k_L_pass l hst0 (σ := σ) (d := a1) (rg1) ((hR.xc.1)) ((hR.xc.2)) (hR.1.is)) qC_L_pass qM_L_125 qS_L_pass qN_L (by decide +kernel) ⟨Nat.le_of_ble_eq_true rfl, Nat.le_of_ble_eq_true rfl⟩ rfl rfl hl.1 rfl (Nat.le_of_ble_eq_true rfl) dL_law_584 hcf (fun H locs G => ?_)
  obtain ⟨κ, hκ⟩ : ∃ κ, κ = thr (1 ≤ a1 ∧ a1 ≤ 99) (a1 ≤ 9999 - σ 2 0) := ⟨_, rfl⟩
  rw [← hκ]
  obtain ⟨τ, hτ⟩ : ∃ τ, τ = aft (1 ≤ a1 ∧ a1 ≤ 99) (a1 ≤ 9999 - σ 2 0) (up (pus σ) 2 0 ((pus σ) 2 0 + a1)) (hra (up (pus σ) 2 0 ((pus σ) 2 0 + a1))) σ := ⟨_, rfl⟩
  rw [← hτ] at G
  have x := hR.xc
  have hb2 : RG σ τ := by rw [hτ]; exact aft_rg hR (fun hq c a => by rw [up_o (by omega), pus_o x.1 x.2 (Or.inr (by omega))])
  refine lv_istore (lv' := [(6, .int (kI κ)), (5, .int (kI (4 * (j : Int)))), (4, .ref (s.heap.size + 138)), (3, .ref (s.heap.size + 137)), (2, .ref (s.heap.size + 133)), (1, .ref (s.heap.size + 0)), (0, .ref b)]) hx hb dL_law_587 hl (by decide) rfl (fun ls hl => ?_)
  refine lv_aload_n hx hb dL_law_589 rfl (lv_at hl 4 rfl) ?_
  refine lv_aload_n hx hb dL_law_590 rfl (lv_at hl 6 rfl) ?_
  refine lv_iload hx hb dL_law_591 (lv_at hl 1 rfl) ?_
  refine r_iconst hx hb dL_law_593 ?_
  refine r_iadd hx hb dL_law_594 ?_
  refine r_sld hx hb G hXs hbl hL ⟨by omega, by omega⟩ h1 dL_law_595 ?_
  obtain ⟨r, ν, hM, st⟩ : ∃ r ν, CtI l yX6_pass (Cond.code yX6_pass cX6_pass 3 (some .int)) 5 114 (fun z => [.ref (z + 133), .int (kI a1)]) τ r ν ∧ ST κ r ν := ⟨_, _, k_X6_pass l (σ := τ) (d := a1) (rg1) (hb2.2.1.2.1) (hb2.1.g), by rw [hκ]; exact st_pass hR hτ⟩
  refine r_callVI ⟨hx, hb, hml, hown, hts⟩ G hM (kV_X6_pass hts qM_L_127 ⟨Nat.le_of_ble_eq_true rfl, Nat.le_of_ble_eq_true rfl⟩) (rc_X6 G) rfl rfl hl.1 rfl (Nat.le_of_ble_eq_true rfl) dL_law_596 hcf (fun H locs G => ?_)
  refine lv_istore (lv' := [(7, .int (kI r)), (6, .int (kI κ)), (5, .int (kI (4 * (j : Int)))), (4, .ref (s.heap.size + 138)), (3, .ref (s.heap.size + 137)), (2, .ref (s.heap.size + 133)), (1, .ref (s.heap.size + 0)), (0, .ref b)]) hx hb dL_law_599 hl (by decide) rfl (fun ls hl => ?_)
  refine lv_aload_n hx hb dL_law_601 rfl (lv_at hl 5 rfl) ?_
  refine r_callVI ⟨hx, hb, hml, hown, hts⟩ G (k_X6_thrown l (σ := ν)) (kV_X6_thrown hts qM_L_105 ⟨Nat.le_of_ble_eq_true rfl, Nat.le_of_ble_eq_true rfl⟩) (rc_X6 G) rfl rfl hl.1 rfl (Nat.le_of_ble_eq_true rfl) dL_law_602 hcf (fun H locs G => ?_)
  refine r_top (b := κ) st.1 ?_
  refine lv_iload hx hb dL_law_605 (lv_at hl 1 rfl) ?_
  refine r_ieq (tgt := 612) hx hb rfl dL_law_607 (by decide) ?_
  refine lv_iload hx hb dL_law_612 (lv_at hl 1 rfl) ?_
  have hkr := st.2.1
  refine r_if_ne (tgt := 629) hx hb ⟨by omega, by omega⟩ dL_law_614 (by decide) (fun _ => ?_) (fun hz0 => ?_)
  · skip
    refine lv_goto (tgt := 1840) hx hb dL_law_629 (by decide) ?_
    exact kk _ _ _ _ G st.2.2.2 (lv_sub hl [2, 3, 4, 5, 6, 7] rfl)
  · skip
    refine lv_aload_n hx hb dL_law_617 rfl (lv_at hl 4 rfl) ?_
    refine r_iconst hx hb dL_law_618 ?_
    refine r_lald hx hb G dL_law_619 ?_
    refine r_topL (b := Int64.ofInt (wr r)) (by rw [st.2.2.1 hz0]) ?_
    refine lv_iload hx hb dL_law_620 (lv_at hl 0 rfl) ?_
    refine lv_i2l hx hb dL_law_622 rfl ?_
    refine r_leq (tgt := 629) hx hb rfl dL_law_623 dL_law_624 (by decide) ?_
    refine lv_goto (tgt := 1840) hx hb dL_law_629 (by decide) ?_
    exact kk _ _ _ _ G st.2.2.2 (lv_sub hl [2, 3, 4, 5, 6, 7] rfl)
set_option maxRecDepth 100000 in
set_option maxHeartbeats 4000000 in
theorem lc_7 {p : Program} {e : Env} {s : State} {m : MethodId} {below : List Frame} {meth : Method} {c : Code} {H : Heap} {locs : List Loc} {ls : Array Slot} {D : va_G} {T : Nat → ClassId} {σ : Mem} {b L j k0 n0 : Nat} {xs : Nat → Int32} {Q : State → Prop} (l : Launch) (hst0 : l.stackTraces = false) (hF : Lf p s m meth c b L xs) (hv : Xv s) (G : Wd D T s.heap.size 139 σ s H locs) (hR : RG σ σ) (hj : 4 * j + 4 ≤ L) (hc : k0 + 2 ≤ 601024 ∧ n0 + 12 ≤ 7293034) {a1 : Int} (h1 : sx xs (4 * (j : Int) + 1) = a1) {a2 : Int} (h2 : sx xs (4 * (j : Int) + 2) = a2) (hl : lv_has ls 10 [(5, .int (kI (4 * (j : Int)))), (4, .ref (s.heap.size + 138)), (3, .ref (s.heap.size + 137)), (2, .ref (s.heap.size + 133)), (1, .ref (s.heap.size + 0)), (0, .ref b)]) (kk : ∀ (σ1 : Mem) (H1 : Heap) (locs1 : List Loc) (ls1 : Array Slot), Wd D T s.heap.size 139 σ1 s H1 locs1 → RG σ1 σ1 → lv_has ls1 10 [(5, .int (kI (4 * (j : Int)))), (4, .ref (s.heap.size + 138)), (3, .ref (s.heap.size + 137)), (2, .ref (s.heap.size + 133)), (1, .ref (s.heap.size + 0)), (0, .ref b)] → W p l e room_1 s m #[Value.ref b] below meth c H1 locs1 (k0 + 2) (n0 + 12) Q (F0 m 1840 ls1 [])) : W p l e room_1 s m #[Value.ref b] below meth c H locs k0 n0 Q (F0 m 632 ls []) := by
  obtain ⟨hx, hb, hml, hown, hts, hXs, hbl, hL⟩ := hF
  have hcf : k0 + 2 ≤ room_1.cells ∧ n0 + 12 ≤ room_1.slots := hc
  have hcf0 : k0 ≤ room_1.cells ∧ n0 ≤ room_1.slots := ⟨by show k0 ≤ 601024; omega, by show n0 ≤ 7293034; omega⟩
  have rg1 : inR a1 := by rw [← h1]; exact sx_rg
  have rg2 : inR a2 := by rw [← h2]; exact sx_rg
  refine lv_aload_n hx hb dL_law_632 rfl (lv_at hl 4 rfl) ?_
  refine lv_aload_n hx hb dL_law_633 rfl (lv_at hl 5 rfl) ?_
  refine lv_iload hx hb dL_law_634 (lv_at hl 0 rfl) ?_
  refine r_iconst hx hb dL_law_636 ?_
  refine r_iadd hx hb dL_law_637 ?_
  refine r_sld hx hb G hXs hbl hL ⟨by omega, by omega⟩ h1 dL_law_638 ?_
  refine lv_aload_n hx hb dL_law_639 rfl (lv_at hl 5 rfl) ?_
  refine lv_iload hx hb dL_law_640 (lv_at hl 0 rfl) ?_
  refine r_iconst hx hb dL_law_642 ?_
  refine r_iadd hx hb dL_law_643 ?_
  refine r_sld hx hb G hXs hbl hL ⟨by omega, by omega⟩ h2 dL_law_644 ?_
  refine lv_aload_n hx hb dL_law_645 rfl (lv_at hl 2 rfl) ?_
  refine r_callW (na := 4) (own := RL) ⟨hx, hb, hml, hown, hts⟩ G hv (k_L_season l hst0 (σ := σ) (k := a1) (d := a2) (rg1) (rg2) ((hR.xc.1)) ((hR.xc.2)) (hR.1.is)) qC_L_season qM_L_128 qS_L_season qN_L (by decide +kernel) ⟨Nat.le_of_ble_eq_true rfl, Nat.le_of_ble_eq_true rfl⟩ rfl rfl hl.1 rfl (Nat.le_of_ble_eq_true rfl) dL_law_646 hcf (fun H locs G => ?_)
  obtain ⟨κ, hκ⟩ : ∃ κ, κ = thr (isK a1) (0 ≤ a2 ∧ a2 ≤ 99) := ⟨_, rfl⟩
  rw [← hκ]
  obtain ⟨τ, hτ⟩ : ∃ τ, τ = aft (isK a1) (0 ≤ a2 ∧ a2 ≤ 99) (up (pus σ) 3 a1 a2) ((pus σ) 3 a1) σ := ⟨_, rfl⟩
  rw [← hτ] at G
  have x := hR.xc
  have hb2 : RG σ τ := by rw [hτ]; exact aft_rg hR (fun hq c a => by rw [up_o (by omega), pus_o x.1 x.2 (Or.inr (by omega))])
  refine lv_istore (lv' := [(6, .int (kI κ)), (5, .int (kI (4 * (j : Int)))), (4, .ref (s.heap.size + 138)), (3, .ref (s.heap.size + 137)), (2, .ref (s.heap.size + 133)), (1, .ref (s.heap.size + 0)), (0, .ref b)]) hx hb dL_law_649 hl (by decide) rfl (fun ls hl => ?_)
  refine lv_aload_n hx hb dL_law_651 rfl (lv_at hl 4 rfl) ?_
  refine lv_aload_n hx hb dL_law_652 rfl (lv_at hl 6 rfl) ?_
  refine lv_iload hx hb dL_law_653 (lv_at hl 1 rfl) ?_
  refine r_iconst hx hb dL_law_655 ?_
  refine r_iadd hx hb dL_law_656 ?_
  refine r_sld hx hb G hXs hbl hL ⟨by omega, by omega⟩ h1 dL_law_657 ?_
  refine lv_aload_n hx hb dL_law_658 rfl (lv_at hl 6 rfl) ?_
  refine lv_iload hx hb dL_law_659 (lv_at hl 1 rfl) ?_
  refine r_iconst hx hb dL_law_661 ?_
  refine r_iadd hx hb dL_law_662 ?_
  refine r_sld hx hb G hXs hbl hL ⟨by omega, by omega⟩ h2 dL_law_663 ?_
  obtain ⟨r, ν, hM, st⟩ : ∃ r ν, CtI l yX6_season (Cond.code yX6_season cX6_season 3 (some .int)) 2 44 (fun z => [.ref (z + 133), .int (kI a1), .int (kI a2)]) τ r ν ∧ ST κ r ν := ⟨_, _, k_X6_season l (σ := τ) (k := a1) (d := a2) (rg1) (rg2) (hb2.2.1.2.1) (hb2.1.g), by rw [hκ]; exact st_season hR hτ⟩
  refine r_callVI ⟨hx, hb, hml, hown, hts⟩ G hM (kV_X6_season hts qM_L_130 ⟨Nat.le_of_ble_eq_true rfl, Nat.le_of_ble_eq_true rfl⟩) (rc_X6 G) rfl rfl hl.1 rfl (Nat.le_of_ble_eq_true rfl) dL_law_664 hcf (fun H locs G => ?_)
  refine lv_istore (lv' := [(7, .int (kI r)), (6, .int (kI κ)), (5, .int (kI (4 * (j : Int)))), (4, .ref (s.heap.size + 138)), (3, .ref (s.heap.size + 137)), (2, .ref (s.heap.size + 133)), (1, .ref (s.heap.size + 0)), (0, .ref b)]) hx hb dL_law_667 hl (by decide) rfl (fun ls hl => ?_)
  refine lv_aload_n hx hb dL_law_669 rfl (lv_at hl 5 rfl) ?_
  refine r_callVI ⟨hx, hb, hml, hown, hts⟩ G (k_X6_thrown l (σ := ν)) (kV_X6_thrown hts qM_L_105 ⟨Nat.le_of_ble_eq_true rfl, Nat.le_of_ble_eq_true rfl⟩) (rc_X6 G) rfl rfl hl.1 rfl (Nat.le_of_ble_eq_true rfl) dL_law_670 hcf (fun H locs G => ?_)
  refine r_top (b := κ) st.1 ?_
  refine lv_iload hx hb dL_law_673 (lv_at hl 1 rfl) ?_
  refine r_ieq (tgt := 680) hx hb rfl dL_law_675 (by decide) ?_
  refine lv_iload hx hb dL_law_680 (lv_at hl 1 rfl) ?_
  have hkr := st.2.1
  refine r_if_ne (tgt := 697) hx hb ⟨by omega, by omega⟩ dL_law_682 (by decide) (fun _ => ?_) (fun hz0 => ?_)
  · skip
    refine lv_goto (tgt := 1840) hx hb dL_law_697 (by decide) ?_
    exact kk _ _ _ _ G st.2.2.2 (lv_sub hl [2, 3, 4, 5, 6, 7] rfl)
  · skip
    refine lv_aload_n hx hb dL_law_685 rfl (lv_at hl 4 rfl) ?_
    refine r_iconst hx hb dL_law_686 ?_
    refine r_lald hx hb G dL_law_687 ?_
    refine r_topL (b := Int64.ofInt (wr r)) (by rw [st.2.2.1 hz0]) ?_
    refine lv_iload hx hb dL_law_688 (lv_at hl 0 rfl) ?_
    refine lv_i2l hx hb dL_law_690 rfl ?_
    refine r_leq (tgt := 697) hx hb rfl dL_law_691 dL_law_692 (by decide) ?_
    refine lv_goto (tgt := 1840) hx hb dL_law_697 (by decide) ?_
    exact kk _ _ _ _ G st.2.2.2 (lv_sub hl [2, 3, 4, 5, 6, 7] rfl)
set_option maxRecDepth 100000 in
set_option maxHeartbeats 4000000 in
theorem lc_8 {p : Program} {e : Env} {s : State} {m : MethodId} {below : List Frame} {meth : Method} {c : Code} {H : Heap} {locs : List Loc} {ls : Array Slot} {D : va_G} {T : Nat → ClassId} {σ : Mem} {b L j k0 n0 : Nat} {xs : Nat → Int32} {Q : State → Prop} (l : Launch) (hst0 : l.stackTraces = false) (hF : Lf p s m meth c b L xs) (hv : Xv s) (G : Wd D T s.heap.size 139 σ s H locs) (hR : RG σ σ) (hj : 4 * j + 4 ≤ L) (hc : k0 + 2 ≤ 601024 ∧ n0 + 12 ≤ 7293034) {a1 : Int} (h1 : sx xs (4 * (j : Int) + 1) = a1) {a2 : Int} (h2 : sx xs (4 * (j : Int) + 2) = a2) (hl : lv_has ls 10 [(5, .int (kI (4 * (j : Int)))), (4, .ref (s.heap.size + 138)), (3, .ref (s.heap.size + 137)), (2, .ref (s.heap.size + 133)), (1, .ref (s.heap.size + 0)), (0, .ref b)]) (kk : ∀ (σ1 : Mem) (H1 : Heap) (locs1 : List Loc) (ls1 : Array Slot), Wd D T s.heap.size 139 σ1 s H1 locs1 → RG σ1 σ1 → lv_has ls1 10 [(5, .int (kI (4 * (j : Int)))), (4, .ref (s.heap.size + 138)), (3, .ref (s.heap.size + 137)), (2, .ref (s.heap.size + 133)), (1, .ref (s.heap.size + 0)), (0, .ref b)] → W p l e room_1 s m #[Value.ref b] below meth c H1 locs1 (k0 + 2) (n0 + 12) Q (F0 m 1840 ls1 [])) : W p l e room_1 s m #[Value.ref b] below meth c H locs k0 n0 Q (F0 m 700 ls []) := by
  obtain ⟨hx, hb, hml, hown, hts, hXs, hbl, hL⟩ := hF
  have hcf : k0 + 2 ≤ room_1.cells ∧ n0 + 12 ≤ room_1.slots := hc
  have hcf0 : k0 ≤ room_1.cells ∧ n0 ≤ room_1.slots := ⟨by show k0 ≤ 601024; omega, by show n0 ≤ 7293034; omega⟩
  have rg1 : inR a1 := by rw [← h1]; exact sx_rg
  have rg2 : inR a2 := by rw [← h2]; exact sx_rg
  refine lv_aload_n hx hb dL_law_700 rfl (lv_at hl 4 rfl) ?_
  refine lv_aload_n hx hb dL_law_701 rfl (lv_at hl 5 rfl) ?_
  refine lv_iload hx hb dL_law_702 (lv_at hl 0 rfl) ?_
  refine r_iconst hx hb dL_law_704 ?_
  refine r_iadd hx hb dL_law_705 ?_
  refine r_sld hx hb G hXs hbl hL ⟨by omega, by omega⟩ h1 dL_law_706 ?_
  refine lv_aload_n hx hb dL_law_707 rfl (lv_at hl 5 rfl) ?_
  refine lv_iload hx hb dL_law_708 (lv_at hl 0 rfl) ?_
  refine r_iconst hx hb dL_law_710 ?_
  refine r_iadd hx hb dL_law_711 ?_
  refine r_sld hx hb G hXs hbl hL ⟨by omega, by omega⟩ h2 dL_law_712 ?_
  refine lv_aload_n hx hb dL_law_713 rfl (lv_at hl 2 rfl) ?_
  refine r_callW (na := 4) (own := RL) ⟨hx, hb, hml, hown, hts⟩ G hv (k_L_set l hst0 (σ := σ) (k := a1) (d := a2) (rg1) (rg2) ((hR.xc.1)) ((hR.xc.2)) (hR.1.is)) qC_L_set qM_L_131 qS_L_set qN_L (by decide +kernel) ⟨Nat.le_of_ble_eq_true rfl, Nat.le_of_ble_eq_true rfl⟩ rfl rfl hl.1 rfl (Nat.le_of_ble_eq_true rfl) dL_law_714 hcf (fun H locs G => ?_)
  obtain ⟨κ, hκ⟩ : ∃ κ, κ = thr (0 ≤ a1 ∧ a1 ≤ 2) ((if a1 = 1 then 1 else 0) ≤ a2 ∧ a2 ≤ (if a1 = 0 then 3 else if a1 = 1 then 9 else 20)) := ⟨_, rfl⟩
  rw [← hκ]
  obtain ⟨τ, hτ⟩ : ∃ τ, τ = aft (0 ≤ a1 ∧ a1 ≤ 2) ((if a1 = 1 then 1 else 0) ≤ a2 ∧ a2 ≤ (if a1 = 0 then 3 else if a1 = 1 then 9 else 20)) (up (pus σ) 14 a1 a2) ((pus σ) 14 a1) σ := ⟨_, rfl⟩
  rw [← hτ] at G
  have x := hR.xc
  have hb2 : RG σ τ := by rw [hτ]; exact aft_rg hR (fun hq c a => by rw [up_o (by omega), pus_o x.1 x.2 (Or.inr (by omega))])
  refine lv_istore (lv' := [(6, .int (kI κ)), (5, .int (kI (4 * (j : Int)))), (4, .ref (s.heap.size + 138)), (3, .ref (s.heap.size + 137)), (2, .ref (s.heap.size + 133)), (1, .ref (s.heap.size + 0)), (0, .ref b)]) hx hb dL_law_717 hl (by decide) rfl (fun ls hl => ?_)
  refine lv_aload_n hx hb dL_law_719 rfl (lv_at hl 4 rfl) ?_
  refine lv_aload_n hx hb dL_law_720 rfl (lv_at hl 6 rfl) ?_
  refine lv_iload hx hb dL_law_721 (lv_at hl 1 rfl) ?_
  refine r_iconst hx hb dL_law_723 ?_
  refine r_iadd hx hb dL_law_724 ?_
  refine r_sld hx hb G hXs hbl hL ⟨by omega, by omega⟩ h1 dL_law_725 ?_
  refine lv_aload_n hx hb dL_law_726 rfl (lv_at hl 6 rfl) ?_
  refine lv_iload hx hb dL_law_727 (lv_at hl 1 rfl) ?_
  refine r_iconst hx hb dL_law_729 ?_
  refine r_iadd hx hb dL_law_730 ?_
  refine r_sld hx hb G hXs hbl hL ⟨by omega, by omega⟩ h2 dL_law_731 ?_
  obtain ⟨r, ν, hM, st⟩ : ∃ r ν, CtI l yX6_set (Cond.code yX6_set cX6_set 3 (some .int)) 2 44 (fun z => [.ref (z + 133), .int (kI a1), .int (kI a2)]) τ r ν ∧ ST κ r ν := ⟨_, _, k_X6_set l (σ := τ) (k := a1) (d := a2) (rg1) (rg2) (hb2.2.1.2.1) (hb2.1.g), by rw [hκ]; exact st_set hR hτ⟩
  refine r_callVI ⟨hx, hb, hml, hown, hts⟩ G hM (kV_X6_set hts qM_L_133 ⟨Nat.le_of_ble_eq_true rfl, Nat.le_of_ble_eq_true rfl⟩) (rc_X6 G) rfl rfl hl.1 rfl (Nat.le_of_ble_eq_true rfl) dL_law_732 hcf (fun H locs G => ?_)
  refine lv_istore (lv' := [(7, .int (kI r)), (6, .int (kI κ)), (5, .int (kI (4 * (j : Int)))), (4, .ref (s.heap.size + 138)), (3, .ref (s.heap.size + 137)), (2, .ref (s.heap.size + 133)), (1, .ref (s.heap.size + 0)), (0, .ref b)]) hx hb dL_law_735 hl (by decide) rfl (fun ls hl => ?_)
  refine lv_aload_n hx hb dL_law_737 rfl (lv_at hl 5 rfl) ?_
  refine r_callVI ⟨hx, hb, hml, hown, hts⟩ G (k_X6_thrown l (σ := ν)) (kV_X6_thrown hts qM_L_105 ⟨Nat.le_of_ble_eq_true rfl, Nat.le_of_ble_eq_true rfl⟩) (rc_X6 G) rfl rfl hl.1 rfl (Nat.le_of_ble_eq_true rfl) dL_law_738 hcf (fun H locs G => ?_)
  refine r_top (b := κ) st.1 ?_
  refine lv_iload hx hb dL_law_741 (lv_at hl 1 rfl) ?_
  refine r_ieq (tgt := 748) hx hb rfl dL_law_743 (by decide) ?_
  refine lv_iload hx hb dL_law_748 (lv_at hl 1 rfl) ?_
  have hkr := st.2.1
  refine r_if_ne (tgt := 765) hx hb ⟨by omega, by omega⟩ dL_law_750 (by decide) (fun _ => ?_) (fun hz0 => ?_)
  · skip
    refine lv_goto (tgt := 1840) hx hb dL_law_765 (by decide) ?_
    exact kk _ _ _ _ G st.2.2.2 (lv_sub hl [2, 3, 4, 5, 6, 7] rfl)
  · skip
    refine lv_aload_n hx hb dL_law_753 rfl (lv_at hl 4 rfl) ?_
    refine r_iconst hx hb dL_law_754 ?_
    refine r_lald hx hb G dL_law_755 ?_
    refine r_topL (b := Int64.ofInt (wr r)) (by rw [st.2.2.1 hz0]) ?_
    refine lv_iload hx hb dL_law_756 (lv_at hl 0 rfl) ?_
    refine lv_i2l hx hb dL_law_758 rfl ?_
    refine r_leq (tgt := 765) hx hb rfl dL_law_759 dL_law_760 (by decide) ?_
    refine lv_goto (tgt := 1840) hx hb dL_law_765 (by decide) ?_
    exact kk _ _ _ _ G st.2.2.2 (lv_sub hl [2, 3, 4, 5, 6, 7] rfl)
set_option maxRecDepth 100000 in
set_option maxHeartbeats 4000000 in
theorem lc_9 {p : Program} {e : Env} {s : State} {m : MethodId} {below : List Frame} {meth : Method} {c : Code} {H : Heap} {locs : List Loc} {ls : Array Slot} {D : va_G} {T : Nat → ClassId} {σ : Mem} {b L j k0 n0 : Nat} {xs : Nat → Int32} {Q : State → Prop} (l : Launch) (hst0 : l.stackTraces = false) (hF : Lf p s m meth c b L xs) (hv : Xv s) (G : Wd D T s.heap.size 139 σ s H locs) (hR : RG σ σ) (hj : 4 * j + 4 ≤ L) (hc : k0 + 2 ≤ 601024 ∧ n0 + 12 ≤ 7293034) {a1 : Int} (h1 : sx xs (4 * (j : Int) + 1) = a1) (hl : lv_has ls 10 [(5, .int (kI (4 * (j : Int)))), (4, .ref (s.heap.size + 138)), (3, .ref (s.heap.size + 137)), (2, .ref (s.heap.size + 133)), (1, .ref (s.heap.size + 0)), (0, .ref b)]) (kk : ∀ (σ1 : Mem) (H1 : Heap) (locs1 : List Loc) (ls1 : Array Slot), Wd D T s.heap.size 139 σ1 s H1 locs1 → RG σ1 σ1 → lv_has ls1 10 [(5, .int (kI (4 * (j : Int)))), (4, .ref (s.heap.size + 138)), (3, .ref (s.heap.size + 137)), (2, .ref (s.heap.size + 133)), (1, .ref (s.heap.size + 0)), (0, .ref b)] → W p l e room_1 s m #[Value.ref b] below meth c H1 locs1 (k0 + 2) (n0 + 12) Q (F0 m 1840 ls1 [])) : W p l e room_1 s m #[Value.ref b] below meth c H locs k0 n0 Q (F0 m 768 ls []) := by
  obtain ⟨hx, hb, hml, hown, hts, hXs, hbl, hL⟩ := hF
  have hcf : k0 + 2 ≤ room_1.cells ∧ n0 + 12 ≤ room_1.slots := hc
  have hcf0 : k0 ≤ room_1.cells ∧ n0 ≤ room_1.slots := ⟨by show k0 ≤ 601024; omega, by show n0 ≤ 7293034; omega⟩
  have rg1 : inR a1 := by rw [← h1]; exact sx_rg
  refine lv_aload_n hx hb dL_law_768 rfl (lv_at hl 4 rfl) ?_
  refine lv_aload_n hx hb dL_law_769 rfl (lv_at hl 5 rfl) ?_
  refine lv_iload hx hb dL_law_770 (lv_at hl 0 rfl) ?_
  refine r_iconst hx hb dL_law_772 ?_
  refine r_iadd hx hb dL_law_773 ?_
  refine r_sld hx hb G hXs hbl hL ⟨by omega, by omega⟩ h1 dL_law_774 ?_
  refine lv_aload_n hx hb dL_law_775 rfl (lv_at hl 2 rfl) ?_
  refine r_callW (na := 3) (own := RL) ⟨hx, hb, hml, hown, hts⟩ G hv (k_L_append l hst0 (σ := σ) (v := a1) (rg1) (hR.2.2.2.itt)) qC_L_append qM_L_134 qS_L_append qN_L (by decide +kernel) ⟨Nat.le_of_ble_eq_true rfl, Nat.le_of_ble_eq_true rfl⟩ rfl rfl hl.1 rfl (Nat.le_of_ble_eq_true rfl) dL_law_776 hcf (fun H locs G => ?_)
  obtain ⟨κ, hκ⟩ : ∃ κ, κ = thr (33 ≤ a1 ∧ a1 ≤ 126) (¬ 60 ≤ σ 131 1) := ⟨_, rfl⟩
  rw [← hκ]
  obtain ⟨τ, hτ⟩ : ∃ τ, τ = aft (33 ≤ a1 ∧ a1 ≤ 126) (¬ 60 ≤ σ 131 1) (up (up σ 132 (σ 131 1) a1) 131 1 (σ 131 1 + 1)) (σ 131 1 + 1) σ := ⟨_, rfl⟩
  rw [← hτ] at G
  have x := hR.xc
  have hb2 : RG σ τ := by rw [hτ]; exact aft_rg hR (fun hq c a => by rw [up_o (by omega), up_o (by omega)])
  refine lv_istore (lv' := [(6, .int (kI κ)), (5, .int (kI (4 * (j : Int)))), (4, .ref (s.heap.size + 138)), (3, .ref (s.heap.size + 137)), (2, .ref (s.heap.size + 133)), (1, .ref (s.heap.size + 0)), (0, .ref b)]) hx hb dL_law_779 hl (by decide) rfl (fun ls hl => ?_)
  refine lv_aload_n hx hb dL_law_781 rfl (lv_at hl 4 rfl) ?_
  refine lv_aload_n hx hb dL_law_782 rfl (lv_at hl 6 rfl) ?_
  refine lv_iload hx hb dL_law_783 (lv_at hl 1 rfl) ?_
  refine r_iconst hx hb dL_law_785 ?_
  refine r_iadd hx hb dL_law_786 ?_
  refine r_sld hx hb G hXs hbl hL ⟨by omega, by omega⟩ h1 dL_law_787 ?_
  obtain ⟨r, ν, hM, st⟩ : ∃ r ν, CtI l yX6_append (Cond.code yX6_append cX6_append 2 (some .int)) 1 22 (fun z => [.ref (z + 133), .int (kI a1)]) τ r ν ∧ ST κ r ν := ⟨_, _, k_X6_append l (σ := τ) (v := a1) (rg1) (hb2.2.2.2.ix), by rw [hκ]; exact st_append hR hτ⟩
  refine r_callVI ⟨hx, hb, hml, hown, hts⟩ G hM (kV_X6_append hts qM_L_136 ⟨Nat.le_of_ble_eq_true rfl, Nat.le_of_ble_eq_true rfl⟩) (rc_X6 G) rfl rfl hl.1 rfl (Nat.le_of_ble_eq_true rfl) dL_law_788 hcf (fun H locs G => ?_)
  refine lv_istore (lv' := [(7, .int (kI r)), (6, .int (kI κ)), (5, .int (kI (4 * (j : Int)))), (4, .ref (s.heap.size + 138)), (3, .ref (s.heap.size + 137)), (2, .ref (s.heap.size + 133)), (1, .ref (s.heap.size + 0)), (0, .ref b)]) hx hb dL_law_791 hl (by decide) rfl (fun ls hl => ?_)
  refine lv_aload_n hx hb dL_law_793 rfl (lv_at hl 5 rfl) ?_
  refine r_callVI ⟨hx, hb, hml, hown, hts⟩ G (k_X6_thrown l (σ := ν)) (kV_X6_thrown hts qM_L_105 ⟨Nat.le_of_ble_eq_true rfl, Nat.le_of_ble_eq_true rfl⟩) (rc_X6 G) rfl rfl hl.1 rfl (Nat.le_of_ble_eq_true rfl) dL_law_794 hcf (fun H locs G => ?_)
  refine r_top (b := κ) st.1 ?_
  refine lv_iload hx hb dL_law_797 (lv_at hl 1 rfl) ?_
  refine r_ieq (tgt := 804) hx hb rfl dL_law_799 (by decide) ?_
  refine lv_iload hx hb dL_law_804 (lv_at hl 1 rfl) ?_
  have hkr := st.2.1
  refine r_if_ne (tgt := 821) hx hb ⟨by omega, by omega⟩ dL_law_806 (by decide) (fun _ => ?_) (fun hz0 => ?_)
  · skip
    refine lv_goto (tgt := 1840) hx hb dL_law_821 (by decide) ?_
    exact kk _ _ _ _ G st.2.2.2 (lv_sub hl [2, 3, 4, 5, 6, 7] rfl)
  · skip
    refine lv_aload_n hx hb dL_law_809 rfl (lv_at hl 4 rfl) ?_
    refine r_iconst hx hb dL_law_810 ?_
    refine r_lald hx hb G dL_law_811 ?_
    refine r_topL (b := Int64.ofInt (wr r)) (by rw [st.2.2.1 hz0]) ?_
    refine lv_iload hx hb dL_law_812 (lv_at hl 0 rfl) ?_
    refine lv_i2l hx hb dL_law_814 rfl ?_
    refine r_leq (tgt := 821) hx hb rfl dL_law_815 dL_law_816 (by decide) ?_
    refine lv_goto (tgt := 1840) hx hb dL_law_821 (by decide) ?_
    exact kk _ _ _ _ G st.2.2.2 (lv_sub hl [2, 3, 4, 5, 6, 7] rfl)
set_option maxRecDepth 100000 in
set_option maxHeartbeats 4000000 in
theorem lc_12 {p : Program} {e : Env} {s : State} {m : MethodId} {below : List Frame} {meth : Method} {c : Code} {H : Heap} {locs : List Loc} {ls : Array Slot} {D : va_G} {T : Nat → ClassId} {σ : Mem} {b L j k0 n0 : Nat} {xs : Nat → Int32} {Q : State → Prop} (l : Launch) (hst0 : l.stackTraces = false) (hF : Lf p s m meth c b L xs) (hv : Xv s) (G : Wd D T s.heap.size 139 σ s H locs) (hR : RG σ σ) (hj : 4 * j + 4 ≤ L) (hc : k0 + 2 ≤ 601024 ∧ n0 + 12 ≤ 7293034)  (hl : lv_has ls 10 [(5, .int (kI (4 * (j : Int)))), (4, .ref (s.heap.size + 138)), (3, .ref (s.heap.size + 137)), (2, .ref (s.heap.size + 133)), (1, .ref (s.heap.size + 0)), (0, .ref b)]) (kk : ∀ (σ1 : Mem) (H1 : Heap) (locs1 : List Loc) (ls1 : Array Slot), Wd D T s.heap.size 139 σ1 s H1 locs1 → RG σ1 σ1 → lv_has ls1 10 [(5, .int (kI (4 * (j : Int)))), (4, .ref (s.heap.size + 138)), (3, .ref (s.heap.size + 137)), (2, .ref (s.heap.size + 133)), (1, .ref (s.heap.size + 0)), (0, .ref b)] → W p l e room_1 s m #[Value.ref b] below meth c H1 locs1 (k0 + 2) (n0 + 12) Q (F0 m 1840 ls1 [])) : W p l e room_1 s m #[Value.ref b] below meth c H locs k0 n0 Q (F0 m 850 ls []) := by
  obtain ⟨hx, hb, hml, hown, hts, hXs, hbl, hL⟩ := hF
  have hcf : k0 + 2 ≤ room_1.cells ∧ n0 + 12 ≤ room_1.slots := hc
  have hcf0 : k0 ≤ room_1.cells ∧ n0 ≤ room_1.slots := ⟨by show k0 ≤ 601024; omega, by show n0 ≤ 7293034; omega⟩
  refine lv_aload_n hx hb dL_law_850 rfl (lv_at hl 4 rfl) ?_
  refine lv_aload_n hx hb dL_law_851 rfl (lv_at hl 2 rfl) ?_
  refine r_callW (na := 2) (own := RL) ⟨hx, hb, hml, hown, hts⟩ G hv (k_L_run l hst0 (σ := σ)  (hR.2.2.2.itt) ((hR.xc.1)) ((hR.xc.2)) (hR.1.is) (hR.hR0)) qC_L_run qM_L_145 qS_L_run qN_L (by decide +kernel) ⟨Nat.le_of_ble_eq_true rfl, Nat.le_of_ble_eq_true rfl⟩ rfl rfl hl.1 rfl (Nat.le_of_ble_eq_true rfl) dL_law_852 hcf (fun H locs G => ?_)
  obtain ⟨κ, hκ⟩ : ∃ κ, κ = thr (mayE (ast σ (σ 131 1))) (True) := ⟨_, rfl⟩
  rw [← hκ]
  obtain ⟨τ, hτ⟩ : ∃ τ, τ = aft (mayE (ast σ (σ 131 1))) (True) (up (crI σ (σ 131 1)).1 131 1 0) ((crI σ (σ 131 1)).2.1) σ := ⟨_, rfl⟩
  rw [← hτ] at G
  have x := hR.xc
  have hb2 : RG σ τ := by rw [hτ]; exact aft_rg hR (fun hq c a => by rw [up_o (by omega), cr_o x.1 x.2 hR.2.2.2.itt.1.1 a])
  refine lv_istore (lv' := [(6, .int (kI κ)), (5, .int (kI (4 * (j : Int)))), (4, .ref (s.heap.size + 138)), (3, .ref (s.heap.size + 137)), (2, .ref (s.heap.size + 133)), (1, .ref (s.heap.size + 0)), (0, .ref b)]) hx hb dL_law_855 hl (by decide) rfl (fun ls hl => ?_)
  refine lv_aload_n hx hb dL_law_857 rfl (lv_at hl 4 rfl) ?_
  obtain ⟨r, ν, hM, st⟩ : ∃ r ν, CtI l yX6_run (Cond.code yX6_run cX6_run 3 (some .int)) 7 164 (fun z => [.ref (z + 133)]) τ r ν ∧ ST κ r ν := ⟨_, _, k_X6_run l (σ := τ)  (hb2.2.2.2.ix) (hb2.2.1.2.1) (⟨by decide, by decide⟩) (hb2.1.g), by rw [hκ]; exact st_run hR hτ (fun c a => cr_o x.1 x.2 hR.2.2.2.itt.1.1 a)⟩
  refine r_callVI ⟨hx, hb, hml, hown, hts⟩ G hM (kV_X6_run hts qM_L_148 ⟨Nat.le_of_ble_eq_true rfl, Nat.le_of_ble_eq_true rfl⟩) (rc_X6 G) rfl rfl hl.1 rfl (Nat.le_of_ble_eq_true rfl) dL_law_858 hcf (fun H locs G => ?_)
  refine lv_istore (lv' := [(7, .int (kI r)), (6, .int (kI κ)), (5, .int (kI (4 * (j : Int)))), (4, .ref (s.heap.size + 138)), (3, .ref (s.heap.size + 137)), (2, .ref (s.heap.size + 133)), (1, .ref (s.heap.size + 0)), (0, .ref b)]) hx hb dL_law_861 hl (by decide) rfl (fun ls hl => ?_)
  refine lv_aload_n hx hb dL_law_863 rfl (lv_at hl 5 rfl) ?_
  refine r_callVI ⟨hx, hb, hml, hown, hts⟩ G (k_X6_thrown l (σ := ν)) (kV_X6_thrown hts qM_L_105 ⟨Nat.le_of_ble_eq_true rfl, Nat.le_of_ble_eq_true rfl⟩) (rc_X6 G) rfl rfl hl.1 rfl (Nat.le_of_ble_eq_true rfl) dL_law_864 hcf (fun H locs G => ?_)
  refine r_top (b := κ) st.1 ?_
  refine lv_iload hx hb dL_law_867 (lv_at hl 1 rfl) ?_
  refine r_ieq (tgt := 874) hx hb rfl dL_law_869 (by decide) ?_
  refine lv_iload hx hb dL_law_874 (lv_at hl 1 rfl) ?_
  have hkr := st.2.1
  refine r_if_ne (tgt := 891) hx hb ⟨by omega, by omega⟩ dL_law_876 (by decide) (fun _ => ?_) (fun hz0 => ?_)
  · skip
    refine lv_goto (tgt := 1840) hx hb dL_law_891 (by decide) ?_
    exact kk _ _ _ _ G st.2.2.2 (lv_sub hl [2, 3, 4, 5, 6, 7] rfl)
  · skip
    refine lv_aload_n hx hb dL_law_879 rfl (lv_at hl 4 rfl) ?_
    refine r_iconst hx hb dL_law_880 ?_
    refine r_lald hx hb G dL_law_881 ?_
    refine r_topL (b := Int64.ofInt (wr r)) (by rw [st.2.2.1 hz0]) ?_
    refine lv_iload hx hb dL_law_882 (lv_at hl 0 rfl) ?_
    refine lv_i2l hx hb dL_law_884 rfl ?_
    refine r_leq (tgt := 891) hx hb rfl dL_law_885 dL_law_886 (by decide) ?_
    refine lv_goto (tgt := 1840) hx hb dL_law_891 (by decide) ?_
    exact kk _ _ _ _ G st.2.2.2 (lv_sub hl [2, 3, 4, 5, 6, 7] rfl)
set_option maxRecDepth 100000 in
set_option maxHeartbeats 4000000 in
theorem lc_13 {p : Program} {e : Env} {s : State} {m : MethodId} {below : List Frame} {meth : Method} {c : Code} {H : Heap} {locs : List Loc} {ls : Array Slot} {D : va_G} {T : Nat → ClassId} {σ : Mem} {b L j k0 n0 : Nat} {xs : Nat → Int32} {Q : State → Prop} (l : Launch) (hst0 : l.stackTraces = false) (hF : Lf p s m meth c b L xs) (hv : Xv s) (G : Wd D T s.heap.size 139 σ s H locs) (hR : RG σ σ) (hj : 4 * j + 4 ≤ L) (hc : k0 + 2 ≤ 601024 ∧ n0 + 12 ≤ 7293034) {a1 : Int} (h1 : sx xs (4 * (j : Int) + 1) = a1) (hl : lv_has ls 10 [(5, .int (kI (4 * (j : Int)))), (4, .ref (s.heap.size + 138)), (3, .ref (s.heap.size + 137)), (2, .ref (s.heap.size + 133)), (1, .ref (s.heap.size + 0)), (0, .ref b)]) (kk : ∀ (σ1 : Mem) (H1 : Heap) (locs1 : List Loc) (ls1 : Array Slot), Wd D T s.heap.size 139 σ1 s H1 locs1 → RG σ1 σ1 → lv_has ls1 10 [(5, .int (kI (4 * (j : Int)))), (4, .ref (s.heap.size + 138)), (3, .ref (s.heap.size + 137)), (2, .ref (s.heap.size + 133)), (1, .ref (s.heap.size + 0)), (0, .ref b)] → W p l e room_1 s m #[Value.ref b] below meth c H1 locs1 (k0 + 2) (n0 + 12) Q (F0 m 1840 ls1 [])) : W p l e room_1 s m #[Value.ref b] below meth c H locs k0 n0 Q (F0 m 894 ls []) := by
  obtain ⟨hx, hb, hml, hown, hts, hXs, hbl, hL⟩ := hF
  have hcf : k0 + 2 ≤ room_1.cells ∧ n0 + 12 ≤ room_1.slots := hc
  have hcf0 : k0 ≤ room_1.cells ∧ n0 ≤ room_1.slots := ⟨by show k0 ≤ 601024; omega, by show n0 ≤ 7293034; omega⟩
  have rg1 : inR a1 := by rw [← h1]; exact sx_rg
  refine lv_aload_n hx hb dL_law_894 rfl (lv_at hl 4 rfl) ?_
  refine lv_aload_n hx hb dL_law_895 rfl (lv_at hl 5 rfl) ?_
  refine lv_iload hx hb dL_law_896 (lv_at hl 0 rfl) ?_
  refine r_iconst hx hb dL_law_898 ?_
  refine r_iadd hx hb dL_law_899 ?_
  refine r_sld hx hb G hXs hbl hL ⟨by omega, by omega⟩ h1 dL_law_900 ?_
  refine lv_aload_n hx hb dL_law_901 rfl (lv_at hl 2 rfl) ?_
  refine r_callW (na := 3) (own := RL) ⟨hx, hb, hml, hown, hts⟩ G hv (k_L_keep l hst0 (σ := σ) (q := a1) (rg1)) qC_L_keep qM_L_149 qS_L_keep qN_L (by decide +kernel) ⟨Nat.le_of_ble_eq_true rfl, Nat.le_of_ble_eq_true rfl⟩ rfl rfl hl.1 rfl (Nat.le_of_ble_eq_true rfl) dL_law_902 hcf (fun H locs G => ?_)
  obtain ⟨κ, hκ⟩ : ∃ κ, κ = thr (0 ≤ a1 ∧ a1 ≤ 1) (True) := ⟨_, rfl⟩
  rw [← hκ]
  obtain ⟨τ, hτ⟩ : ∃ τ, τ = aft (0 ≤ a1 ∧ a1 ≤ 1) (True) (up (csp σ 1 (102 + 14 * a1.toNat)) 130 a1 1) (σ 2 0) σ := ⟨_, rfl⟩
  rw [← hτ] at G
  have x := hR.xc
  have hb2 : RG σ τ := by rw [hτ]; exact aft_rg hR (fun hq c a => by have h0 := hq.1; rw [up_o (by omega), csp_o (by omega)])
  refine lv_istore (lv' := [(6, .int (kI κ)), (5, .int (kI (4 * (j : Int)))), (4, .ref (s.heap.size + 138)), (3, .ref (s.heap.size + 137)), (2, .ref (s.heap.size + 133)), (1, .ref (s.heap.size + 0)), (0, .ref b)]) hx hb dL_law_905 hl (by decide) rfl (fun ls hl => ?_)
  refine lv_aload_n hx hb dL_law_907 rfl (lv_at hl 4 rfl) ?_
  refine lv_aload_n hx hb dL_law_908 rfl (lv_at hl 6 rfl) ?_
  refine lv_iload hx hb dL_law_909 (lv_at hl 1 rfl) ?_
  refine r_iconst hx hb dL_law_911 ?_
  refine r_iadd hx hb dL_law_912 ?_
  refine r_sld hx hb G hXs hbl hL ⟨by omega, by omega⟩ h1 dL_law_913 ?_
  obtain ⟨r, ν, hM, st⟩ : ∃ r ν, CtI l yX6_keep (Cond.code yX6_keep cX6_keep 2 (some .int)) 1 23 (fun z => [.ref (z + 133), .int (kI a1)]) τ r ν ∧ ST κ r ν := ⟨_, _, k_X6_keep l (σ := τ) (q := a1) (rg1), by rw [hκ]; exact st_keep hR hτ⟩
  refine r_callVI ⟨hx, hb, hml, hown, hts⟩ G hM (kV_X6_keep hts qM_L_151 ⟨Nat.le_of_ble_eq_true rfl, Nat.le_of_ble_eq_true rfl⟩) (rc_X6 G) rfl rfl hl.1 rfl (Nat.le_of_ble_eq_true rfl) dL_law_914 hcf (fun H locs G => ?_)
  refine lv_istore (lv' := [(7, .int (kI r)), (6, .int (kI κ)), (5, .int (kI (4 * (j : Int)))), (4, .ref (s.heap.size + 138)), (3, .ref (s.heap.size + 137)), (2, .ref (s.heap.size + 133)), (1, .ref (s.heap.size + 0)), (0, .ref b)]) hx hb dL_law_917 hl (by decide) rfl (fun ls hl => ?_)
  refine lv_aload_n hx hb dL_law_919 rfl (lv_at hl 5 rfl) ?_
  refine r_callVI ⟨hx, hb, hml, hown, hts⟩ G (k_X6_thrown l (σ := ν)) (kV_X6_thrown hts qM_L_105 ⟨Nat.le_of_ble_eq_true rfl, Nat.le_of_ble_eq_true rfl⟩) (rc_X6 G) rfl rfl hl.1 rfl (Nat.le_of_ble_eq_true rfl) dL_law_920 hcf (fun H locs G => ?_)
  refine r_top (b := κ) st.1 ?_
  refine lv_iload hx hb dL_law_923 (lv_at hl 1 rfl) ?_
  refine r_ieq (tgt := 930) hx hb rfl dL_law_925 (by decide) ?_
  refine lv_iload hx hb dL_law_930 (lv_at hl 1 rfl) ?_
  have hkr := st.2.1
  refine r_if_ne (tgt := 947) hx hb ⟨by omega, by omega⟩ dL_law_932 (by decide) (fun _ => ?_) (fun hz0 => ?_)
  · skip
    refine lv_goto (tgt := 1840) hx hb dL_law_947 (by decide) ?_
    exact kk _ _ _ _ G st.2.2.2 (lv_sub hl [2, 3, 4, 5, 6, 7] rfl)
  · skip
    refine lv_aload_n hx hb dL_law_935 rfl (lv_at hl 4 rfl) ?_
    refine r_iconst hx hb dL_law_936 ?_
    refine r_lald hx hb G dL_law_937 ?_
    refine r_topL (b := Int64.ofInt (wr r)) (by rw [st.2.2.1 hz0]) ?_
    refine lv_iload hx hb dL_law_938 (lv_at hl 0 rfl) ?_
    refine lv_i2l hx hb dL_law_940 rfl ?_
    refine r_leq (tgt := 947) hx hb rfl dL_law_941 dL_law_942 (by decide) ?_
    refine lv_goto (tgt := 1840) hx hb dL_law_947 (by decide) ?_
    exact kk _ _ _ _ G st.2.2.2 (lv_sub hl [2, 3, 4, 5, 6, 7] rfl)
set_option maxRecDepth 100000 in
set_option maxHeartbeats 4000000 in
theorem lc_14 {p : Program} {e : Env} {s : State} {m : MethodId} {below : List Frame} {meth : Method} {c : Code} {H : Heap} {locs : List Loc} {ls : Array Slot} {D : va_G} {T : Nat → ClassId} {σ : Mem} {b L j k0 n0 : Nat} {xs : Nat → Int32} {Q : State → Prop} (l : Launch) (hst0 : l.stackTraces = false) (hF : Lf p s m meth c b L xs) (hv : Xv s) (G : Wd D T s.heap.size 139 σ s H locs) (hR : RG σ σ) (hj : 4 * j + 4 ≤ L) (hc : k0 + 2 ≤ 601024 ∧ n0 + 12 ≤ 7293034) {a1 : Int} (h1 : sx xs (4 * (j : Int) + 1) = a1) (hl : lv_has ls 10 [(5, .int (kI (4 * (j : Int)))), (4, .ref (s.heap.size + 138)), (3, .ref (s.heap.size + 137)), (2, .ref (s.heap.size + 133)), (1, .ref (s.heap.size + 0)), (0, .ref b)]) (kk : ∀ (σ1 : Mem) (H1 : Heap) (locs1 : List Loc) (ls1 : Array Slot), Wd D T s.heap.size 139 σ1 s H1 locs1 → RG σ1 σ1 → lv_has ls1 10 [(5, .int (kI (4 * (j : Int)))), (4, .ref (s.heap.size + 138)), (3, .ref (s.heap.size + 137)), (2, .ref (s.heap.size + 133)), (1, .ref (s.heap.size + 0)), (0, .ref b)] → W p l e room_1 s m #[Value.ref b] below meth c H1 locs1 (k0 + 2) (n0 + 12) Q (F0 m 1840 ls1 [])) : W p l e room_1 s m #[Value.ref b] below meth c H locs k0 n0 Q (F0 m 950 ls []) := by
  obtain ⟨hx, hb, hml, hown, hts, hXs, hbl, hL⟩ := hF
  have hcf : k0 + 2 ≤ room_1.cells ∧ n0 + 12 ≤ room_1.slots := hc
  have hcf0 : k0 ≤ room_1.cells ∧ n0 ≤ room_1.slots := ⟨by show k0 ≤ 601024; omega, by show n0 ≤ 7293034; omega⟩
  have rg1 : inR a1 := by rw [← h1]; exact sx_rg
  refine lv_aload_n hx hb dL_law_950 rfl (lv_at hl 4 rfl) ?_
  refine lv_aload_n hx hb dL_law_951 rfl (lv_at hl 5 rfl) ?_
  refine lv_iload hx hb dL_law_952 (lv_at hl 0 rfl) ?_
  refine r_iconst hx hb dL_law_954 ?_
  refine r_iadd hx hb dL_law_955 ?_
  refine r_sld hx hb G hXs hbl hL ⟨by omega, by omega⟩ h1 dL_law_956 ?_
  refine lv_aload_n hx hb dL_law_957 rfl (lv_at hl 2 rfl) ?_
  refine r_callW (na := 3) (own := RL) ⟨hx, hb, hml, hown, hts⟩ G hv (k_L_goBack l hst0 (σ := σ) (q := a1) (rg1) ((fun q a b => by have g := hR.2.2.1 q a b; omega)) ((hR.xc.1)) ((hR.xc.2)) (hR.1.is)) qC_L_goBack qM_L_152 qS_L_goBack qN_L (by decide +kernel) ⟨Nat.le_of_ble_eq_true rfl, Nat.le_of_ble_eq_true rfl⟩ rfl rfl hl.1 rfl (Nat.le_of_ble_eq_true rfl) dL_law_958 hcf (fun H locs G => ?_)
  obtain ⟨κ, hκ⟩ : ∃ κ, κ = thr (0 ≤ a1 ∧ a1 ≤ 1) (σ 130 a1 = 1) := ⟨_, rfl⟩
  rw [← hκ]
  obtain ⟨τ, hτ⟩ : ∃ τ, τ = aft (0 ≤ a1 ∧ a1 ≤ 1) (σ 130 a1 = 1) (csp (pus σ) (102 + 14 * a1.toNat) 1) ((pus σ) (102 + 14 * a1.toNat + 1) 0) σ := ⟨_, rfl⟩
  rw [← hτ] at G
  have x := hR.xc
  have hb2 : RG σ τ := by rw [hτ]; exact aft_rg hR (fun hq c a => by rw [csp_o (by omega), pus_o x.1 x.2 (Or.inr (by omega))])
  refine lv_istore (lv' := [(6, .int (kI κ)), (5, .int (kI (4 * (j : Int)))), (4, .ref (s.heap.size + 138)), (3, .ref (s.heap.size + 137)), (2, .ref (s.heap.size + 133)), (1, .ref (s.heap.size + 0)), (0, .ref b)]) hx hb dL_law_961 hl (by decide) rfl (fun ls hl => ?_)
  refine lv_aload_n hx hb dL_law_963 rfl (lv_at hl 4 rfl) ?_
  refine lv_aload_n hx hb dL_law_964 rfl (lv_at hl 6 rfl) ?_
  refine lv_iload hx hb dL_law_965 (lv_at hl 1 rfl) ?_
  refine r_iconst hx hb dL_law_967 ?_
  refine r_iadd hx hb dL_law_968 ?_
  refine r_sld hx hb G hXs hbl hL ⟨by omega, by omega⟩ h1 dL_law_969 ?_
  obtain ⟨r, ν, hM, st⟩ : ∃ r ν, CtI l yX6_goBack (Cond.code yX6_goBack cX6_goBack 2 (some .int)) 2 44 (fun z => [.ref (z + 133), .int (kI a1)]) τ r ν ∧ ST κ r ν := ⟨_, _, k_X6_goBack l (σ := τ) (q := a1) (rg1) (hb2.2.1.2.1) ((fun q a b => (hb2.2.2.1 q a b).2.1)), by rw [hκ]; exact st_goBack hR hτ⟩
  refine r_callVI ⟨hx, hb, hml, hown, hts⟩ G hM (kV_X6_goBack hts qM_L_154 ⟨Nat.le_of_ble_eq_true rfl, Nat.le_of_ble_eq_true rfl⟩) (rc_X6 G) rfl rfl hl.1 rfl (Nat.le_of_ble_eq_true rfl) dL_law_970 hcf (fun H locs G => ?_)
  refine lv_istore (lv' := [(7, .int (kI r)), (6, .int (kI κ)), (5, .int (kI (4 * (j : Int)))), (4, .ref (s.heap.size + 138)), (3, .ref (s.heap.size + 137)), (2, .ref (s.heap.size + 133)), (1, .ref (s.heap.size + 0)), (0, .ref b)]) hx hb dL_law_973 hl (by decide) rfl (fun ls hl => ?_)
  refine lv_aload_n hx hb dL_law_975 rfl (lv_at hl 5 rfl) ?_
  refine r_callVI ⟨hx, hb, hml, hown, hts⟩ G (k_X6_thrown l (σ := ν)) (kV_X6_thrown hts qM_L_105 ⟨Nat.le_of_ble_eq_true rfl, Nat.le_of_ble_eq_true rfl⟩) (rc_X6 G) rfl rfl hl.1 rfl (Nat.le_of_ble_eq_true rfl) dL_law_976 hcf (fun H locs G => ?_)
  refine r_top (b := κ) st.1 ?_
  refine lv_iload hx hb dL_law_979 (lv_at hl 1 rfl) ?_
  refine r_ieq (tgt := 986) hx hb rfl dL_law_981 (by decide) ?_
  refine lv_iload hx hb dL_law_986 (lv_at hl 1 rfl) ?_
  have hkr := st.2.1
  refine r_if_ne (tgt := 1003) hx hb ⟨by omega, by omega⟩ dL_law_988 (by decide) (fun _ => ?_) (fun hz0 => ?_)
  · skip
    refine lv_goto (tgt := 1840) hx hb dL_law_1003 (by decide) ?_
    exact kk _ _ _ _ G st.2.2.2 (lv_sub hl [2, 3, 4, 5, 6, 7] rfl)
  · skip
    refine lv_aload_n hx hb dL_law_991 rfl (lv_at hl 4 rfl) ?_
    refine r_iconst hx hb dL_law_992 ?_
    refine r_lald hx hb G dL_law_993 ?_
    refine r_topL (b := Int64.ofInt (wr r)) (by rw [st.2.2.1 hz0]) ?_
    refine lv_iload hx hb dL_law_994 (lv_at hl 0 rfl) ?_
    refine lv_i2l hx hb dL_law_996 rfl ?_
    refine r_leq (tgt := 1003) hx hb rfl dL_law_997 dL_law_998 (by decide) ?_
    refine lv_goto (tgt := 1840) hx hb dL_law_1003 (by decide) ?_
    exact kk _ _ _ _ G st.2.2.2 (lv_sub hl [2, 3, 4, 5, 6, 7] rfl)
set_option maxRecDepth 100000 in
set_option maxHeartbeats 4000000 in
theorem lc_15 {p : Program} {e : Env} {s : State} {m : MethodId} {below : List Frame} {meth : Method} {c : Code} {H : Heap} {locs : List Loc} {ls : Array Slot} {D : va_G} {T : Nat → ClassId} {σ : Mem} {b L j k0 n0 : Nat} {xs : Nat → Int32} {Q : State → Prop} (l : Launch) (hst0 : l.stackTraces = false) (hF : Lf p s m meth c b L xs) (hv : Xv s) (G : Wd D T s.heap.size 139 σ s H locs) (hR : RG σ σ) (hj : 4 * j + 4 ≤ L) (hc : k0 + 2 ≤ 601024 ∧ n0 + 12 ≤ 7293034)  (hl : lv_has ls 10 [(5, .int (kI (4 * (j : Int)))), (4, .ref (s.heap.size + 138)), (3, .ref (s.heap.size + 137)), (2, .ref (s.heap.size + 133)), (1, .ref (s.heap.size + 0)), (0, .ref b)]) (kk : ∀ (σ1 : Mem) (H1 : Heap) (locs1 : List Loc) (ls1 : Array Slot), Wd D T s.heap.size 139 σ1 s H1 locs1 → RG σ1 σ1 → lv_has ls1 10 [(5, .int (kI (4 * (j : Int)))), (4, .ref (s.heap.size + 138)), (3, .ref (s.heap.size + 137)), (2, .ref (s.heap.size + 133)), (1, .ref (s.heap.size + 0)), (0, .ref b)] → W p l e room_1 s m #[Value.ref b] below meth c H1 locs1 (k0 + 2) (n0 + 12) Q (F0 m 1840 ls1 [])) : W p l e room_1 s m #[Value.ref b] below meth c H locs k0 n0 Q (F0 m 1006 ls []) := by
  obtain ⟨hx, hb, hml, hown, hts, hXs, hbl, hL⟩ := hF
  have hcf : k0 + 2 ≤ room_1.cells ∧ n0 + 12 ≤ room_1.slots := hc
  have hcf0 : k0 ≤ room_1.cells ∧ n0 ≤ room_1.slots := ⟨by show k0 ≤ 601024; omega, by show n0 ≤ 7293034; omega⟩
  refine lv_aload_n hx hb dL_law_1006 rfl (lv_at hl 4 rfl) ?_
  refine lv_aload_n hx hb dL_law_1007 rfl (lv_at hl 2 rfl) ?_
  refine r_callW (na := 2) (own := RL) ⟨hx, hb, hml, hown, hts⟩ G hv (k_L_undo l hst0 (σ := σ)  ((hR.xc.1)) ((hR.xc.2))) qC_L_undo qM_L_155 qS_L_undo qN_L (by decide +kernel) ⟨Nat.le_of_ble_eq_true rfl, Nat.le_of_ble_eq_true rfl⟩ rfl rfl hl.1 rfl (Nat.le_of_ble_eq_true rfl) dL_law_1008 hcf (fun H locs G => ?_)
  obtain ⟨κ, hκ⟩ : ∃ κ, κ = thr (¬ σ 15 1 = 0) (True) := ⟨_, rfl⟩
  rw [← hκ]
  obtain ⟨τ, hτ⟩ : ∃ τ, τ = aft (¬ σ 15 1 = 0) (True) (pop σ) (σ 15 1 - 1) σ := ⟨_, rfl⟩
  rw [← hτ] at G
  have x := hR.xc
  have hb2 : RG σ τ := by rw [hτ]; exact aft_rg hR (fun hq c a => pop_o a)
  refine lv_istore (lv' := [(6, .int (kI κ)), (5, .int (kI (4 * (j : Int)))), (4, .ref (s.heap.size + 138)), (3, .ref (s.heap.size + 137)), (2, .ref (s.heap.size + 133)), (1, .ref (s.heap.size + 0)), (0, .ref b)]) hx hb dL_law_1011 hl (by decide) rfl (fun ls hl => ?_)
  refine lv_aload_n hx hb dL_law_1013 rfl (lv_at hl 4 rfl) ?_
  obtain ⟨r, ν, hM, st⟩ : ∃ r ν, CtI l yX6_undo (Cond.code yX6_undo cX6_undo 1 (some .int)) 1 23 (fun z => [.ref (z + 133)]) τ r ν ∧ ST κ r ν := ⟨_, _, k_X6_undo l (σ := τ)  (hb2.2.1.2.1), by rw [hκ]; exact st_undo hR hτ⟩
  refine r_callVI ⟨hx, hb, hml, hown, hts⟩ G hM (kV_X6_undo hts qM_L_157 ⟨Nat.le_of_ble_eq_true rfl, Nat.le_of_ble_eq_true rfl⟩) (rc_X6 G) rfl rfl hl.1 rfl (Nat.le_of_ble_eq_true rfl) dL_law_1014 hcf (fun H locs G => ?_)
  refine lv_istore (lv' := [(7, .int (kI r)), (6, .int (kI κ)), (5, .int (kI (4 * (j : Int)))), (4, .ref (s.heap.size + 138)), (3, .ref (s.heap.size + 137)), (2, .ref (s.heap.size + 133)), (1, .ref (s.heap.size + 0)), (0, .ref b)]) hx hb dL_law_1017 hl (by decide) rfl (fun ls hl => ?_)
  refine lv_aload_n hx hb dL_law_1019 rfl (lv_at hl 5 rfl) ?_
  refine r_callVI ⟨hx, hb, hml, hown, hts⟩ G (k_X6_thrown l (σ := ν)) (kV_X6_thrown hts qM_L_105 ⟨Nat.le_of_ble_eq_true rfl, Nat.le_of_ble_eq_true rfl⟩) (rc_X6 G) rfl rfl hl.1 rfl (Nat.le_of_ble_eq_true rfl) dL_law_1020 hcf (fun H locs G => ?_)
  refine r_top (b := κ) st.1 ?_
  refine lv_iload hx hb dL_law_1023 (lv_at hl 1 rfl) ?_
  refine r_ieq (tgt := 1030) hx hb rfl dL_law_1025 (by decide) ?_
  refine lv_iload hx hb dL_law_1030 (lv_at hl 1 rfl) ?_
  have hkr := st.2.1
  refine r_if_ne (tgt := 1047) hx hb ⟨by omega, by omega⟩ dL_law_1032 (by decide) (fun _ => ?_) (fun hz0 => ?_)
  · skip
    refine lv_goto (tgt := 1840) hx hb dL_law_1047 (by decide) ?_
    exact kk _ _ _ _ G st.2.2.2 (lv_sub hl [2, 3, 4, 5, 6, 7] rfl)
  · skip
    refine lv_aload_n hx hb dL_law_1035 rfl (lv_at hl 4 rfl) ?_
    refine r_iconst hx hb dL_law_1036 ?_
    refine r_lald hx hb G dL_law_1037 ?_
    refine r_topL (b := Int64.ofInt (wr r)) (by rw [st.2.2.1 hz0]) ?_
    refine lv_iload hx hb dL_law_1038 (lv_at hl 0 rfl) ?_
    refine lv_i2l hx hb dL_law_1040 rfl ?_
    refine r_leq (tgt := 1047) hx hb rfl dL_law_1041 dL_law_1042 (by decide) ?_
    refine lv_goto (tgt := 1840) hx hb dL_law_1047 (by decide) ?_
    exact kk _ _ _ _ G st.2.2.2 (lv_sub hl [2, 3, 4, 5, 6, 7] rfl)
set_option maxRecDepth 100000 in
set_option maxHeartbeats 4000000 in
theorem lc_16 {p : Program} {e : Env} {s : State} {m : MethodId} {below : List Frame} {meth : Method} {c : Code} {H : Heap} {locs : List Loc} {ls : Array Slot} {D : va_G} {T : Nat → ClassId} {σ : Mem} {b L j k0 n0 : Nat} {xs : Nat → Int32} {Q : State → Prop} (l : Launch) (hst0 : l.stackTraces = false) (hF : Lf p s m meth c b L xs) (hv : Xv s) (G : Wd D T s.heap.size 139 σ s H locs) (hR : RG σ σ) (hj : 4 * j + 4 ≤ L) (hc : k0 + 2 ≤ 601024 ∧ n0 + 12 ≤ 7293034) {a1 : Int} (h1 : sx xs (4 * (j : Int) + 1) = a1) {a2 : Int} (h2 : sx xs (4 * (j : Int) + 2) = a2) {a3 : Int} (h3 : sx xs (4 * (j : Int) + 3) = a3) (hl : lv_has ls 10 [(5, .int (kI (4 * (j : Int)))), (4, .ref (s.heap.size + 138)), (3, .ref (s.heap.size + 137)), (2, .ref (s.heap.size + 133)), (1, .ref (s.heap.size + 0)), (0, .ref b)]) (kk : ∀ (σ1 : Mem) (H1 : Heap) (locs1 : List Loc) (ls1 : Array Slot), Wd D T s.heap.size 139 σ1 s H1 locs1 → RG σ1 σ1 → lv_has ls1 10 [(5, .int (kI (4 * (j : Int)))), (4, .ref (s.heap.size + 138)), (3, .ref (s.heap.size + 137)), (2, .ref (s.heap.size + 133)), (1, .ref (s.heap.size + 0)), (0, .ref b)] → W p l e room_1 s m #[Value.ref b] below meth c H1 locs1 (k0 + 2) (n0 + 12) Q (F0 m 1840 ls1 [])) : W p l e room_1 s m #[Value.ref b] below meth c H locs k0 n0 Q (F0 m 1050 ls []) := by
  obtain ⟨hx, hb, hml, hown, hts, hXs, hbl, hL⟩ := hF
  have hcf : k0 + 2 ≤ room_1.cells ∧ n0 + 12 ≤ room_1.slots := hc
  have hcf0 : k0 ≤ room_1.cells ∧ n0 ≤ room_1.slots := ⟨by show k0 ≤ 601024; omega, by show n0 ≤ 7293034; omega⟩
  have rg1 : inR a1 := by rw [← h1]; exact sx_rg
  have rg2 : inR a2 := by rw [← h2]; exact sx_rg
  have rg3 : inR a3 := by rw [← h3]; exact sx_rg
  refine lv_aload_n hx hb dL_law_1050 rfl (lv_at hl 4 rfl) ?_
  refine lv_aload_n hx hb dL_law_1051 rfl (lv_at hl 5 rfl) ?_
  refine lv_iload hx hb dL_law_1052 (lv_at hl 0 rfl) ?_
  refine r_iconst hx hb dL_law_1054 ?_
  refine r_iadd hx hb dL_law_1055 ?_
  refine r_sld hx hb G hXs hbl hL ⟨by omega, by omega⟩ h1 dL_law_1056 ?_
  refine lv_aload_n hx hb dL_law_1057 rfl (lv_at hl 5 rfl) ?_
  refine lv_iload hx hb dL_law_1058 (lv_at hl 0 rfl) ?_
  refine r_iconst hx hb dL_law_1060 ?_
  refine r_iadd hx hb dL_law_1061 ?_
  refine r_sld hx hb G hXs hbl hL ⟨by omega, by omega⟩ h2 dL_law_1062 ?_
  refine lv_aload_n hx hb dL_law_1063 rfl (lv_at hl 5 rfl) ?_
  refine lv_iload hx hb dL_law_1064 (lv_at hl 0 rfl) ?_
  refine r_iconst hx hb dL_law_1066 ?_
  refine r_iadd hx hb dL_law_1067 ?_
  refine r_sld hx hb G hXs hbl hL ⟨by omega, by omega⟩ h3 dL_law_1068 ?_
  refine lv_aload_n hx hb dL_law_1069 rfl (lv_at hl 2 rfl) ?_
  refine r_callW (na := 5) (own := RL) ⟨hx, hb, hml, hown, hts⟩ G hv (k_L_keyOf l hst0 (σ := σ) (k := a1) (y := a2) (w := a3) (rg1) (rg2) (rg3) (hR.1.is)) qC_L_keyOf qM_L_158 qS_L_keyOf qN_L (by decide +kernel) ⟨Nat.le_of_ble_eq_true rfl, Nat.le_of_ble_eq_true rfl⟩ rfl rfl hl.1 rfl (Nat.le_of_ble_eq_true rfl) dL_law_1070 hcf (fun H locs G => ?_)
  obtain ⟨κ, hκ⟩ : ∃ κ, κ = thr (isY a1 a2) (0 ≤ a3 ∧ a3 ≤ 4) := ⟨_, rfl⟩
  rw [← hκ]
  obtain ⟨τ, hτ⟩ : ∃ τ, τ = aft (isY a1 a2) (0 ≤ a3 ∧ a3 ≤ 4) (σ) (pok σ a1 a2 a3) σ := ⟨_, rfl⟩
  rw [← hτ] at G
  have x := hR.xc
  have hb2 : RG σ τ := by rw [hτ]; exact aft_rg hR (fun hq c a => rfl)
  refine lv_istore (lv' := [(6, .int (kI κ)), (5, .int (kI (4 * (j : Int)))), (4, .ref (s.heap.size + 138)), (3, .ref (s.heap.size + 137)), (2, .ref (s.heap.size + 133)), (1, .ref (s.heap.size + 0)), (0, .ref b)]) hx hb dL_law_1073 hl (by decide) rfl (fun ls hl => ?_)
  refine lv_aload_n hx hb dL_law_1075 rfl (lv_at hl 4 rfl) ?_
  refine lv_aload_n hx hb dL_law_1076 rfl (lv_at hl 6 rfl) ?_
  refine lv_iload hx hb dL_law_1077 (lv_at hl 1 rfl) ?_
  refine r_iconst hx hb dL_law_1079 ?_
  refine r_iadd hx hb dL_law_1080 ?_
  refine r_sld hx hb G hXs hbl hL ⟨by omega, by omega⟩ h1 dL_law_1081 ?_
  refine lv_aload_n hx hb dL_law_1082 rfl (lv_at hl 6 rfl) ?_
  refine lv_iload hx hb dL_law_1083 (lv_at hl 1 rfl) ?_
  refine r_iconst hx hb dL_law_1085 ?_
  refine r_iadd hx hb dL_law_1086 ?_
  refine r_sld hx hb G hXs hbl hL ⟨by omega, by omega⟩ h2 dL_law_1087 ?_
  refine lv_aload_n hx hb dL_law_1088 rfl (lv_at hl 6 rfl) ?_
  refine lv_iload hx hb dL_law_1089 (lv_at hl 1 rfl) ?_
  refine r_iconst hx hb dL_law_1091 ?_
  refine r_iadd hx hb dL_law_1092 ?_
  refine r_sld hx hb G hXs hbl hL ⟨by omega, by omega⟩ h3 dL_law_1093 ?_
  obtain ⟨r, ν, hM, st⟩ : ∃ r ν, CtI l yX6_keyOf (Cond.code yX6_keyOf cX6_keyOf 4 (some .int)) 3 73 (fun z => [.ref (z + 133), .int (kI a1), .int (kI a2), .int (kI a3)]) τ r ν ∧ ST κ r ν := ⟨_, _, k_X6_keyOf l (σ := τ) (k := a1) (y := a2) (w := a3) (rg1) (rg2) (rg3) (hb2.1.g), by rw [hκ]; exact st_keyOf hR hτ⟩
  refine r_callVI ⟨hx, hb, hml, hown, hts⟩ G hM (kV_X6_keyOf hts qM_L_160 ⟨Nat.le_of_ble_eq_true rfl, Nat.le_of_ble_eq_true rfl⟩) (rc_X6 G) rfl rfl hl.1 rfl (Nat.le_of_ble_eq_true rfl) dL_law_1094 hcf (fun H locs G => ?_)
  refine lv_istore (lv' := [(7, .int (kI r)), (6, .int (kI κ)), (5, .int (kI (4 * (j : Int)))), (4, .ref (s.heap.size + 138)), (3, .ref (s.heap.size + 137)), (2, .ref (s.heap.size + 133)), (1, .ref (s.heap.size + 0)), (0, .ref b)]) hx hb dL_law_1097 hl (by decide) rfl (fun ls hl => ?_)
  refine lv_aload_n hx hb dL_law_1099 rfl (lv_at hl 5 rfl) ?_
  refine r_callVI ⟨hx, hb, hml, hown, hts⟩ G (k_X6_thrown l (σ := ν)) (kV_X6_thrown hts qM_L_105 ⟨Nat.le_of_ble_eq_true rfl, Nat.le_of_ble_eq_true rfl⟩) (rc_X6 G) rfl rfl hl.1 rfl (Nat.le_of_ble_eq_true rfl) dL_law_1100 hcf (fun H locs G => ?_)
  refine r_top (b := κ) st.1 ?_
  refine lv_iload hx hb dL_law_1103 (lv_at hl 1 rfl) ?_
  refine r_ieq (tgt := 1110) hx hb rfl dL_law_1105 (by decide) ?_
  refine lv_iload hx hb dL_law_1110 (lv_at hl 1 rfl) ?_
  have hkr := st.2.1
  refine r_if_ne (tgt := 1127) hx hb ⟨by omega, by omega⟩ dL_law_1112 (by decide) (fun _ => ?_) (fun hz0 => ?_)
  · skip
    refine lv_goto (tgt := 1840) hx hb dL_law_1127 (by decide) ?_
    exact kk _ _ _ _ G st.2.2.2 (lv_sub hl [2, 3, 4, 5, 6, 7] rfl)
  · skip
    refine lv_aload_n hx hb dL_law_1115 rfl (lv_at hl 4 rfl) ?_
    refine r_iconst hx hb dL_law_1116 ?_
    refine r_lald hx hb G dL_law_1117 ?_
    refine r_topL (b := Int64.ofInt (wr r)) (by rw [st.2.2.1 hz0]) ?_
    refine lv_iload hx hb dL_law_1118 (lv_at hl 0 rfl) ?_
    refine lv_i2l hx hb dL_law_1120 rfl ?_
    refine r_leq (tgt := 1127) hx hb rfl dL_law_1121 dL_law_1122 (by decide) ?_
    refine lv_goto (tgt := 1840) hx hb dL_law_1127 (by decide) ?_
    exact kk _ _ _ _ G st.2.2.2 (lv_sub hl [2, 3, 4, 5, 6, 7] rfl)
set_option maxRecDepth 100000 in
set_option maxHeartbeats 4000000 in
theorem lc_17 {p : Program} {e : Env} {s : State} {m : MethodId} {below : List Frame} {meth : Method} {c : Code} {H : Heap} {locs : List Loc} {ls : Array Slot} {D : va_G} {T : Nat → ClassId} {σ : Mem} {b L j k0 n0 : Nat} {xs : Nat → Int32} {Q : State → Prop} (l : Launch) (hst0 : l.stackTraces = false) (hF : Lf p s m meth c b L xs) (hv : Xv s) (G : Wd D T s.heap.size 139 σ s H locs) (hR : RG σ σ) (hj : 4 * j + 4 ≤ L) (hc : k0 + 2 ≤ 601024 ∧ n0 + 12 ≤ 7293034) {a1 : Int} (h1 : sx xs (4 * (j : Int) + 1) = a1) {a2 : Int} (h2 : sx xs (4 * (j : Int) + 2) = a2) (hl : lv_has ls 10 [(5, .int (kI (4 * (j : Int)))), (4, .ref (s.heap.size + 138)), (3, .ref (s.heap.size + 137)), (2, .ref (s.heap.size + 133)), (1, .ref (s.heap.size + 0)), (0, .ref b)]) (kk : ∀ (σ1 : Mem) (H1 : Heap) (locs1 : List Loc) (ls1 : Array Slot), Wd D T s.heap.size 139 σ1 s H1 locs1 → RG σ1 σ1 → lv_has ls1 10 [(5, .int (kI (4 * (j : Int)))), (4, .ref (s.heap.size + 138)), (3, .ref (s.heap.size + 137)), (2, .ref (s.heap.size + 133)), (1, .ref (s.heap.size + 0)), (0, .ref b)] → W p l e room_1 s m #[Value.ref b] below meth c H1 locs1 (k0 + 2) (n0 + 12) Q (F0 m 1840 ls1 [])) : W p l e room_1 s m #[Value.ref b] below meth c H locs k0 n0 Q (F0 m 1130 ls []) := by
  obtain ⟨hx, hb, hml, hown, hts, hXs, hbl, hL⟩ := hF
  have hcf : k0 + 2 ≤ room_1.cells ∧ n0 + 12 ≤ room_1.slots := hc
  have hcf0 : k0 ≤ room_1.cells ∧ n0 ≤ room_1.slots := ⟨by show k0 ≤ 601024; omega, by show n0 ≤ 7293034; omega⟩
  have rg1 : inR a1 := by rw [← h1]; exact sx_rg
  have rg2 : inR a2 := by rw [← h2]; exact sx_rg
  refine lv_aload_n hx hb dL_law_1130 rfl (lv_at hl 4 rfl) ?_
  refine lv_aload_n hx hb dL_law_1131 rfl (lv_at hl 5 rfl) ?_
  refine lv_iload hx hb dL_law_1132 (lv_at hl 0 rfl) ?_
  refine r_iconst hx hb dL_law_1134 ?_
  refine r_iadd hx hb dL_law_1135 ?_
  refine r_sld hx hb G hXs hbl hL ⟨by omega, by omega⟩ h1 dL_law_1136 ?_
  refine lv_aload_n hx hb dL_law_1137 rfl (lv_at hl 5 rfl) ?_
  refine lv_iload hx hb dL_law_1138 (lv_at hl 0 rfl) ?_
  refine r_iconst hx hb dL_law_1140 ?_
  refine r_iadd hx hb dL_law_1141 ?_
  refine r_sld hx hb G hXs hbl hL ⟨by omega, by omega⟩ h2 dL_law_1142 ?_
  refine lv_aload_n hx hb dL_law_1143 rfl (lv_at hl 2 rfl) ?_
  refine r_callW (na := 4) (own := RL) ⟨hx, hb, hml, hown, hts⟩ G hv (k_L_kindOf l hst0 (σ := σ) (k := a1) (w := a2) (rg1) (rg2) (hR.1.is)) qC_L_kindOf qM_L_161 qS_L_kindOf qN_L (by decide +kernel) ⟨Nat.le_of_ble_eq_true rfl, Nat.le_of_ble_eq_true rfl⟩ rfl rfl hl.1 rfl (Nat.le_of_ble_eq_true rfl) dL_law_1144 hcf (fun H locs G => ?_)
  obtain ⟨κ, hκ⟩ : ∃ κ, κ = thr (isK a1) (0 ≤ a2 ∧ a2 ≤ 10) := ⟨_, rfl⟩
  rw [← hκ]
  obtain ⟨τ, hτ⟩ : ∃ τ, τ = aft (isK a1) (0 ≤ a2 ∧ a2 ≤ 10) (σ) (pkd σ a1 a2) σ := ⟨_, rfl⟩
  rw [← hτ] at G
  have x := hR.xc
  have hb2 : RG σ τ := by rw [hτ]; exact aft_rg hR (fun hq c a => rfl)
  refine lv_istore (lv' := [(6, .int (kI κ)), (5, .int (kI (4 * (j : Int)))), (4, .ref (s.heap.size + 138)), (3, .ref (s.heap.size + 137)), (2, .ref (s.heap.size + 133)), (1, .ref (s.heap.size + 0)), (0, .ref b)]) hx hb dL_law_1147 hl (by decide) rfl (fun ls hl => ?_)
  refine lv_aload_n hx hb dL_law_1149 rfl (lv_at hl 4 rfl) ?_
  refine lv_aload_n hx hb dL_law_1150 rfl (lv_at hl 6 rfl) ?_
  refine lv_iload hx hb dL_law_1151 (lv_at hl 1 rfl) ?_
  refine r_iconst hx hb dL_law_1153 ?_
  refine r_iadd hx hb dL_law_1154 ?_
  refine r_sld hx hb G hXs hbl hL ⟨by omega, by omega⟩ h1 dL_law_1155 ?_
  refine lv_aload_n hx hb dL_law_1156 rfl (lv_at hl 6 rfl) ?_
  refine lv_iload hx hb dL_law_1157 (lv_at hl 1 rfl) ?_
  refine r_iconst hx hb dL_law_1159 ?_
  refine r_iadd hx hb dL_law_1160 ?_
  refine r_sld hx hb G hXs hbl hL ⟨by omega, by omega⟩ h2 dL_law_1161 ?_
  obtain ⟨r, ν, hM, st⟩ : ∃ r ν, CtI l yX6_kindOf (Cond.code yX6_kindOf cX6_kindOf 3 (some .int)) 5 115 (fun z => [.ref (z + 133), .int (kI a1), .int (kI a2)]) τ r ν ∧ ST κ r ν := ⟨_, _, k_X6_kindOf l (σ := τ) (k := a1) (w := a2) (rg1) (rg2) (hb2.1.g), by rw [hκ]; exact st_kindOf hR hτ⟩
  refine r_callVI ⟨hx, hb, hml, hown, hts⟩ G hM (kV_X6_kindOf hts qM_L_163 ⟨Nat.le_of_ble_eq_true rfl, Nat.le_of_ble_eq_true rfl⟩) (rc_X6 G) rfl rfl hl.1 rfl (Nat.le_of_ble_eq_true rfl) dL_law_1162 hcf (fun H locs G => ?_)
  refine lv_istore (lv' := [(7, .int (kI r)), (6, .int (kI κ)), (5, .int (kI (4 * (j : Int)))), (4, .ref (s.heap.size + 138)), (3, .ref (s.heap.size + 137)), (2, .ref (s.heap.size + 133)), (1, .ref (s.heap.size + 0)), (0, .ref b)]) hx hb dL_law_1165 hl (by decide) rfl (fun ls hl => ?_)
  refine lv_aload_n hx hb dL_law_1167 rfl (lv_at hl 5 rfl) ?_
  refine r_callVI ⟨hx, hb, hml, hown, hts⟩ G (k_X6_thrown l (σ := ν)) (kV_X6_thrown hts qM_L_105 ⟨Nat.le_of_ble_eq_true rfl, Nat.le_of_ble_eq_true rfl⟩) (rc_X6 G) rfl rfl hl.1 rfl (Nat.le_of_ble_eq_true rfl) dL_law_1168 hcf (fun H locs G => ?_)
  refine r_top (b := κ) st.1 ?_
  refine lv_iload hx hb dL_law_1171 (lv_at hl 1 rfl) ?_
  refine r_ieq (tgt := 1178) hx hb rfl dL_law_1173 (by decide) ?_
  refine lv_iload hx hb dL_law_1178 (lv_at hl 1 rfl) ?_
  have hkr := st.2.1
  refine r_if_ne (tgt := 1195) hx hb ⟨by omega, by omega⟩ dL_law_1180 (by decide) (fun _ => ?_) (fun hz0 => ?_)
  · skip
    refine lv_goto (tgt := 1840) hx hb dL_law_1195 (by decide) ?_
    exact kk _ _ _ _ G st.2.2.2 (lv_sub hl [2, 3, 4, 5, 6, 7] rfl)
  · skip
    refine lv_aload_n hx hb dL_law_1183 rfl (lv_at hl 4 rfl) ?_
    refine r_iconst hx hb dL_law_1184 ?_
    refine r_lald hx hb G dL_law_1185 ?_
    refine r_topL (b := Int64.ofInt (wr r)) (by rw [st.2.2.1 hz0]) ?_
    refine lv_iload hx hb dL_law_1186 (lv_at hl 0 rfl) ?_
    refine lv_i2l hx hb dL_law_1188 rfl ?_
    refine r_leq (tgt := 1195) hx hb rfl dL_law_1189 dL_law_1190 (by decide) ?_
    refine lv_goto (tgt := 1840) hx hb dL_law_1195 (by decide) ?_
    exact kk _ _ _ _ G st.2.2.2 (lv_sub hl [2, 3, 4, 5, 6, 7] rfl)
set_option maxRecDepth 100000 in
set_option maxHeartbeats 4000000 in
theorem lc_18 {p : Program} {e : Env} {s : State} {m : MethodId} {below : List Frame} {meth : Method} {c : Code} {H : Heap} {locs : List Loc} {ls : Array Slot} {D : va_G} {T : Nat → ClassId} {σ : Mem} {b L j k0 n0 : Nat} {xs : Nat → Int32} {Q : State → Prop} (l : Launch) (hst0 : l.stackTraces = false) (hF : Lf p s m meth c b L xs) (hv : Xv s) (G : Wd D T s.heap.size 139 σ s H locs) (hR : RG σ σ) (hj : 4 * j + 4 ≤ L) (hc : k0 + 2 ≤ 601024 ∧ n0 + 12 ≤ 7293034) {a1 : Int} (h1 : sx xs (4 * (j : Int) + 1) = a1) {a2 : Int} (h2 : sx xs (4 * (j : Int) + 2) = a2) (hl : lv_has ls 10 [(5, .int (kI (4 * (j : Int)))), (4, .ref (s.heap.size + 138)), (3, .ref (s.heap.size + 137)), (2, .ref (s.heap.size + 133)), (1, .ref (s.heap.size + 0)), (0, .ref b)]) (kk : ∀ (σ1 : Mem) (H1 : Heap) (locs1 : List Loc) (ls1 : Array Slot), Wd D T s.heap.size 139 σ1 s H1 locs1 → RG σ1 σ1 → lv_has ls1 10 [(5, .int (kI (4 * (j : Int)))), (4, .ref (s.heap.size + 138)), (3, .ref (s.heap.size + 137)), (2, .ref (s.heap.size + 133)), (1, .ref (s.heap.size + 0)), (0, .ref b)] → W p l e room_1 s m #[Value.ref b] below meth c H1 locs1 (k0 + 2) (n0 + 12) Q (F0 m 1840 ls1 [])) : W p l e room_1 s m #[Value.ref b] below meth c H locs k0 n0 Q (F0 m 1198 ls []) := by
  obtain ⟨hx, hb, hml, hown, hts, hXs, hbl, hL⟩ := hF
  have hcf : k0 + 2 ≤ room_1.cells ∧ n0 + 12 ≤ room_1.slots := hc
  have hcf0 : k0 ≤ room_1.cells ∧ n0 ≤ room_1.slots := ⟨by show k0 ≤ 601024; omega, by show n0 ≤ 7293034; omega⟩
  have rg1 : inR a1 := by rw [← h1]; exact sx_rg
  have rg2 : inR a2 := by rw [← h2]; exact sx_rg
  refine lv_aload_n hx hb dL_law_1198 rfl (lv_at hl 4 rfl) ?_
  refine lv_aload_n hx hb dL_law_1199 rfl (lv_at hl 5 rfl) ?_
  refine lv_iload hx hb dL_law_1200 (lv_at hl 0 rfl) ?_
  refine r_iconst hx hb dL_law_1202 ?_
  refine r_iadd hx hb dL_law_1203 ?_
  refine r_sld hx hb G hXs hbl hL ⟨by omega, by omega⟩ h1 dL_law_1204 ?_
  refine lv_aload_n hx hb dL_law_1205 rfl (lv_at hl 5 rfl) ?_
  refine lv_iload hx hb dL_law_1206 (lv_at hl 0 rfl) ?_
  refine r_iconst hx hb dL_law_1208 ?_
  refine r_iadd hx hb dL_law_1209 ?_
  refine r_sld hx hb G hXs hbl hL ⟨by omega, by omega⟩ h2 dL_law_1210 ?_
  refine lv_aload_n hx hb dL_law_1211 rfl (lv_at hl 2 rfl) ?_
  refine r_callW (na := 4) (own := RL) ⟨hx, hb, hml, hown, hts⟩ G hv (k_L_pile l hst0 (σ := σ) (k := a1) (q := a2) (rg1) (rg2) (hR.1.is)) qC_L_pile qM_L_164 qS_L_pile qN_L (by decide +kernel) ⟨Nat.le_of_ble_eq_true rfl, Nat.le_of_ble_eq_true rfl⟩ rfl rfl hl.1 rfl (Nat.le_of_ble_eq_true rfl) dL_law_1212 hcf (fun H locs G => ?_)
  obtain ⟨κ, hκ⟩ : ∃ κ, κ = thr (isK a1) (0 ≤ a2) := ⟨_, rfl⟩
  rw [← hκ]
  obtain ⟨τ, hτ⟩ : ∃ τ, τ = aft (isK a1) (0 ≤ a2) (σ) (kat σ a1 a2) σ := ⟨_, rfl⟩
  rw [← hτ] at G
  have x := hR.xc
  have hb2 : RG σ τ := by rw [hτ]; exact aft_rg hR (fun hq c a => rfl)
  refine lv_istore (lv' := [(6, .int (kI κ)), (5, .int (kI (4 * (j : Int)))), (4, .ref (s.heap.size + 138)), (3, .ref (s.heap.size + 137)), (2, .ref (s.heap.size + 133)), (1, .ref (s.heap.size + 0)), (0, .ref b)]) hx hb dL_law_1215 hl (by decide) rfl (fun ls hl => ?_)
  refine lv_aload_n hx hb dL_law_1217 rfl (lv_at hl 4 rfl) ?_
  refine lv_aload_n hx hb dL_law_1218 rfl (lv_at hl 6 rfl) ?_
  refine lv_iload hx hb dL_law_1219 (lv_at hl 1 rfl) ?_
  refine r_iconst hx hb dL_law_1221 ?_
  refine r_iadd hx hb dL_law_1222 ?_
  refine r_sld hx hb G hXs hbl hL ⟨by omega, by omega⟩ h1 dL_law_1223 ?_
  refine lv_aload_n hx hb dL_law_1224 rfl (lv_at hl 6 rfl) ?_
  refine lv_iload hx hb dL_law_1225 (lv_at hl 1 rfl) ?_
  refine r_iconst hx hb dL_law_1227 ?_
  refine r_iadd hx hb dL_law_1228 ?_
  refine r_sld hx hb G hXs hbl hL ⟨by omega, by omega⟩ h2 dL_law_1229 ?_
  obtain ⟨r, ν, hM, st⟩ : ∃ r ν, CtI l yX6_pile (Cond.code yX6_pile cX6_pile 3 (some .int)) 2 45 (fun z => [.ref (z + 133), .int (kI a1), .int (kI a2)]) τ r ν ∧ ST κ r ν := ⟨_, _, k_X6_pile l (σ := τ) (k := a1) (q := a2) (rg1) (rg2) (hb2.1.g), by rw [hκ]; exact st_pile hR hτ⟩
  refine r_callVI ⟨hx, hb, hml, hown, hts⟩ G hM (kV_X6_pile hts qM_L_166 ⟨Nat.le_of_ble_eq_true rfl, Nat.le_of_ble_eq_true rfl⟩) (rc_X6 G) rfl rfl hl.1 rfl (Nat.le_of_ble_eq_true rfl) dL_law_1230 hcf (fun H locs G => ?_)
  refine lv_istore (lv' := [(7, .int (kI r)), (6, .int (kI κ)), (5, .int (kI (4 * (j : Int)))), (4, .ref (s.heap.size + 138)), (3, .ref (s.heap.size + 137)), (2, .ref (s.heap.size + 133)), (1, .ref (s.heap.size + 0)), (0, .ref b)]) hx hb dL_law_1233 hl (by decide) rfl (fun ls hl => ?_)
  refine lv_aload_n hx hb dL_law_1235 rfl (lv_at hl 5 rfl) ?_
  refine r_callVI ⟨hx, hb, hml, hown, hts⟩ G (k_X6_thrown l (σ := ν)) (kV_X6_thrown hts qM_L_105 ⟨Nat.le_of_ble_eq_true rfl, Nat.le_of_ble_eq_true rfl⟩) (rc_X6 G) rfl rfl hl.1 rfl (Nat.le_of_ble_eq_true rfl) dL_law_1236 hcf (fun H locs G => ?_)
  refine r_top (b := κ) st.1 ?_
  refine lv_iload hx hb dL_law_1239 (lv_at hl 1 rfl) ?_
  refine r_ieq (tgt := 1246) hx hb rfl dL_law_1241 (by decide) ?_
  refine lv_iload hx hb dL_law_1246 (lv_at hl 1 rfl) ?_
  have hkr := st.2.1
  refine r_if_ne (tgt := 1263) hx hb ⟨by omega, by omega⟩ dL_law_1248 (by decide) (fun _ => ?_) (fun hz0 => ?_)
  · skip
    refine lv_goto (tgt := 1840) hx hb dL_law_1263 (by decide) ?_
    exact kk _ _ _ _ G st.2.2.2 (lv_sub hl [2, 3, 4, 5, 6, 7] rfl)
  · skip
    refine lv_aload_n hx hb dL_law_1251 rfl (lv_at hl 4 rfl) ?_
    refine r_iconst hx hb dL_law_1252 ?_
    refine r_lald hx hb G dL_law_1253 ?_
    refine r_topL (b := Int64.ofInt (wr r)) (by rw [st.2.2.1 hz0]) ?_
    refine lv_iload hx hb dL_law_1254 (lv_at hl 0 rfl) ?_
    refine lv_i2l hx hb dL_law_1256 rfl ?_
    refine r_leq (tgt := 1263) hx hb rfl dL_law_1257 dL_law_1258 (by decide) ?_
    refine lv_goto (tgt := 1840) hx hb dL_law_1263 (by decide) ?_
    exact kk _ _ _ _ G st.2.2.2 (lv_sub hl [2, 3, 4, 5, 6, 7] rfl)
set_option maxRecDepth 100000 in
set_option maxHeartbeats 4000000 in
theorem lc_19 {p : Program} {e : Env} {s : State} {m : MethodId} {below : List Frame} {meth : Method} {c : Code} {H : Heap} {locs : List Loc} {ls : Array Slot} {D : va_G} {T : Nat → ClassId} {σ : Mem} {b L j k0 n0 : Nat} {xs : Nat → Int32} {Q : State → Prop} (l : Launch) (hst0 : l.stackTraces = false) (hF : Lf p s m meth c b L xs) (hv : Xv s) (G : Wd D T s.heap.size 139 σ s H locs) (hR : RG σ σ) (hj : 4 * j + 4 ≤ L) (hc : k0 + 2 ≤ 601024 ∧ n0 + 12 ≤ 7293034) {a1 : Int} (h1 : sx xs (4 * (j : Int) + 1) = a1) (hl : lv_has ls 10 [(5, .int (kI (4 * (j : Int)))), (4, .ref (s.heap.size + 138)), (3, .ref (s.heap.size + 137)), (2, .ref (s.heap.size + 133)), (1, .ref (s.heap.size + 0)), (0, .ref b)]) (kk : ∀ (σ1 : Mem) (H1 : Heap) (locs1 : List Loc) (ls1 : Array Slot), Wd D T s.heap.size 139 σ1 s H1 locs1 → RG σ1 σ1 → lv_has ls1 10 [(5, .int (kI (4 * (j : Int)))), (4, .ref (s.heap.size + 138)), (3, .ref (s.heap.size + 137)), (2, .ref (s.heap.size + 133)), (1, .ref (s.heap.size + 0)), (0, .ref b)] → W p l e room_1 s m #[Value.ref b] below meth c H1 locs1 (k0 + 2) (n0 + 12) Q (F0 m 1840 ls1 [])) : W p l e room_1 s m #[Value.ref b] below meth c H locs k0 n0 Q (F0 m 1266 ls []) := by
  obtain ⟨hx, hb, hml, hown, hts, hXs, hbl, hL⟩ := hF
  have hcf : k0 + 2 ≤ room_1.cells ∧ n0 + 12 ≤ room_1.slots := hc
  have hcf0 : k0 ≤ room_1.cells ∧ n0 ≤ room_1.slots := ⟨by show k0 ≤ 601024; omega, by show n0 ≤ 7293034; omega⟩
  have rg1 : inR a1 := by rw [← h1]; exact sx_rg
  refine lv_aload_n hx hb dL_law_1266 rfl (lv_at hl 4 rfl) ?_
  refine lv_aload_n hx hb dL_law_1267 rfl (lv_at hl 5 rfl) ?_
  refine lv_iload hx hb dL_law_1268 (lv_at hl 0 rfl) ?_
  refine r_iconst hx hb dL_law_1270 ?_
  refine r_iadd hx hb dL_law_1271 ?_
  refine r_sld hx hb G hXs hbl hL ⟨by omega, by omega⟩ h1 dL_law_1272 ?_
  refine lv_aload_n hx hb dL_law_1273 rfl (lv_at hl 2 rfl) ?_
  refine r_callW (na := 3) (own := RL) ⟨hx, hb, hml, hown, hts⟩ G hv (k_L_count l hst0 (σ := σ) (w := a1) (rg1) (hR.1.is)) qC_L_count qM_L_167 qS_L_count qN_L (by decide +kernel) ⟨Nat.le_of_ble_eq_true rfl, Nat.le_of_ble_eq_true rfl⟩ rfl rfl hl.1 rfl (Nat.le_of_ble_eq_true rfl) dL_law_1274 hcf (fun H locs G => ?_)
  obtain ⟨κ, hκ⟩ : ∃ κ, κ = thr (0 ≤ a1 ∧ a1 ≤ 9) (True) := ⟨_, rfl⟩
  rw [← hκ]
  obtain ⟨τ, hτ⟩ : ∃ τ, τ = aft (0 ≤ a1 ∧ a1 ≤ 9) (True) (σ) (nof σ a1) σ := ⟨_, rfl⟩
  rw [← hτ] at G
  have x := hR.xc
  have hb2 : RG σ τ := by rw [hτ]; exact aft_rg hR (fun hq c a => rfl)
  refine lv_istore (lv' := [(6, .int (kI κ)), (5, .int (kI (4 * (j : Int)))), (4, .ref (s.heap.size + 138)), (3, .ref (s.heap.size + 137)), (2, .ref (s.heap.size + 133)), (1, .ref (s.heap.size + 0)), (0, .ref b)]) hx hb dL_law_1277 hl (by decide) rfl (fun ls hl => ?_)
  refine lv_aload_n hx hb dL_law_1279 rfl (lv_at hl 4 rfl) ?_
  refine lv_aload_n hx hb dL_law_1280 rfl (lv_at hl 6 rfl) ?_
  refine lv_iload hx hb dL_law_1281 (lv_at hl 1 rfl) ?_
  refine r_iconst hx hb dL_law_1283 ?_
  refine r_iadd hx hb dL_law_1284 ?_
  refine r_sld hx hb G hXs hbl hL ⟨by omega, by omega⟩ h1 dL_law_1285 ?_
  obtain ⟨r, ν, hM, st⟩ : ∃ r ν, CtI l yX6_count (Cond.code yX6_count cX6_count 2 (some .int)) 5 114 (fun z => [.ref (z + 133), .int (kI a1)]) τ r ν ∧ ST κ r ν := ⟨_, _, k_X6_count l (σ := τ) (w := a1) (rg1) (hb2.1.g), by rw [hκ]; exact st_count hR hτ⟩
  refine r_callVI ⟨hx, hb, hml, hown, hts⟩ G hM (kV_X6_count hts qM_L_169 ⟨Nat.le_of_ble_eq_true rfl, Nat.le_of_ble_eq_true rfl⟩) (rc_X6 G) rfl rfl hl.1 rfl (Nat.le_of_ble_eq_true rfl) dL_law_1286 hcf (fun H locs G => ?_)
  refine lv_istore (lv' := [(7, .int (kI r)), (6, .int (kI κ)), (5, .int (kI (4 * (j : Int)))), (4, .ref (s.heap.size + 138)), (3, .ref (s.heap.size + 137)), (2, .ref (s.heap.size + 133)), (1, .ref (s.heap.size + 0)), (0, .ref b)]) hx hb dL_law_1289 hl (by decide) rfl (fun ls hl => ?_)
  refine lv_aload_n hx hb dL_law_1291 rfl (lv_at hl 5 rfl) ?_
  refine r_callVI ⟨hx, hb, hml, hown, hts⟩ G (k_X6_thrown l (σ := ν)) (kV_X6_thrown hts qM_L_105 ⟨Nat.le_of_ble_eq_true rfl, Nat.le_of_ble_eq_true rfl⟩) (rc_X6 G) rfl rfl hl.1 rfl (Nat.le_of_ble_eq_true rfl) dL_law_1292 hcf (fun H locs G => ?_)
  refine r_top (b := κ) st.1 ?_
  refine lv_iload hx hb dL_law_1295 (lv_at hl 1 rfl) ?_
  refine r_ieq (tgt := 1302) hx hb rfl dL_law_1297 (by decide) ?_
  refine lv_iload hx hb dL_law_1302 (lv_at hl 1 rfl) ?_
  have hkr := st.2.1
  refine r_if_ne (tgt := 1319) hx hb ⟨by omega, by omega⟩ dL_law_1304 (by decide) (fun _ => ?_) (fun hz0 => ?_)
  · skip
    refine lv_goto (tgt := 1840) hx hb dL_law_1319 (by decide) ?_
    exact kk _ _ _ _ G st.2.2.2 (lv_sub hl [2, 3, 4, 5, 6, 7] rfl)
  · skip
    refine lv_aload_n hx hb dL_law_1307 rfl (lv_at hl 4 rfl) ?_
    refine r_iconst hx hb dL_law_1308 ?_
    refine r_lald hx hb G dL_law_1309 ?_
    refine r_topL (b := Int64.ofInt (wr r)) (by rw [st.2.2.1 hz0]) ?_
    refine lv_iload hx hb dL_law_1310 (lv_at hl 0 rfl) ?_
    refine lv_i2l hx hb dL_law_1312 rfl ?_
    refine r_leq (tgt := 1319) hx hb rfl dL_law_1313 dL_law_1314 (by decide) ?_
    refine lv_goto (tgt := 1840) hx hb dL_law_1319 (by decide) ?_
    exact kk _ _ _ _ G st.2.2.2 (lv_sub hl [2, 3, 4, 5, 6, 7] rfl)
set_option maxRecDepth 100000 in
set_option maxHeartbeats 4000000 in
theorem lc_20 {p : Program} {e : Env} {s : State} {m : MethodId} {below : List Frame} {meth : Method} {c : Code} {H : Heap} {locs : List Loc} {ls : Array Slot} {D : va_G} {T : Nat → ClassId} {σ : Mem} {b L j k0 n0 : Nat} {xs : Nat → Int32} {Q : State → Prop} (l : Launch) (hst0 : l.stackTraces = false) (hF : Lf p s m meth c b L xs) (hv : Xv s) (G : Wd D T s.heap.size 139 σ s H locs) (hR : RG σ σ) (hj : 4 * j + 4 ≤ L) (hc : k0 + 2 ≤ 601024 ∧ n0 + 12 ≤ 7293034) {a1 : Int} (h1 : sx xs (4 * (j : Int) + 1) = a1) (hl : lv_has ls 10 [(5, .int (kI (4 * (j : Int)))), (4, .ref (s.heap.size + 138)), (3, .ref (s.heap.size + 137)), (2, .ref (s.heap.size + 133)), (1, .ref (s.heap.size + 0)), (0, .ref b)]) (kk : ∀ (σ1 : Mem) (H1 : Heap) (locs1 : List Loc) (ls1 : Array Slot), Wd D T s.heap.size 139 σ1 s H1 locs1 → RG σ1 σ1 → lv_has ls1 10 [(5, .int (kI (4 * (j : Int)))), (4, .ref (s.heap.size + 138)), (3, .ref (s.heap.size + 137)), (2, .ref (s.heap.size + 133)), (1, .ref (s.heap.size + 0)), (0, .ref b)] → W p l e room_1 s m #[Value.ref b] below meth c H1 locs1 (k0 + 2) (n0 + 12) Q (F0 m 1840 ls1 [])) : W p l e room_1 s m #[Value.ref b] below meth c H locs k0 n0 Q (F0 m 1322 ls []) := by
  obtain ⟨hx, hb, hml, hown, hts, hXs, hbl, hL⟩ := hF
  have hcf : k0 + 2 ≤ room_1.cells ∧ n0 + 12 ≤ room_1.slots := hc
  have hcf0 : k0 ≤ room_1.cells ∧ n0 ≤ room_1.slots := ⟨by show k0 ≤ 601024; omega, by show n0 ≤ 7293034; omega⟩
  have rg1 : inR a1 := by rw [← h1]; exact sx_rg
  refine lv_aload_n hx hb dL_law_1322 rfl (lv_at hl 4 rfl) ?_
  refine lv_aload_n hx hb dL_law_1323 rfl (lv_at hl 5 rfl) ?_
  refine lv_iload hx hb dL_law_1324 (lv_at hl 0 rfl) ?_
  refine r_iconst hx hb dL_law_1326 ?_
  refine r_iadd hx hb dL_law_1327 ?_
  refine r_sld hx hb G hXs hbl hL ⟨by omega, by omega⟩ h1 dL_law_1328 ?_
  refine lv_aload_n hx hb dL_law_1329 rfl (lv_at hl 2 rfl) ?_
  refine r_callW (na := 3) (own := RL) ⟨hx, hb, hml, hown, hts⟩ G hv (k_L_setting l hst0 (σ := σ) (k := a1) (rg1)) qC_L_setting qM_L_170 qS_L_setting qN_L (by decide +kernel) ⟨Nat.le_of_ble_eq_true rfl, Nat.le_of_ble_eq_true rfl⟩ rfl rfl hl.1 rfl (Nat.le_of_ble_eq_true rfl) dL_law_1330 hcf (fun H locs G => ?_)
  obtain ⟨κ, hκ⟩ : ∃ κ, κ = thr (0 ≤ a1 ∧ a1 ≤ 2) (True) := ⟨_, rfl⟩
  rw [← hκ]
  obtain ⟨τ, hτ⟩ : ∃ τ, τ = aft (0 ≤ a1 ∧ a1 ≤ 2) (True) (σ) (σ 14 a1) σ := ⟨_, rfl⟩
  rw [← hτ] at G
  have x := hR.xc
  have hb2 : RG σ τ := by rw [hτ]; exact aft_rg hR (fun hq c a => rfl)
  refine lv_istore (lv' := [(6, .int (kI κ)), (5, .int (kI (4 * (j : Int)))), (4, .ref (s.heap.size + 138)), (3, .ref (s.heap.size + 137)), (2, .ref (s.heap.size + 133)), (1, .ref (s.heap.size + 0)), (0, .ref b)]) hx hb dL_law_1333 hl (by decide) rfl (fun ls hl => ?_)
  refine lv_aload_n hx hb dL_law_1335 rfl (lv_at hl 4 rfl) ?_
  refine lv_aload_n hx hb dL_law_1336 rfl (lv_at hl 6 rfl) ?_
  refine lv_iload hx hb dL_law_1337 (lv_at hl 1 rfl) ?_
  refine r_iconst hx hb dL_law_1339 ?_
  refine r_iadd hx hb dL_law_1340 ?_
  refine r_sld hx hb G hXs hbl hL ⟨by omega, by omega⟩ h1 dL_law_1341 ?_
  obtain ⟨r, ν, hM, st⟩ : ∃ r ν, CtI l yX6_setting (Cond.code yX6_setting cX6_setting 2 (some .int)) 1 22 (fun z => [.ref (z + 133), .int (kI a1)]) τ r ν ∧ ST κ r ν := ⟨_, _, k_X6_setting l (σ := τ) (k := a1) (rg1) (hb2.1.g), by rw [hκ]; exact st_setting hR hτ⟩
  refine r_callVI ⟨hx, hb, hml, hown, hts⟩ G hM (kV_X6_setting hts qM_L_172 ⟨Nat.le_of_ble_eq_true rfl, Nat.le_of_ble_eq_true rfl⟩) (rc_X6 G) rfl rfl hl.1 rfl (Nat.le_of_ble_eq_true rfl) dL_law_1342 hcf (fun H locs G => ?_)
  refine lv_istore (lv' := [(7, .int (kI r)), (6, .int (kI κ)), (5, .int (kI (4 * (j : Int)))), (4, .ref (s.heap.size + 138)), (3, .ref (s.heap.size + 137)), (2, .ref (s.heap.size + 133)), (1, .ref (s.heap.size + 0)), (0, .ref b)]) hx hb dL_law_1345 hl (by decide) rfl (fun ls hl => ?_)
  refine lv_aload_n hx hb dL_law_1347 rfl (lv_at hl 5 rfl) ?_
  refine r_callVI ⟨hx, hb, hml, hown, hts⟩ G (k_X6_thrown l (σ := ν)) (kV_X6_thrown hts qM_L_105 ⟨Nat.le_of_ble_eq_true rfl, Nat.le_of_ble_eq_true rfl⟩) (rc_X6 G) rfl rfl hl.1 rfl (Nat.le_of_ble_eq_true rfl) dL_law_1348 hcf (fun H locs G => ?_)
  refine r_top (b := κ) st.1 ?_
  refine lv_iload hx hb dL_law_1351 (lv_at hl 1 rfl) ?_
  refine r_ieq (tgt := 1358) hx hb rfl dL_law_1353 (by decide) ?_
  refine lv_iload hx hb dL_law_1358 (lv_at hl 1 rfl) ?_
  have hkr := st.2.1
  refine r_if_ne (tgt := 1375) hx hb ⟨by omega, by omega⟩ dL_law_1360 (by decide) (fun _ => ?_) (fun hz0 => ?_)
  · skip
    refine lv_goto (tgt := 1840) hx hb dL_law_1375 (by decide) ?_
    exact kk _ _ _ _ G st.2.2.2 (lv_sub hl [2, 3, 4, 5, 6, 7] rfl)
  · skip
    refine lv_aload_n hx hb dL_law_1363 rfl (lv_at hl 4 rfl) ?_
    refine r_iconst hx hb dL_law_1364 ?_
    refine r_lald hx hb G dL_law_1365 ?_
    refine r_topL (b := Int64.ofInt (wr r)) (by rw [st.2.2.1 hz0]) ?_
    refine lv_iload hx hb dL_law_1366 (lv_at hl 0 rfl) ?_
    refine lv_i2l hx hb dL_law_1368 rfl ?_
    refine r_leq (tgt := 1375) hx hb rfl dL_law_1369 dL_law_1370 (by decide) ?_
    refine lv_goto (tgt := 1840) hx hb dL_law_1375 (by decide) ?_
    exact kk _ _ _ _ G st.2.2.2 (lv_sub hl [2, 3, 4, 5, 6, 7] rfl)
set_option maxRecDepth 100000 in
set_option maxHeartbeats 4000000 in
theorem lc_21 {p : Program} {e : Env} {s : State} {m : MethodId} {below : List Frame} {meth : Method} {c : Code} {H : Heap} {locs : List Loc} {ls : Array Slot} {D : va_G} {T : Nat → ClassId} {σ : Mem} {b L j k0 n0 : Nat} {xs : Nat → Int32} {Q : State → Prop} (l : Launch) (hst0 : l.stackTraces = false) (hF : Lf p s m meth c b L xs) (hv : Xv s) (G : Wd D T s.heap.size 139 σ s H locs) (hR : RG σ σ) (hj : 4 * j + 4 ≤ L) (hc : k0 + 2 ≤ 601024 ∧ n0 + 12 ≤ 7293034) {a1 : Int} (h1 : sx xs (4 * (j : Int) + 1) = a1) (hl : lv_has ls 10 [(5, .int (kI (4 * (j : Int)))), (4, .ref (s.heap.size + 138)), (3, .ref (s.heap.size + 137)), (2, .ref (s.heap.size + 133)), (1, .ref (s.heap.size + 0)), (0, .ref b)]) (kk : ∀ (σ1 : Mem) (H1 : Heap) (locs1 : List Loc) (ls1 : Array Slot), Wd D T s.heap.size 139 σ1 s H1 locs1 → RG σ1 σ1 → lv_has ls1 10 [(5, .int (kI (4 * (j : Int)))), (4, .ref (s.heap.size + 138)), (3, .ref (s.heap.size + 137)), (2, .ref (s.heap.size + 133)), (1, .ref (s.heap.size + 0)), (0, .ref b)] → W p l e room_1 s m #[Value.ref b] below meth c H1 locs1 (k0 + 2) (n0 + 12) Q (F0 m 1840 ls1 [])) : W p l e room_1 s m #[Value.ref b] below meth c H locs k0 n0 Q (F0 m 1378 ls []) := by
  obtain ⟨hx, hb, hml, hown, hts, hXs, hbl, hL⟩ := hF
  have hcf : k0 + 2 ≤ room_1.cells ∧ n0 + 12 ≤ room_1.slots := hc
  have hcf0 : k0 ≤ room_1.cells ∧ n0 ≤ room_1.slots := ⟨by show k0 ≤ 601024; omega, by show n0 ≤ 7293034; omega⟩
  have rg1 : inR a1 := by rw [← h1]; exact sx_rg
  refine lv_aload_n hx hb dL_law_1378 rfl (lv_at hl 4 rfl) ?_
  refine lv_aload_n hx hb dL_law_1379 rfl (lv_at hl 5 rfl) ?_
  refine lv_iload hx hb dL_law_1380 (lv_at hl 0 rfl) ?_
  refine r_iconst hx hb dL_law_1382 ?_
  refine r_iadd hx hb dL_law_1383 ?_
  refine r_sld hx hb G hXs hbl hL ⟨by omega, by omega⟩ h1 dL_law_1384 ?_
  refine lv_aload_n hx hb dL_law_1385 rfl (lv_at hl 2 rfl) ?_
  refine r_callW (na := 3) (own := RL) ⟨hx, hb, hml, hown, hts⟩ G hv (k_L_ifAsked l hst0 (σ := σ) (k := a1) (rg1) (hR.1.is)) qC_L_ifAsked qM_L_173 qS_L_ifAsked qN_L (by decide +kernel) ⟨Nat.le_of_ble_eq_true rfl, Nat.le_of_ble_eq_true rfl⟩ rfl rfl hl.1 rfl (Nat.le_of_ble_eq_true rfl) dL_law_1386 hcf (fun H locs G => ?_)
  obtain ⟨κ, hκ⟩ : ∃ κ, κ = thr (isK a1) (True) := ⟨_, rfl⟩
  rw [← hκ]
  obtain ⟨τ, hτ⟩ : ∃ τ, τ = aft (isK a1) (True) (σ) (atr σ a1) σ := ⟨_, rfl⟩
  rw [← hτ] at G
  have x := hR.xc
  have hb2 : RG σ τ := by rw [hτ]; exact aft_rg hR (fun hq c a => rfl)
  refine lv_istore (lv' := [(6, .int (kI κ)), (5, .int (kI (4 * (j : Int)))), (4, .ref (s.heap.size + 138)), (3, .ref (s.heap.size + 137)), (2, .ref (s.heap.size + 133)), (1, .ref (s.heap.size + 0)), (0, .ref b)]) hx hb dL_law_1389 hl (by decide) rfl (fun ls hl => ?_)
  refine lv_aload_n hx hb dL_law_1391 rfl (lv_at hl 4 rfl) ?_
  refine lv_aload_n hx hb dL_law_1392 rfl (lv_at hl 6 rfl) ?_
  refine lv_iload hx hb dL_law_1393 (lv_at hl 1 rfl) ?_
  refine r_iconst hx hb dL_law_1395 ?_
  refine r_iadd hx hb dL_law_1396 ?_
  refine r_sld hx hb G hXs hbl hL ⟨by omega, by omega⟩ h1 dL_law_1397 ?_
  obtain ⟨r, ν, hM, st⟩ : ∃ r ν, CtI l yX6_ifAsked (Cond.code yX6_ifAsked cX6_ifAsked 2 (some .int)) 6 143 (fun z => [.ref (z + 133), .int (kI a1)]) τ r ν ∧ ST κ r ν := ⟨_, _, k_X6_ifAsked l (σ := τ) (k := a1) (rg1) (hb2.1.g), by rw [hκ]; exact st_ifAsked hR hτ⟩
  refine r_callVI ⟨hx, hb, hml, hown, hts⟩ G hM (kV_X6_ifAsked hts qM_L_175 ⟨Nat.le_of_ble_eq_true rfl, Nat.le_of_ble_eq_true rfl⟩) (rc_X6 G) rfl rfl hl.1 rfl (Nat.le_of_ble_eq_true rfl) dL_law_1398 hcf (fun H locs G => ?_)
  refine lv_istore (lv' := [(7, .int (kI r)), (6, .int (kI κ)), (5, .int (kI (4 * (j : Int)))), (4, .ref (s.heap.size + 138)), (3, .ref (s.heap.size + 137)), (2, .ref (s.heap.size + 133)), (1, .ref (s.heap.size + 0)), (0, .ref b)]) hx hb dL_law_1401 hl (by decide) rfl (fun ls hl => ?_)
  refine lv_aload_n hx hb dL_law_1403 rfl (lv_at hl 5 rfl) ?_
  refine r_callVI ⟨hx, hb, hml, hown, hts⟩ G (k_X6_thrown l (σ := ν)) (kV_X6_thrown hts qM_L_105 ⟨Nat.le_of_ble_eq_true rfl, Nat.le_of_ble_eq_true rfl⟩) (rc_X6 G) rfl rfl hl.1 rfl (Nat.le_of_ble_eq_true rfl) dL_law_1404 hcf (fun H locs G => ?_)
  refine r_top (b := κ) st.1 ?_
  refine lv_iload hx hb dL_law_1407 (lv_at hl 1 rfl) ?_
  refine r_ieq (tgt := 1414) hx hb rfl dL_law_1409 (by decide) ?_
  refine lv_iload hx hb dL_law_1414 (lv_at hl 1 rfl) ?_
  have hkr := st.2.1
  refine r_if_ne (tgt := 1431) hx hb ⟨by omega, by omega⟩ dL_law_1416 (by decide) (fun _ => ?_) (fun hz0 => ?_)
  · skip
    refine lv_goto (tgt := 1840) hx hb dL_law_1431 (by decide) ?_
    exact kk _ _ _ _ G st.2.2.2 (lv_sub hl [2, 3, 4, 5, 6, 7] rfl)
  · skip
    refine lv_aload_n hx hb dL_law_1419 rfl (lv_at hl 4 rfl) ?_
    refine r_iconst hx hb dL_law_1420 ?_
    refine r_lald hx hb G dL_law_1421 ?_
    refine r_topL (b := Int64.ofInt (wr r)) (by rw [st.2.2.1 hz0]) ?_
    refine lv_iload hx hb dL_law_1422 (lv_at hl 0 rfl) ?_
    refine lv_i2l hx hb dL_law_1424 rfl ?_
    refine r_leq (tgt := 1431) hx hb rfl dL_law_1425 dL_law_1426 (by decide) ?_
    refine lv_goto (tgt := 1840) hx hb dL_law_1431 (by decide) ?_
    exact kk _ _ _ _ G st.2.2.2 (lv_sub hl [2, 3, 4, 5, 6, 7] rfl)
set_option maxRecDepth 100000 in
set_option maxHeartbeats 4000000 in
theorem lc_22 {p : Program} {e : Env} {s : State} {m : MethodId} {below : List Frame} {meth : Method} {c : Code} {H : Heap} {locs : List Loc} {ls : Array Slot} {D : va_G} {T : Nat → ClassId} {σ : Mem} {b L j k0 n0 : Nat} {xs : Nat → Int32} {Q : State → Prop} (l : Launch) (hst0 : l.stackTraces = false) (hF : Lf p s m meth c b L xs) (hv : Xv s) (G : Wd D T s.heap.size 139 σ s H locs) (hR : RG σ σ) (hj : 4 * j + 4 ≤ L) (hc : k0 + 2 ≤ 601024 ∧ n0 + 12 ≤ 7293034) {a1 : Int} (h1 : sx xs (4 * (j : Int) + 1) = a1) (hl : lv_has ls 10 [(5, .int (kI (4 * (j : Int)))), (4, .ref (s.heap.size + 138)), (3, .ref (s.heap.size + 137)), (2, .ref (s.heap.size + 133)), (1, .ref (s.heap.size + 0)), (0, .ref b)]) (kk : ∀ (σ1 : Mem) (H1 : Heap) (locs1 : List Loc) (ls1 : Array Slot), Wd D T s.heap.size 139 σ1 s H1 locs1 → RG σ1 σ1 → lv_has ls1 10 [(5, .int (kI (4 * (j : Int)))), (4, .ref (s.heap.size + 138)), (3, .ref (s.heap.size + 137)), (2, .ref (s.heap.size + 133)), (1, .ref (s.heap.size + 0)), (0, .ref b)] → W p l e room_1 s m #[Value.ref b] below meth c H1 locs1 (k0 + 2) (n0 + 12) Q (F0 m 1840 ls1 [])) : W p l e room_1 s m #[Value.ref b] below meth c H locs k0 n0 Q (F0 m 1434 ls []) := by
  obtain ⟨hx, hb, hml, hown, hts, hXs, hbl, hL⟩ := hF
  have hcf : k0 + 2 ≤ room_1.cells ∧ n0 + 12 ≤ room_1.slots := hc
  have hcf0 : k0 ≤ room_1.cells ∧ n0 ≤ room_1.slots := ⟨by show k0 ≤ 601024; omega, by show n0 ≤ 7293034; omega⟩
  have rg1 : inR a1 := by rw [← h1]; exact sx_rg
  refine lv_aload_n hx hb dL_law_1434 rfl (lv_at hl 4 rfl) ?_
  refine lv_aload_n hx hb dL_law_1435 rfl (lv_at hl 5 rfl) ?_
  refine lv_iload hx hb dL_law_1436 (lv_at hl 0 rfl) ?_
  refine r_iconst hx hb dL_law_1438 ?_
  refine r_iadd hx hb dL_law_1439 ?_
  refine r_sld hx hb G hXs hbl hL ⟨by omega, by omega⟩ h1 dL_law_1440 ?_
  refine lv_aload_n hx hb dL_law_1441 rfl (lv_at hl 2 rfl) ?_
  refine r_callW (na := 3) (own := RL) ⟨hx, hb, hml, hown, hts⟩ G hv (k_L_keyIn l hst0 (σ := σ) (k := a1) (rg1) (hR.1.is)) qC_L_keyIn qM_L_176 qS_L_keyIn qN_L (by decide +kernel) ⟨Nat.le_of_ble_eq_true rfl, Nat.le_of_ble_eq_true rfl⟩ rfl rfl hl.1 rfl (Nat.le_of_ble_eq_true rfl) dL_law_1442 hcf (fun H locs G => ?_)
  obtain ⟨κ, hκ⟩ : ∃ κ, κ = thr (isK a1) (True) := ⟨_, rfl⟩
  rw [← hκ]
  obtain ⟨τ, hτ⟩ : ∃ τ, τ = aft (isK a1) (True) (σ) (dtk σ a1) σ := ⟨_, rfl⟩
  rw [← hτ] at G
  have x := hR.xc
  have hb2 : RG σ τ := by rw [hτ]; exact aft_rg hR (fun hq c a => rfl)
  refine lv_istore (lv' := [(6, .int (kI κ)), (5, .int (kI (4 * (j : Int)))), (4, .ref (s.heap.size + 138)), (3, .ref (s.heap.size + 137)), (2, .ref (s.heap.size + 133)), (1, .ref (s.heap.size + 0)), (0, .ref b)]) hx hb dL_law_1445 hl (by decide) rfl (fun ls hl => ?_)
  refine lv_aload_n hx hb dL_law_1447 rfl (lv_at hl 4 rfl) ?_
  refine lv_aload_n hx hb dL_law_1448 rfl (lv_at hl 6 rfl) ?_
  refine lv_iload hx hb dL_law_1449 (lv_at hl 1 rfl) ?_
  refine r_iconst hx hb dL_law_1451 ?_
  refine r_iadd hx hb dL_law_1452 ?_
  refine r_sld hx hb G hXs hbl hL ⟨by omega, by omega⟩ h1 dL_law_1453 ?_
  obtain ⟨r, ν, hM, st⟩ : ∃ r ν, CtI l yX6_keyIn (Cond.code yX6_keyIn cX6_keyIn 2 (some .int)) 6 145 (fun z => [.ref (z + 133), .int (kI a1)]) τ r ν ∧ ST κ r ν := ⟨_, _, k_X6_keyIn l (σ := τ) (k := a1) (rg1) (hb2.1.g), by rw [hκ]; exact st_keyIn hR hτ⟩
  refine r_callVI ⟨hx, hb, hml, hown, hts⟩ G hM (kV_X6_keyIn hts qM_L_178 ⟨Nat.le_of_ble_eq_true rfl, Nat.le_of_ble_eq_true rfl⟩) (rc_X6 G) rfl rfl hl.1 rfl (Nat.le_of_ble_eq_true rfl) dL_law_1454 hcf (fun H locs G => ?_)
  refine lv_istore (lv' := [(7, .int (kI r)), (6, .int (kI κ)), (5, .int (kI (4 * (j : Int)))), (4, .ref (s.heap.size + 138)), (3, .ref (s.heap.size + 137)), (2, .ref (s.heap.size + 133)), (1, .ref (s.heap.size + 0)), (0, .ref b)]) hx hb dL_law_1457 hl (by decide) rfl (fun ls hl => ?_)
  refine lv_aload_n hx hb dL_law_1459 rfl (lv_at hl 5 rfl) ?_
  refine r_callVI ⟨hx, hb, hml, hown, hts⟩ G (k_X6_thrown l (σ := ν)) (kV_X6_thrown hts qM_L_105 ⟨Nat.le_of_ble_eq_true rfl, Nat.le_of_ble_eq_true rfl⟩) (rc_X6 G) rfl rfl hl.1 rfl (Nat.le_of_ble_eq_true rfl) dL_law_1460 hcf (fun H locs G => ?_)
  refine r_top (b := κ) st.1 ?_
  refine lv_iload hx hb dL_law_1463 (lv_at hl 1 rfl) ?_
  refine r_ieq (tgt := 1470) hx hb rfl dL_law_1465 (by decide) ?_
  refine lv_iload hx hb dL_law_1470 (lv_at hl 1 rfl) ?_
  have hkr := st.2.1
  refine r_if_ne (tgt := 1487) hx hb ⟨by omega, by omega⟩ dL_law_1472 (by decide) (fun _ => ?_) (fun hz0 => ?_)
  · skip
    refine lv_goto (tgt := 1840) hx hb dL_law_1487 (by decide) ?_
    exact kk _ _ _ _ G st.2.2.2 (lv_sub hl [2, 3, 4, 5, 6, 7] rfl)
  · skip
    refine lv_aload_n hx hb dL_law_1475 rfl (lv_at hl 4 rfl) ?_
    refine r_iconst hx hb dL_law_1476 ?_
    refine r_lald hx hb G dL_law_1477 ?_
    refine r_topL (b := Int64.ofInt (wr r)) (by rw [st.2.2.1 hz0]) ?_
    refine lv_iload hx hb dL_law_1478 (lv_at hl 0 rfl) ?_
    refine lv_i2l hx hb dL_law_1480 rfl ?_
    refine r_leq (tgt := 1487) hx hb rfl dL_law_1481 dL_law_1482 (by decide) ?_
    refine lv_goto (tgt := 1840) hx hb dL_law_1487 (by decide) ?_
    exact kk _ _ _ _ G st.2.2.2 (lv_sub hl [2, 3, 4, 5, 6, 7] rfl)
set_option maxRecDepth 100000 in
set_option maxHeartbeats 4000000 in
theorem lc_23 {p : Program} {e : Env} {s : State} {m : MethodId} {below : List Frame} {meth : Method} {c : Code} {H : Heap} {locs : List Loc} {ls : Array Slot} {D : va_G} {T : Nat → ClassId} {σ : Mem} {b L j k0 n0 : Nat} {xs : Nat → Int32} {Q : State → Prop} (l : Launch) (hst0 : l.stackTraces = false) (hF : Lf p s m meth c b L xs) (hv : Xv s) (G : Wd D T s.heap.size 139 σ s H locs) (hR : RG σ σ) (hj : 4 * j + 4 ≤ L) (hc : k0 + 2 ≤ 601024 ∧ n0 + 12 ≤ 7293034) {a1 : Int} (h1 : sx xs (4 * (j : Int) + 1) = a1) {a2 : Int} (h2 : sx xs (4 * (j : Int) + 2) = a2) (hl : lv_has ls 10 [(5, .int (kI (4 * (j : Int)))), (4, .ref (s.heap.size + 138)), (3, .ref (s.heap.size + 137)), (2, .ref (s.heap.size + 133)), (1, .ref (s.heap.size + 0)), (0, .ref b)]) (kk : ∀ (σ1 : Mem) (H1 : Heap) (locs1 : List Loc) (ls1 : Array Slot), Wd D T s.heap.size 139 σ1 s H1 locs1 → RG σ1 σ1 → lv_has ls1 10 [(5, .int (kI (4 * (j : Int)))), (4, .ref (s.heap.size + 138)), (3, .ref (s.heap.size + 137)), (2, .ref (s.heap.size + 133)), (1, .ref (s.heap.size + 0)), (0, .ref b)] → W p l e room_1 s m #[Value.ref b] below meth c H1 locs1 (k0 + 2) (n0 + 12) Q (F0 m 1840 ls1 [])) : W p l e room_1 s m #[Value.ref b] below meth c H locs k0 n0 Q (F0 m 1490 ls []) := by
  obtain ⟨hx, hb, hml, hown, hts, hXs, hbl, hL⟩ := hF
  have hcf : k0 + 2 ≤ room_1.cells ∧ n0 + 12 ≤ room_1.slots := hc
  have hcf0 : k0 ≤ room_1.cells ∧ n0 ≤ room_1.slots := ⟨by show k0 ≤ 601024; omega, by show n0 ≤ 7293034; omega⟩
  have rg1 : inR a1 := by rw [← h1]; exact sx_rg
  have rg2 : inR a2 := by rw [← h2]; exact sx_rg
  refine lv_aload_n hx hb dL_law_1490 rfl (lv_at hl 4 rfl) ?_
  refine lv_aload_n hx hb dL_law_1491 rfl (lv_at hl 5 rfl) ?_
  refine lv_iload hx hb dL_law_1492 (lv_at hl 0 rfl) ?_
  refine r_iconst hx hb dL_law_1494 ?_
  refine r_iadd hx hb dL_law_1495 ?_
  refine r_sld hx hb G hXs hbl hL ⟨by omega, by omega⟩ h1 dL_law_1496 ?_
  refine lv_aload_n hx hb dL_law_1497 rfl (lv_at hl 5 rfl) ?_
  refine lv_iload hx hb dL_law_1498 (lv_at hl 0 rfl) ?_
  refine r_iconst hx hb dL_law_1500 ?_
  refine r_iadd hx hb dL_law_1501 ?_
  refine r_sld hx hb G hXs hbl hL ⟨by omega, by omega⟩ h2 dL_law_1502 ?_
  refine lv_aload_n hx hb dL_law_1503 rfl (lv_at hl 2 rfl) ?_
  refine r_callW (na := 4) (own := RL) ⟨hx, hb, hml, hown, hts⟩ G hv (k_L_coming l hst0 (σ := σ) (k := a1) (n := a2) (rg1) (rg2) (hR.1.is)) qC_L_coming qM_L_179 qS_L_coming qN_L (by decide +kernel) ⟨Nat.le_of_ble_eq_true rfl, Nat.le_of_ble_eq_true rfl⟩ rfl rfl hl.1 rfl (Nat.le_of_ble_eq_true rfl) dL_law_1504 hcf (fun H locs G => ?_)
  obtain ⟨κ, hκ⟩ : ∃ κ, κ = thr (isK a1) (1 ≤ a2 ∧ a2 ≤ 16) := ⟨_, rfl⟩
  rw [← hκ]
  obtain ⟨τ, hτ⟩ : ∃ τ, τ = aft (isK a1) (1 ≤ a2 ∧ a2 ≤ 16) (σ) (kor σ a1 a2) σ := ⟨_, rfl⟩
  rw [← hτ] at G
  have x := hR.xc
  have hb2 : RG σ τ := by rw [hτ]; exact aft_rg hR (fun hq c a => rfl)
  refine lv_istore (lv' := [(6, .int (kI κ)), (5, .int (kI (4 * (j : Int)))), (4, .ref (s.heap.size + 138)), (3, .ref (s.heap.size + 137)), (2, .ref (s.heap.size + 133)), (1, .ref (s.heap.size + 0)), (0, .ref b)]) hx hb dL_law_1507 hl (by decide) rfl (fun ls hl => ?_)
  refine lv_aload_n hx hb dL_law_1509 rfl (lv_at hl 4 rfl) ?_
  refine lv_aload_n hx hb dL_law_1510 rfl (lv_at hl 6 rfl) ?_
  refine lv_iload hx hb dL_law_1511 (lv_at hl 1 rfl) ?_
  refine r_iconst hx hb dL_law_1513 ?_
  refine r_iadd hx hb dL_law_1514 ?_
  refine r_sld hx hb G hXs hbl hL ⟨by omega, by omega⟩ h1 dL_law_1515 ?_
  refine lv_aload_n hx hb dL_law_1516 rfl (lv_at hl 6 rfl) ?_
  refine lv_iload hx hb dL_law_1517 (lv_at hl 1 rfl) ?_
  refine r_iconst hx hb dL_law_1519 ?_
  refine r_iadd hx hb dL_law_1520 ?_
  refine r_sld hx hb G hXs hbl hL ⟨by omega, by omega⟩ h2 dL_law_1521 ?_
  obtain ⟨r, ν, hM, st⟩ : ∃ r ν, CtI l yX6_coming (Cond.code yX6_coming cX6_coming 3 (some .int)) 6 146 (fun z => [.ref (z + 133), .int (kI a1), .int (kI a2)]) τ r ν ∧ ST κ r ν := ⟨_, _, k_X6_coming l (σ := τ) (k := a1) (n := a2) (rg1) (rg2) (⟨by decide, by decide⟩) (hb2.1.g), by rw [hκ]; exact st_coming hR hτ⟩
  refine r_callVI ⟨hx, hb, hml, hown, hts⟩ G hM (kV_X6_coming hts qM_L_181 ⟨Nat.le_of_ble_eq_true rfl, Nat.le_of_ble_eq_true rfl⟩) (rc_X6 G) rfl rfl hl.1 rfl (Nat.le_of_ble_eq_true rfl) dL_law_1522 hcf (fun H locs G => ?_)
  refine lv_istore (lv' := [(7, .int (kI r)), (6, .int (kI κ)), (5, .int (kI (4 * (j : Int)))), (4, .ref (s.heap.size + 138)), (3, .ref (s.heap.size + 137)), (2, .ref (s.heap.size + 133)), (1, .ref (s.heap.size + 0)), (0, .ref b)]) hx hb dL_law_1525 hl (by decide) rfl (fun ls hl => ?_)
  refine lv_aload_n hx hb dL_law_1527 rfl (lv_at hl 5 rfl) ?_
  refine r_callVI ⟨hx, hb, hml, hown, hts⟩ G (k_X6_thrown l (σ := ν)) (kV_X6_thrown hts qM_L_105 ⟨Nat.le_of_ble_eq_true rfl, Nat.le_of_ble_eq_true rfl⟩) (rc_X6 G) rfl rfl hl.1 rfl (Nat.le_of_ble_eq_true rfl) dL_law_1528 hcf (fun H locs G => ?_)
  refine r_top (b := κ) st.1 ?_
  refine lv_iload hx hb dL_law_1531 (lv_at hl 1 rfl) ?_
  refine r_ieq (tgt := 1538) hx hb rfl dL_law_1533 (by decide) ?_
  refine lv_iload hx hb dL_law_1538 (lv_at hl 1 rfl) ?_
  have hkr := st.2.1
  refine r_if_ne (tgt := 1555) hx hb ⟨by omega, by omega⟩ dL_law_1540 (by decide) (fun _ => ?_) (fun hz0 => ?_)
  · skip
    refine lv_goto (tgt := 1840) hx hb dL_law_1555 (by decide) ?_
    exact kk _ _ _ _ G st.2.2.2 (lv_sub hl [2, 3, 4, 5, 6, 7] rfl)
  · skip
    refine lv_aload_n hx hb dL_law_1543 rfl (lv_at hl 4 rfl) ?_
    refine r_iconst hx hb dL_law_1544 ?_
    refine r_lald hx hb G dL_law_1545 ?_
    refine r_topL (b := Int64.ofInt (wr r)) (by rw [st.2.2.1 hz0]) ?_
    refine lv_iload hx hb dL_law_1546 (lv_at hl 0 rfl) ?_
    refine lv_i2l hx hb dL_law_1548 rfl ?_
    refine r_leq (tgt := 1555) hx hb rfl dL_law_1549 dL_law_1550 (by decide) ?_
    refine lv_goto (tgt := 1840) hx hb dL_law_1555 (by decide) ?_
    exact kk _ _ _ _ G st.2.2.2 (lv_sub hl [2, 3, 4, 5, 6, 7] rfl)
set_option maxRecDepth 100000 in
set_option maxHeartbeats 4000000 in
theorem lc_24 {p : Program} {e : Env} {s : State} {m : MethodId} {below : List Frame} {meth : Method} {c : Code} {H : Heap} {locs : List Loc} {ls : Array Slot} {D : va_G} {T : Nat → ClassId} {σ : Mem} {b L j k0 n0 : Nat} {xs : Nat → Int32} {Q : State → Prop} (l : Launch) (hst0 : l.stackTraces = false) (hF : Lf p s m meth c b L xs) (hv : Xv s) (G : Wd D T s.heap.size 139 σ s H locs) (hR : RG σ σ) (hj : 4 * j + 4 ≤ L) (hc : k0 + 2 ≤ 601024 ∧ n0 + 12 ≤ 7293034) {a1 : Int} (h1 : sx xs (4 * (j : Int) + 1) = a1) (hl : lv_has ls 10 [(5, .int (kI (4 * (j : Int)))), (4, .ref (s.heap.size + 138)), (3, .ref (s.heap.size + 137)), (2, .ref (s.heap.size + 133)), (1, .ref (s.heap.size + 0)), (0, .ref b)]) (kk : ∀ (σ1 : Mem) (H1 : Heap) (locs1 : List Loc) (ls1 : Array Slot), Wd D T s.heap.size 139 σ1 s H1 locs1 → RG σ1 σ1 → lv_has ls1 10 [(5, .int (kI (4 * (j : Int)))), (4, .ref (s.heap.size + 138)), (3, .ref (s.heap.size + 137)), (2, .ref (s.heap.size + 133)), (1, .ref (s.heap.size + 0)), (0, .ref b)] → W p l e room_1 s m #[Value.ref b] below meth c H1 locs1 (k0 + 2) (n0 + 12) Q (F0 m 1840 ls1 [])) : W p l e room_1 s m #[Value.ref b] below meth c H locs k0 n0 Q (F0 m 1558 ls []) := by
  obtain ⟨hx, hb, hml, hown, hts, hXs, hbl, hL⟩ := hF
  have hcf : k0 + 2 ≤ room_1.cells ∧ n0 + 12 ≤ room_1.slots := hc
  have hcf0 : k0 ≤ room_1.cells ∧ n0 ≤ room_1.slots := ⟨by show k0 ≤ 601024; omega, by show n0 ≤ 7293034; omega⟩
  have rg1 : inR a1 := by rw [← h1]; exact sx_rg
  refine lv_aload_n hx hb dL_law_1558 rfl (lv_at hl 4 rfl) ?_
  refine lv_aload_n hx hb dL_law_1559 rfl (lv_at hl 5 rfl) ?_
  refine lv_iload hx hb dL_law_1560 (lv_at hl 0 rfl) ?_
  refine r_iconst hx hb dL_law_1562 ?_
  refine r_iadd hx hb dL_law_1563 ?_
  refine r_sld hx hb G hXs hbl hL ⟨by omega, by omega⟩ h1 dL_law_1564 ?_
  refine lv_aload_n hx hb dL_law_1565 rfl (lv_at hl 2 rfl) ?_
  refine r_callW (na := 3) (own := RL) ⟨hx, hb, hml, hown, hts⟩ G hv (k_L_longest l hst0 (σ := σ) (k := a1) (rg1) (hR.1.is)) qC_L_longest qM_L_182 qS_L_longest qN_L (by decide +kernel) ⟨Nat.le_of_ble_eq_true rfl, Nat.le_of_ble_eq_true rfl⟩ rfl rfl hl.1 rfl (Nat.le_of_ble_eq_true rfl) dL_law_1566 hcf (fun H locs G => ?_)
  obtain ⟨κ, hκ⟩ : ∃ κ, κ = thr (isK a1) (True) := ⟨_, rfl⟩
  rw [← hκ]
  obtain ⟨τ, hτ⟩ : ∃ τ, τ = aft (isK a1) (True) (σ) (lgs σ a1) σ := ⟨_, rfl⟩
  rw [← hτ] at G
  have x := hR.xc
  have hb2 : RG σ τ := by rw [hτ]; exact aft_rg hR (fun hq c a => rfl)
  refine lv_istore (lv' := [(6, .int (kI κ)), (5, .int (kI (4 * (j : Int)))), (4, .ref (s.heap.size + 138)), (3, .ref (s.heap.size + 137)), (2, .ref (s.heap.size + 133)), (1, .ref (s.heap.size + 0)), (0, .ref b)]) hx hb dL_law_1569 hl (by decide) rfl (fun ls hl => ?_)
  refine lv_aload_n hx hb dL_law_1571 rfl (lv_at hl 4 rfl) ?_
  refine lv_aload_n hx hb dL_law_1572 rfl (lv_at hl 6 rfl) ?_
  refine lv_iload hx hb dL_law_1573 (lv_at hl 1 rfl) ?_
  refine r_iconst hx hb dL_law_1575 ?_
  refine r_iadd hx hb dL_law_1576 ?_
  refine r_sld hx hb G hXs hbl hL ⟨by omega, by omega⟩ h1 dL_law_1577 ?_
  obtain ⟨r, ν, hM, st⟩ : ∃ r ν, CtI l yX6_longest (Cond.code yX6_longest cX6_longest 2 (some .int)) 3 70 (fun z => [.ref (z + 133), .int (kI a1)]) τ r ν ∧ ST κ r ν := ⟨_, _, k_X6_longest l (σ := τ) (k := a1) (rg1) (hb2.1.g), by rw [hκ]; exact st_longest hR hτ⟩
  refine r_callVI ⟨hx, hb, hml, hown, hts⟩ G hM (kV_X6_longest hts qM_L_184 ⟨Nat.le_of_ble_eq_true rfl, Nat.le_of_ble_eq_true rfl⟩) (rc_X6 G) rfl rfl hl.1 rfl (Nat.le_of_ble_eq_true rfl) dL_law_1578 hcf (fun H locs G => ?_)
  refine lv_istore (lv' := [(7, .int (kI r)), (6, .int (kI κ)), (5, .int (kI (4 * (j : Int)))), (4, .ref (s.heap.size + 138)), (3, .ref (s.heap.size + 137)), (2, .ref (s.heap.size + 133)), (1, .ref (s.heap.size + 0)), (0, .ref b)]) hx hb dL_law_1581 hl (by decide) rfl (fun ls hl => ?_)
  refine lv_aload_n hx hb dL_law_1583 rfl (lv_at hl 5 rfl) ?_
  refine r_callVI ⟨hx, hb, hml, hown, hts⟩ G (k_X6_thrown l (σ := ν)) (kV_X6_thrown hts qM_L_105 ⟨Nat.le_of_ble_eq_true rfl, Nat.le_of_ble_eq_true rfl⟩) (rc_X6 G) rfl rfl hl.1 rfl (Nat.le_of_ble_eq_true rfl) dL_law_1584 hcf (fun H locs G => ?_)
  refine r_top (b := κ) st.1 ?_
  refine lv_iload hx hb dL_law_1587 (lv_at hl 1 rfl) ?_
  refine r_ieq (tgt := 1594) hx hb rfl dL_law_1589 (by decide) ?_
  refine lv_iload hx hb dL_law_1594 (lv_at hl 1 rfl) ?_
  have hkr := st.2.1
  refine r_if_ne (tgt := 1611) hx hb ⟨by omega, by omega⟩ dL_law_1596 (by decide) (fun _ => ?_) (fun hz0 => ?_)
  · skip
    refine lv_goto (tgt := 1840) hx hb dL_law_1611 (by decide) ?_
    exact kk _ _ _ _ G st.2.2.2 (lv_sub hl [2, 3, 4, 5, 6, 7] rfl)
  · skip
    refine lv_aload_n hx hb dL_law_1599 rfl (lv_at hl 4 rfl) ?_
    refine r_iconst hx hb dL_law_1600 ?_
    refine r_lald hx hb G dL_law_1601 ?_
    refine r_topL (b := Int64.ofInt (wr r)) (by rw [st.2.2.1 hz0]) ?_
    refine lv_iload hx hb dL_law_1602 (lv_at hl 0 rfl) ?_
    refine lv_i2l hx hb dL_law_1604 rfl ?_
    refine r_leq (tgt := 1611) hx hb rfl dL_law_1605 dL_law_1606 (by decide) ?_
    refine lv_goto (tgt := 1840) hx hb dL_law_1611 (by decide) ?_
    exact kk _ _ _ _ G st.2.2.2 (lv_sub hl [2, 3, 4, 5, 6, 7] rfl)
set_option maxRecDepth 100000 in
set_option maxHeartbeats 4000000 in
theorem lc_25 {p : Program} {e : Env} {s : State} {m : MethodId} {below : List Frame} {meth : Method} {c : Code} {H : Heap} {locs : List Loc} {ls : Array Slot} {D : va_G} {T : Nat → ClassId} {σ : Mem} {b L j k0 n0 : Nat} {xs : Nat → Int32} {Q : State → Prop} (l : Launch) (hst0 : l.stackTraces = false) (hF : Lf p s m meth c b L xs) (hv : Xv s) (G : Wd D T s.heap.size 139 σ s H locs) (hR : RG σ σ) (hj : 4 * j + 4 ≤ L) (hc : k0 + 2 ≤ 601024 ∧ n0 + 12 ≤ 7293034) {a1 : Int} (h1 : sx xs (4 * (j : Int) + 1) = a1) {a2 : Int} (h2 : sx xs (4 * (j : Int) + 2) = a2) {a3 : Int} (h3 : sx xs (4 * (j : Int) + 3) = a3) (hl : lv_has ls 10 [(5, .int (kI (4 * (j : Int)))), (4, .ref (s.heap.size + 138)), (3, .ref (s.heap.size + 137)), (2, .ref (s.heap.size + 133)), (1, .ref (s.heap.size + 0)), (0, .ref b)]) (kk : ∀ (σ1 : Mem) (H1 : Heap) (locs1 : List Loc) (ls1 : Array Slot), Wd D T s.heap.size 139 σ1 s H1 locs1 → RG σ1 σ1 → lv_has ls1 10 [(5, .int (kI (4 * (j : Int)))), (4, .ref (s.heap.size + 138)), (3, .ref (s.heap.size + 137)), (2, .ref (s.heap.size + 133)), (1, .ref (s.heap.size + 0)), (0, .ref b)] → W p l e room_1 s m #[Value.ref b] below meth c H1 locs1 (k0 + 2) (n0 + 12) Q (F0 m 1840 ls1 [])) : W p l e room_1 s m #[Value.ref b] below meth c H locs k0 n0 Q (F0 m 1614 ls []) := by
  obtain ⟨hx, hb, hml, hown, hts, hXs, hbl, hL⟩ := hF
  have hcf : k0 + 2 ≤ room_1.cells ∧ n0 + 12 ≤ room_1.slots := hc
  have hcf0 : k0 ≤ room_1.cells ∧ n0 ≤ room_1.slots := ⟨by show k0 ≤ 601024; omega, by show n0 ≤ 7293034; omega⟩
  have rg1 : inR a1 := by rw [← h1]; exact sx_rg
  have rg2 : inR a2 := by rw [← h2]; exact sx_rg
  have rg3 : inR a3 := by rw [← h3]; exact sx_rg
  refine lv_aload_n hx hb dL_law_1614 rfl (lv_at hl 4 rfl) ?_
  refine lv_aload_n hx hb dL_law_1615 rfl (lv_at hl 5 rfl) ?_
  refine lv_iload hx hb dL_law_1616 (lv_at hl 0 rfl) ?_
  refine r_iconst hx hb dL_law_1618 ?_
  refine r_iadd hx hb dL_law_1619 ?_
  refine r_sld hx hb G hXs hbl hL ⟨by omega, by omega⟩ h1 dL_law_1620 ?_
  refine lv_aload_n hx hb dL_law_1621 rfl (lv_at hl 5 rfl) ?_
  refine lv_iload hx hb dL_law_1622 (lv_at hl 0 rfl) ?_
  refine r_iconst hx hb dL_law_1624 ?_
  refine r_iadd hx hb dL_law_1625 ?_
  refine r_sld hx hb G hXs hbl hL ⟨by omega, by omega⟩ h2 dL_law_1626 ?_
  refine lv_aload_n hx hb dL_law_1627 rfl (lv_at hl 5 rfl) ?_
  refine lv_iload hx hb dL_law_1628 (lv_at hl 0 rfl) ?_
  refine r_iconst hx hb dL_law_1630 ?_
  refine r_iadd hx hb dL_law_1631 ?_
  refine r_sld hx hb G hXs hbl hL ⟨by omega, by omega⟩ h3 dL_law_1632 ?_
  refine lv_aload_n hx hb dL_law_1633 rfl (lv_at hl 2 rfl) ?_
  refine r_callW (na := 5) (own := RL) ⟨hx, hb, hml, hown, hts⟩ G hv (k_L_ifFollowed l hst0 (σ := σ) (k := a1) (y := a2) (q := a3) (rg1) (rg2) (rg3) (hR.1.is)) qC_L_ifFollowed qM_L_185 qS_L_ifFollowed qN_L (by decide +kernel) ⟨Nat.le_of_ble_eq_true rfl, Nat.le_of_ble_eq_true rfl⟩ rfl rfl hl.1 rfl (Nat.le_of_ble_eq_true rfl) dL_law_1634 hcf (fun H locs G => ?_)
  obtain ⟨κ, hκ⟩ : ∃ κ, κ = thr (isY a1 a2) (1 ≤ a3) := ⟨_, rfl⟩
  rw [← hκ]
  obtain ⟨τ, hτ⟩ : ∃ τ, τ = aft (isY a1 a2) (1 ≤ a3) (σ) (jud σ a1 a2 a3) σ := ⟨_, rfl⟩
  rw [← hτ] at G
  have x := hR.xc
  have hb2 : RG σ τ := by rw [hτ]; exact aft_rg hR (fun hq c a => rfl)
  refine lv_istore (lv' := [(6, .int (kI κ)), (5, .int (kI (4 * (j : Int)))), (4, .ref (s.heap.size + 138)), (3, .ref (s.heap.size + 137)), (2, .ref (s.heap.size + 133)), (1, .ref (s.heap.size + 0)), (0, .ref b)]) hx hb dL_law_1637 hl (by decide) rfl (fun ls hl => ?_)
  refine lv_aload_n hx hb dL_law_1639 rfl (lv_at hl 4 rfl) ?_
  refine lv_aload_n hx hb dL_law_1640 rfl (lv_at hl 6 rfl) ?_
  refine lv_iload hx hb dL_law_1641 (lv_at hl 1 rfl) ?_
  refine r_iconst hx hb dL_law_1643 ?_
  refine r_iadd hx hb dL_law_1644 ?_
  refine r_sld hx hb G hXs hbl hL ⟨by omega, by omega⟩ h1 dL_law_1645 ?_
  refine lv_aload_n hx hb dL_law_1646 rfl (lv_at hl 6 rfl) ?_
  refine lv_iload hx hb dL_law_1647 (lv_at hl 1 rfl) ?_
  refine r_iconst hx hb dL_law_1649 ?_
  refine r_iadd hx hb dL_law_1650 ?_
  refine r_sld hx hb G hXs hbl hL ⟨by omega, by omega⟩ h2 dL_law_1651 ?_
  refine lv_aload_n hx hb dL_law_1652 rfl (lv_at hl 6 rfl) ?_
  refine lv_iload hx hb dL_law_1653 (lv_at hl 1 rfl) ?_
  refine r_iconst hx hb dL_law_1655 ?_
  refine r_iadd hx hb dL_law_1656 ?_
  refine r_sld hx hb G hXs hbl hL ⟨by omega, by omega⟩ h3 dL_law_1657 ?_
  obtain ⟨r, ν, hM, st⟩ : ∃ r ν, CtI l yX6_ifFollowed (Cond.code yX6_ifFollowed cX6_ifFollowed 4 (some .int)) 3 68 (fun z => [.ref (z + 133), .int (kI a1), .int (kI a2), .int (kI a3)]) τ r ν ∧ ST κ r ν := ⟨_, _, k_X6_ifFollowed l (σ := τ) (k := a1) (y := a2) (q := a3) (rg1) (rg2) (rg3) (hb2.1.g), by rw [hκ]; exact st_ifFollowed hR hτ⟩
  refine r_callVI ⟨hx, hb, hml, hown, hts⟩ G hM (kV_X6_ifFollowed hts qM_L_187 ⟨Nat.le_of_ble_eq_true rfl, Nat.le_of_ble_eq_true rfl⟩) (rc_X6 G) rfl rfl hl.1 rfl (Nat.le_of_ble_eq_true rfl) dL_law_1658 hcf (fun H locs G => ?_)
  refine lv_istore (lv' := [(7, .int (kI r)), (6, .int (kI κ)), (5, .int (kI (4 * (j : Int)))), (4, .ref (s.heap.size + 138)), (3, .ref (s.heap.size + 137)), (2, .ref (s.heap.size + 133)), (1, .ref (s.heap.size + 0)), (0, .ref b)]) hx hb dL_law_1661 hl (by decide) rfl (fun ls hl => ?_)
  refine lv_aload_n hx hb dL_law_1663 rfl (lv_at hl 5 rfl) ?_
  refine r_callVI ⟨hx, hb, hml, hown, hts⟩ G (k_X6_thrown l (σ := ν)) (kV_X6_thrown hts qM_L_105 ⟨Nat.le_of_ble_eq_true rfl, Nat.le_of_ble_eq_true rfl⟩) (rc_X6 G) rfl rfl hl.1 rfl (Nat.le_of_ble_eq_true rfl) dL_law_1664 hcf (fun H locs G => ?_)
  refine r_top (b := κ) st.1 ?_
  refine lv_iload hx hb dL_law_1667 (lv_at hl 1 rfl) ?_
  refine r_ieq (tgt := 1674) hx hb rfl dL_law_1669 (by decide) ?_
  refine lv_iload hx hb dL_law_1674 (lv_at hl 1 rfl) ?_
  have hkr := st.2.1
  refine r_if_ne (tgt := 1691) hx hb ⟨by omega, by omega⟩ dL_law_1676 (by decide) (fun _ => ?_) (fun hz0 => ?_)
  · skip
    refine lv_goto (tgt := 1840) hx hb dL_law_1691 (by decide) ?_
    exact kk _ _ _ _ G st.2.2.2 (lv_sub hl [2, 3, 4, 5, 6, 7] rfl)
  · skip
    refine lv_aload_n hx hb dL_law_1679 rfl (lv_at hl 4 rfl) ?_
    refine r_iconst hx hb dL_law_1680 ?_
    refine r_lald hx hb G dL_law_1681 ?_
    refine r_topL (b := Int64.ofInt (wr r)) (by rw [st.2.2.1 hz0]) ?_
    refine lv_iload hx hb dL_law_1682 (lv_at hl 0 rfl) ?_
    refine lv_i2l hx hb dL_law_1684 rfl ?_
    refine r_leq (tgt := 1691) hx hb rfl dL_law_1685 dL_law_1686 (by decide) ?_
    refine lv_goto (tgt := 1840) hx hb dL_law_1691 (by decide) ?_
    exact kk _ _ _ _ G st.2.2.2 (lv_sub hl [2, 3, 4, 5, 6, 7] rfl)
set_option maxRecDepth 100000 in
set_option maxHeartbeats 4000000 in
theorem lc_28 {p : Program} {e : Env} {s : State} {m : MethodId} {below : List Frame} {meth : Method} {c : Code} {H : Heap} {locs : List Loc} {ls : Array Slot} {D : va_G} {T : Nat → ClassId} {σ : Mem} {b L j k0 n0 : Nat} {xs : Nat → Int32} {Q : State → Prop} (l : Launch) (hst0 : l.stackTraces = false) (hF : Lf p s m meth c b L xs) (hv : Xv s) (G : Wd D T s.heap.size 139 σ s H locs) (hR : RG σ σ) (hj : 4 * j + 4 ≤ L) (hc : k0 + 2 ≤ 601024 ∧ n0 + 12 ≤ 7293034) {a1 : Int} (h1 : sx xs (4 * (j : Int) + 1) = a1) (hl : lv_has ls 10 [(5, .int (kI (4 * (j : Int)))), (4, .ref (s.heap.size + 138)), (3, .ref (s.heap.size + 137)), (2, .ref (s.heap.size + 133)), (1, .ref (s.heap.size + 0)), (0, .ref b)]) (kk : ∀ (σ1 : Mem) (H1 : Heap) (locs1 : List Loc) (ls1 : Array Slot), Wd D T s.heap.size 139 σ1 s H1 locs1 → RG σ1 σ1 → lv_has ls1 10 [(5, .int (kI (4 * (j : Int)))), (4, .ref (s.heap.size + 138)), (3, .ref (s.heap.size + 137)), (2, .ref (s.heap.size + 133)), (1, .ref (s.heap.size + 0)), (0, .ref b)] → W p l e room_1 s m #[Value.ref b] below meth c H1 locs1 (k0 + 2) (n0 + 12) Q (F0 m 1840 ls1 [])) : W p l e room_1 s m #[Value.ref b] below meth c H locs k0 n0 Q (F0 m 1748 ls []) := by
  obtain ⟨hx, hb, hml, hown, hts, hXs, hbl, hL⟩ := hF
  have hcf : k0 + 2 ≤ room_1.cells ∧ n0 + 12 ≤ room_1.slots := hc
  have hcf0 : k0 ≤ room_1.cells ∧ n0 ≤ room_1.slots := ⟨by show k0 ≤ 601024; omega, by show n0 ≤ 7293034; omega⟩
  have rg1 : inR a1 := by rw [← h1]; exact sx_rg
  refine lv_aload_n hx hb dL_law_1748 rfl (lv_at hl 4 rfl) ?_
  refine lv_aload_n hx hb dL_law_1749 rfl (lv_at hl 5 rfl) ?_
  refine lv_iload hx hb dL_law_1750 (lv_at hl 0 rfl) ?_
  refine r_iconst hx hb dL_law_1752 ?_
  refine r_iadd hx hb dL_law_1753 ?_
  refine r_sld hx hb G hXs hbl hL ⟨by omega, by omega⟩ h1 dL_law_1754 ?_
  refine lv_aload hx hb dL_law_1755 (lv_at hl 1 rfl) ?_
  refine r_callW (na := 3) (own := RL) ⟨hx, hb, hml, hown, hts⟩ G hv (k_L_meanAge l hst0 (σ := σ) (k := a1) (rg1) (hR.1.is)) qC_L_meanAge qM_L_197 qS_L_meanAge qN_L (by decide +kernel) ⟨Nat.le_of_ble_eq_true rfl, Nat.le_of_ble_eq_true rfl⟩ rfl rfl hl.1 rfl (Nat.le_of_ble_eq_true rfl) dL_law_1757 hcf (fun H locs G => ?_)
  obtain ⟨κ, hκ⟩ : ∃ κ, κ = thr (isK a1) (True) := ⟨_, rfl⟩
  rw [← hκ]
  obtain ⟨τ, hτ⟩ : ∃ τ, τ = if isK a1 ∧ True then up σ 138 0 ((FP.f2d (mnW (dsm σ a1) (hm σ a1 2))).toNat : Int) else σ := ⟨_, rfl⟩
  rw [← hτ] at G
  have x := hR.xc
  have hb2 : RG σ τ := by
    rw [hτ]; split
    · exact hR.m (fun _ _ _ => rfl) (fun q _ => by rw [up_ap, if_neg (by omega)]) (by rw [up_ap, if_neg (by omega)]) (by rw [up_ap, if_neg (by omega)]) (fun q => by rw [up_ap, if_neg (by omega)]) (fun q => by rw [up_ap, if_neg (by omega)])
    · exact hR
  refine lv_istore (lv' := [(6, .int (kI κ)), (5, .int (kI (4 * (j : Int)))), (4, .ref (s.heap.size + 138)), (3, .ref (s.heap.size + 137)), (2, .ref (s.heap.size + 133)), (1, .ref (s.heap.size + 0)), (0, .ref b)]) hx hb dL_law_1760 hl (by decide) rfl (fun ls hl => ?_)
  refine lv_aload_n hx hb dL_law_1762 rfl (lv_at hl 4 rfl) ?_
  refine lv_aload_n hx hb dL_law_1763 rfl (lv_at hl 6 rfl) ?_
  refine lv_iload hx hb dL_law_1764 (lv_at hl 1 rfl) ?_
  refine r_iconst hx hb dL_law_1766 ?_
  refine r_iadd hx hb dL_law_1767 ?_
  refine r_sld hx hb G hXs hbl hL ⟨by omega, by omega⟩ h1 dL_law_1768 ?_
  obtain ⟨r, ν, hM, st⟩ : ∃ r ν, CtF l yX6_meanAge (Cond.code yX6_meanAge cX6_meanAge 2 (some .float)) 3 68 (fun z => [.ref (z + 133), .int (kI a1)]) τ r ν ∧ SD κ r ν := ⟨_, _, k_X6_meanAge l (σ := τ) (k := a1) (rg1) (hb2.1.g), by rw [hκ]; exact st_mean hR hτ⟩
  refine r_callVF ⟨hx, hb, hml, hown, hts⟩ G hM (kV_X6_meanAge hts qM_L_200 ⟨Nat.le_of_ble_eq_true rfl, Nat.le_of_ble_eq_true rfl⟩) (rc_X6 G) rfl rfl hl.1 rfl (Nat.le_of_ble_eq_true rfl) dL_law_1769 hcf (fun H locs G => ?_)
  refine lv_fstore (lv' := [(7, .float r), (6, .int (kI κ)), (5, .int (kI (4 * (j : Int)))), (4, .ref (s.heap.size + 138)), (3, .ref (s.heap.size + 137)), (2, .ref (s.heap.size + 133)), (1, .ref (s.heap.size + 0)), (0, .ref b)]) hx hb dL_law_1772 hl (by decide) rfl (fun ls hl => ?_)
  refine lv_aload_n hx hb dL_law_1774 rfl (lv_at hl 5 rfl) ?_
  refine r_callVI ⟨hx, hb, hml, hown, hts⟩ G (k_X6_thrown l (σ := ν)) (kV_X6_thrown hts qM_L_105 ⟨Nat.le_of_ble_eq_true rfl, Nat.le_of_ble_eq_true rfl⟩) (rc_X6 G) rfl rfl hl.1 rfl (Nat.le_of_ble_eq_true rfl) dL_law_1775 hcf (fun H locs G => ?_)
  refine r_top (b := κ) st.1 ?_
  refine lv_iload hx hb dL_law_1778 (lv_at hl 1 rfl) ?_
  refine r_ieq (tgt := 1785) hx hb rfl dL_law_1780 (by decide) ?_
  refine lv_iload hx hb dL_law_1785 (lv_at hl 1 rfl) ?_
  have hkr := st.2.1
  refine r_if_ne (tgt := 1823) hx hb ⟨by omega, by omega⟩ dL_law_1787 (by decide) (fun _ => ?_) (fun hz0 => ?_)
  · skip
    refine lv_goto (tgt := 1840) hx hb dL_law_1823 (by decide) ?_
    exact kk _ _ _ _ G st.2.2.2 (lv_sub hl [2, 3, 4, 5, 6, 7] rfl)
  · skip
    refine lv_aload hx hb dL_law_1790 (lv_at hl 3 rfl) ?_
    refine r_iconst hx hb dL_law_1792 ?_
    have sd := st.2.2.1 hz0
    refine r_dald hx hb G dL_law_1793 sd.1 ?_
    refine lv_fload hx hb dL_law_1794 (lv_at hl 0 rfl) ?_
    refine lv_f2d hx hb dL_law_1796 sd.2.n2 ?_
    refine r_deq (tgt := 1823) hx hb rfl sd.2.dp dL_law_1797 dL_law_1798 (by decide) ?_
    refine lv_goto (tgt := 1840) hx hb dL_law_1823 (by decide) ?_
    exact kk _ _ _ _ G st.2.2.2 (lv_sub hl [2, 3, 4, 5, 6, 7] rfl)
set_option maxRecDepth 100000 in
set_option maxHeartbeats 4000000 in
theorem lc_10 {p : Program} {e : Env} {s : State} {m : MethodId} {below : List Frame} {meth : Method} {c : Code} {H : Heap} {locs : List Loc} {ls : Array Slot} {D : va_G} {T : Nat → ClassId} {σ : Mem} {b L j k0 n0 : Nat} {xs : Nat → Int32} {Q : State → Prop} (l : Launch) (hst0 : l.stackTraces = false) (hF : Lf p s m meth c b L xs) (hv : Xv s) (G : Wd D T s.heap.size 139 σ s H locs) (hR : RG σ σ) (hj : 4 * j + 4 ≤ L) (hc : k0 + 2 ≤ 601024 ∧ n0 + 12 ≤ 7293034)  (hl : lv_has ls 10 [(5, .int (kI (4 * (j : Int)))), (4, .ref (s.heap.size + 138)), (3, .ref (s.heap.size + 137)), (2, .ref (s.heap.size + 133)), (1, .ref (s.heap.size + 0)), (0, .ref b)]) (kk : ∀ (σ1 : Mem) (H1 : Heap) (locs1 : List Loc) (ls1 : Array Slot), Wd D T s.heap.size 139 σ1 s H1 locs1 → RG σ1 σ1 → lv_has ls1 10 [(5, .int (kI (4 * (j : Int)))), (4, .ref (s.heap.size + 138)), (3, .ref (s.heap.size + 137)), (2, .ref (s.heap.size + 133)), (1, .ref (s.heap.size + 0)), (0, .ref b)] → W p l e room_1 s m #[Value.ref b] below meth c H1 locs1 (k0 + 2) (n0 + 12) Q (F0 m 1840 ls1 [])) : W p l e room_1 s m #[Value.ref b] below meth c H locs k0 n0 Q (F0 m 824 ls []) := by
  obtain ⟨hx, hb, hml, hown, hts, hXs, hbl, hL⟩ := hF
  have hcf : k0 + 2 ≤ room_1.cells ∧ n0 + 12 ≤ room_1.slots := hc
  have hcf0 : k0 ≤ room_1.cells ∧ n0 ≤ room_1.slots := ⟨by show k0 ≤ 601024; omega, by show n0 ≤ 7293034; omega⟩
  refine lv_aload_n hx hb dL_law_824 rfl (lv_at hl 4 rfl) ?_
  refine r_callVI ⟨hx, hb, hml, hown, hts⟩ G (k_X5_clearBuffer l (σ := σ)) (kVp_X5_clearBuffer hts qM_L_137 ⟨Nat.le_of_ble_eq_true rfl, Nat.le_of_ble_eq_true rfl⟩) (rc_X5 G) rfl rfl hl.1 rfl (Nat.le_of_ble_eq_true rfl) dL_law_825 hcf0 (fun H locs G => ?_)
  refine lv_aload_n hx hb dL_law_828 rfl (lv_at hl 3 rfl) ?_
  refine r_callVI ⟨hx, hb, hml, hown, hts⟩ G (k_X6_clearBuffer l (σ := up σ 131 1 0)) (kV_X6_clearBuffer hts qM_L_140 ⟨Nat.le_of_ble_eq_true rfl, Nat.le_of_ble_eq_true rfl⟩) (rc_X6 G) rfl rfl hl.1 rfl (Nat.le_of_ble_eq_true rfl) dL_law_829 hcf0 (fun H locs G => ?_)
  refine r_ieq (tgt := 1840) hx hb ((st_clear hR).1) dL_law_832 (by decide) ?_
  refine W.widen (k := k0 + 2) (n := n0 + 12) (by omega) (by omega) ?_
  exact kk _ _ _ _ G (st_clear hR).2 (lv_sub hl [0, 1, 2, 3, 4, 5] rfl)
set_option maxRecDepth 100000 in
set_option maxHeartbeats 4000000 in
theorem lc_11 {p : Program} {e : Env} {s : State} {m : MethodId} {below : List Frame} {meth : Method} {c : Code} {H : Heap} {locs : List Loc} {ls : Array Slot} {D : va_G} {T : Nat → ClassId} {σ : Mem} {b L j k0 n0 : Nat} {xs : Nat → Int32} {Q : State → Prop} (l : Launch) (hst0 : l.stackTraces = false) (hF : Lf p s m meth c b L xs) (hv : Xv s) (G : Wd D T s.heap.size 139 σ s H locs) (hR : RG σ σ) (hj : 4 * j + 4 ≤ L) (hc : k0 + 2 ≤ 601024 ∧ n0 + 12 ≤ 7293034)  (hl : lv_has ls 10 [(5, .int (kI (4 * (j : Int)))), (4, .ref (s.heap.size + 138)), (3, .ref (s.heap.size + 137)), (2, .ref (s.heap.size + 133)), (1, .ref (s.heap.size + 0)), (0, .ref b)]) (kk : ∀ (σ1 : Mem) (H1 : Heap) (locs1 : List Loc) (ls1 : Array Slot), Wd D T s.heap.size 139 σ1 s H1 locs1 → RG σ1 σ1 → lv_has ls1 10 [(5, .int (kI (4 * (j : Int)))), (4, .ref (s.heap.size + 138)), (3, .ref (s.heap.size + 137)), (2, .ref (s.heap.size + 133)), (1, .ref (s.heap.size + 0)), (0, .ref b)] → W p l e room_1 s m #[Value.ref b] below meth c H1 locs1 (k0 + 2) (n0 + 12) Q (F0 m 1840 ls1 [])) : W p l e room_1 s m #[Value.ref b] below meth c H locs k0 n0 Q (F0 m 837 ls []) := by
  obtain ⟨hx, hb, hml, hown, hts, hXs, hbl, hL⟩ := hF
  have hcf : k0 + 2 ≤ room_1.cells ∧ n0 + 12 ≤ room_1.slots := hc
  have hcf0 : k0 ≤ room_1.cells ∧ n0 ≤ room_1.slots := ⟨by show k0 ≤ 601024; omega, by show n0 ≤ 7293034; omega⟩
  refine lv_aload_n hx hb dL_law_837 rfl (lv_at hl 4 rfl) ?_
  refine r_callVI ⟨hx, hb, hml, hown, hts⟩ G (k_X5_firstError l (σ := σ) hR.2.2.2.itt) (kVp_X5_firstError hts qM_L_141 ⟨Nat.le_of_ble_eq_true rfl, Nat.le_of_ble_eq_true rfl⟩) (rc_X5 G) rfl rfl hl.1 rfl (Nat.le_of_ble_eq_true rfl) dL_law_838 hcf0 (fun H locs G => ?_)
  refine lv_aload_n hx hb dL_law_841 rfl (lv_at hl 3 rfl) ?_
  refine r_callVI ⟨hx, hb, hml, hown, hts⟩ G (k_X6_firstError l (σ := σ) hR.2.2.2.ix) (kV_X6_firstError hts qM_L_144 ⟨Nat.le_of_ble_eq_true rfl, Nat.le_of_ble_eq_true rfl⟩) (rc_X6 G) rfl rfl hl.1 rfl (Nat.le_of_ble_eq_true rfl) dL_law_842 hcf0 (fun H locs G => ?_)
  refine r_ieq (tgt := 1840) hx hb ((st_first hR).1) dL_law_845 (by decide) ?_
  refine W.widen (k := k0 + 2) (n := n0 + 12) (by omega) (by omega) ?_
  exact kk _ _ _ _ G (st_first hR).2 (lv_sub hl [0, 1, 2, 3, 4, 5] rfl)
set_option maxRecDepth 100000 in
set_option maxHeartbeats 4000000 in
theorem lc_26 {p : Program} {e : Env} {s : State} {m : MethodId} {below : List Frame} {meth : Method} {c : Code} {H : Heap} {locs : List Loc} {ls : Array Slot} {D : va_G} {T : Nat → ClassId} {σ : Mem} {b L j k0 n0 : Nat} {xs : Nat → Int32} {Q : State → Prop} (l : Launch) (hst0 : l.stackTraces = false) (hF : Lf p s m meth c b L xs) (hv : Xv s) (G : Wd D T s.heap.size 139 σ s H locs) (hR : RG σ σ) (hj : 4 * j + 4 ≤ L) (hc : k0 + 2 ≤ 601024 ∧ n0 + 12 ≤ 7293034)  (hl : lv_has ls 10 [(5, .int (kI (4 * (j : Int)))), (4, .ref (s.heap.size + 138)), (3, .ref (s.heap.size + 137)), (2, .ref (s.heap.size + 133)), (1, .ref (s.heap.size + 0)), (0, .ref b)]) (kk : ∀ (σ1 : Mem) (H1 : Heap) (locs1 : List Loc) (ls1 : Array Slot), Wd D T s.heap.size 139 σ1 s H1 locs1 → RG σ1 σ1 → lv_has ls1 10 [(5, .int (kI (4 * (j : Int)))), (4, .ref (s.heap.size + 138)), (3, .ref (s.heap.size + 137)), (2, .ref (s.heap.size + 133)), (1, .ref (s.heap.size + 0)), (0, .ref b)] → W p l e room_1 s m #[Value.ref b] below meth c H1 locs1 (k0 + 2) (n0 + 12) Q (F0 m 1840 ls1 [])) : W p l e room_1 s m #[Value.ref b] below meth c H locs k0 n0 Q (F0 m 1694 ls []) := by
  obtain ⟨hx, hb, hml, hown, hts, hXs, hbl, hL⟩ := hF
  have hcf : k0 + 2 ≤ room_1.cells ∧ n0 + 12 ≤ room_1.slots := hc
  have hcf0 : k0 ≤ room_1.cells ∧ n0 ≤ room_1.slots := ⟨by show k0 ≤ 601024; omega, by show n0 ≤ 7293034; omega⟩
  refine lv_aload_n hx hb dL_law_1694 rfl (lv_at hl 4 rfl) ?_
  refine r_callVI ⟨hx, hb, hml, hown, hts⟩ G (k_X5_scarcest l (σ := σ) hR.1.is) (kVp_X5_scarcest hts qM_L_188 ⟨Nat.le_of_ble_eq_true rfl, Nat.le_of_ble_eq_true rfl⟩) (rc_X5 G) rfl rfl hl.1 rfl (Nat.le_of_ble_eq_true rfl) dL_law_1695 hcf0 (fun H locs G => ?_)
  refine lv_aload_n hx hb dL_law_1698 rfl (lv_at hl 3 rfl) ?_
  refine r_callVI ⟨hx, hb, hml, hown, hts⟩ G (k_X6_scarcest l (σ := σ) hR.1.g) (kV_X6_scarcest hts qM_L_191 ⟨Nat.le_of_ble_eq_true rfl, Nat.le_of_ble_eq_true rfl⟩) (rc_X6 G) rfl rfl hl.1 rfl (Nat.le_of_ble_eq_true rfl) dL_law_1699 hcf0 (fun H locs G => ?_)
  refine r_ieq (tgt := 1840) hx hb ((st_scarce hR).1) dL_law_1702 (by decide) ?_
  refine W.widen (k := k0 + 2) (n := n0 + 12) (by omega) (by omega) ?_
  exact kk _ _ _ _ G (st_scarce hR).2 (lv_sub hl [0, 1, 2, 3, 4, 5] rfl)
set_option maxRecDepth 100000 in
set_option maxHeartbeats 4000000 in
theorem lc_29 {p : Program} {e : Env} {s : State} {m : MethodId} {below : List Frame} {meth : Method} {c : Code} {H : Heap} {locs : List Loc} {ls : Array Slot} {D : va_G} {T : Nat → ClassId} {σ : Mem} {b L j k0 n0 : Nat} {xs : Nat → Int32} {Q : State → Prop} (l : Launch) (hst0 : l.stackTraces = false) (hF : Lf p s m meth c b L xs) (hv : Xv s) (G : Wd D T s.heap.size 139 σ s H locs) (hR : RG σ σ) (hj : 4 * j + 4 ≤ L) (hc : k0 + 2 ≤ 601024 ∧ n0 + 12 ≤ 7293034)  (hl : lv_has ls 10 [(5, .int (kI (4 * (j : Int)))), (4, .ref (s.heap.size + 138)), (3, .ref (s.heap.size + 137)), (2, .ref (s.heap.size + 133)), (1, .ref (s.heap.size + 0)), (0, .ref b)]) (kk : ∀ (σ1 : Mem) (H1 : Heap) (locs1 : List Loc) (ls1 : Array Slot), Wd D T s.heap.size 139 σ1 s H1 locs1 → RG σ1 σ1 → lv_has ls1 10 [(5, .int (kI (4 * (j : Int)))), (4, .ref (s.heap.size + 138)), (3, .ref (s.heap.size + 137)), (2, .ref (s.heap.size + 133)), (1, .ref (s.heap.size + 0)), (0, .ref b)] → W p l e room_1 s m #[Value.ref b] below meth c H1 locs1 (k0 + 2) (n0 + 12) Q (F0 m 1840 ls1 [])) : W p l e room_1 s m #[Value.ref b] below meth c H locs k0 n0 Q (F0 m 1826 ls []) := by
  obtain ⟨hx, hb, hml, hown, hts, hXs, hbl, hL⟩ := hF
  have hcf : k0 + 2 ≤ room_1.cells ∧ n0 + 12 ≤ room_1.slots := hc
  have hcf0 : k0 ≤ room_1.cells ∧ n0 ≤ room_1.slots := ⟨by show k0 ≤ 601024; omega, by show n0 ≤ 7293034; omega⟩
  refine lv_aload_n hx hb dL_law_1826 rfl (lv_at hl 4 rfl) ?_
  refine r_callVL ⟨hx, hb, hml, hown, hts⟩ G (k_X5_digest l (σ := σ) hR.1.is hR.2.2.2.itt (fun q a b => by have g := hR.2.2.1 q a b; omega)) (kVp_X5_digest hts qM_L_201 ⟨Nat.le_of_ble_eq_true rfl, Nat.le_of_ble_eq_true rfl⟩) (rc_X5 G) rfl rfl hl.1 rfl (Nat.le_of_ble_eq_true rfl) dL_law_1827 hcf0 (fun H locs G => ?_)
  refine lv_aload_n hx hb dL_law_1830 rfl (lv_at hl 3 rfl) ?_
  refine r_callVL ⟨hx, hb, hml, hown, hts⟩ G (k_X6_digest l (α := σ) (σ := σ) hR.1 ⟨hR.2.1.1, hR.2.1.2.1⟩ (fun q a b => ⟨(hR.2.2.1 q a b).1, (hR.2.2.1 q a b).2.1⟩) ⟨hR.2.2.2.1, hR.2.2.2.2.1, fun q a b => (hR.2.2.2.2.2 q a b).1⟩) (kV_X6_digest hts qM_L_205 ⟨Nat.le_of_ble_eq_true rfl, Nat.le_of_ble_eq_true rfl⟩) (rc_X6 G) rfl rfl hl.1 rfl (Nat.le_of_ble_eq_true rfl) dL_law_1831 hcf0 (fun H locs G => ?_)
  refine r_leq (tgt := 1840) hx hb (rfl) dL_law_1834 dL_law_1835 (by decide) ?_
  refine W.widen (k := k0 + 2) (n := n0 + 12) (by omega) (by omega) ?_
  exact kk _ _ _ _ G (st_digest hR) (lv_sub hl [0, 1, 2, 3, 4, 5] rfl)
set_option maxRecDepth 100000 in
set_option maxHeartbeats 4000000 in
theorem lc_27 {p : Program} {e : Env} {s : State} {m : MethodId} {below : List Frame} {meth : Method} {c : Code} {H : Heap} {locs : List Loc} {ls : Array Slot} {D : va_G} {T : Nat → ClassId} {σ : Mem} {b L j k0 n0 : Nat} {xs : Nat → Int32} {Q : State → Prop} (l : Launch) (hst0 : l.stackTraces = false) (hF : Lf p s m meth c b L xs) (hv : Xv s) (G : Wd D T s.heap.size 139 σ s H locs) (hR : RG σ σ) (hj : 4 * j + 4 ≤ L) (hc : k0 + 2 ≤ 601024 ∧ n0 + 12 ≤ 7293034)  (hl : lv_has ls 10 [(5, .int (kI (4 * (j : Int)))), (4, .ref (s.heap.size + 138)), (3, .ref (s.heap.size + 137)), (2, .ref (s.heap.size + 133)), (1, .ref (s.heap.size + 0)), (0, .ref b)]) (kk : ∀ (σ1 : Mem) (H1 : Heap) (locs1 : List Loc) (ls1 : Array Slot), Wd D T s.heap.size 139 σ1 s H1 locs1 → RG σ1 σ1 → lv_has ls1 10 [(5, .int (kI (4 * (j : Int)))), (4, .ref (s.heap.size + 138)), (3, .ref (s.heap.size + 137)), (2, .ref (s.heap.size + 133)), (1, .ref (s.heap.size + 0)), (0, .ref b)] → W p l e room_1 s m #[Value.ref b] below meth c H1 locs1 (k0 + 2) (n0 + 12) Q (F0 m 1840 ls1 [])) : W p l e room_1 s m #[Value.ref b] below meth c H locs k0 n0 Q (F0 m 1707 ls []) := by
  obtain ⟨hx, hb, hml, hown, hts, hXs, hbl, hL⟩ := hF
  have hcf : k0 + 2 ≤ room_1.cells ∧ n0 + 12 ≤ room_1.slots := hc
  have hcf0 : k0 ≤ room_1.cells ∧ n0 ≤ room_1.slots := ⟨by show k0 ≤ 601024; omega, by show n0 ≤ 7293034; omega⟩
  refine lv_aload_n hx hb dL_law_1707 rfl (lv_at hl 4 rfl) ?_
  have hsh := shW_ok (a := hra σ) (b := hma σ 2) (by have := hra_rg (σ := σ); omega) (by have := hma_rg (σ := σ) (w := 2); omega)
  have est := st_share hR
  obtain ⟨w1, hw1⟩ : ∃ w, w = shW (hra σ) (hma σ 2) := ⟨_, rfl⟩
  have hM1 := k_X5_ripeShare l (σ := σ) hR.1.is
  have hM2 := k_X6_ripeShare l (σ := σ) hR.1.g
  rw [est] at hM2
  rw [← hw1] at hM1 hM2 hsh
  refine r_callVD ⟨hx, hb, hml, hown, hts⟩ G hM1 (kVp_X5_ripeShare hts qM_L_192 ⟨Nat.le_of_ble_eq_true rfl, Nat.le_of_ble_eq_true rfl⟩) (rc_X5 G) rfl rfl hl.1 rfl (Nat.le_of_ble_eq_true rfl) dL_law_1708 hcf0 (fun H locs G => ?_)
  refine lv_dstore (lv' := [(6, .double w1), (5, .int (kI (4 * (j : Int)))), (4, .ref (s.heap.size + 138)), (3, .ref (s.heap.size + 137)), (2, .ref (s.heap.size + 133)), (1, .ref (s.heap.size + 0)), (0, .ref b)]) hx hb dL_law_1711 hl (by decide) rfl (fun ls hl => ?_)
  refine lv_aload_n hx hb dL_law_1713 rfl (lv_at hl 4 rfl) ?_
  refine r_callVD ⟨hx, hb, hml, hown, hts⟩ G hM2 (kV_X6_ripeShare hts qM_L_196 ⟨Nat.le_of_ble_eq_true rfl, Nat.le_of_ble_eq_true rfl⟩) (rc_X6 G) rfl rfl hl.1 rfl (Nat.le_of_ble_eq_true rfl) dL_law_1714 hcf0 (fun H locs G => ?_)
  refine lv_dstore (lv' := [(8, .double w1), (6, .double w1), (5, .int (kI (4 * (j : Int)))), (4, .ref (s.heap.size + 138)), (3, .ref (s.heap.size + 137)), (2, .ref (s.heap.size + 133)), (1, .ref (s.heap.size + 0)), (0, .ref b)]) hx hb dL_law_1717 hl (by decide) rfl (fun ls hl => ?_)
  refine lv_dload hx hb dL_law_1719 (lv_at hl 1 rfl) ?_
  refine lv_dload hx hb dL_law_1721 (lv_at hl 0 rfl) ?_
  refine r_deq (tgt := 1745) hx hb rfl hsh dL_law_1723 dL_law_1724 (by decide) ?_
  refine lv_goto (tgt := 1840) hx hb dL_law_1745 (by decide) ?_
  refine W.widen (k := k0 + 2) (n := n0 + 12) (by omega) (by omega) ?_
  exact kk _ _ _ _ G (st_scarce hR).2 (lv_sub hl [2, 3, 4, 5, 6, 7] rfl)
