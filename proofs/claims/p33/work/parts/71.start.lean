/-! THE LAW, whole -/
set_option maxRecDepth 100000 in
set_option maxHeartbeats 4000000 in
theorem law_case {p : Program} {e : Env} {s : State} {m : MethodId} {below : List Frame} {meth : Method} {c : Code} {H : Heap} {locs : List Loc} {ls : Array Slot} {D : va_G} {T : Nat → ClassId} {σ : Mem} {z b k0 n0 : Nat} {Q : State → Prop} {n i y u w : Int} (l : Launch) (hst0 : l.stackTraces = false) (hx : p.tables.exec = Jvm.exec) (hb : c.code = cL_law) (hml : c.maxLocals = 23) (hown : s.vm.findClass RL = some m.cls) (hts : ∀ w ∈ Gw, w.before #[Value.ref b] s = true) (hv : Xv s) (hT : hol T < z) (G : Wd D T z 133 σ s H locs) (hG : GI n σ) (hn : 0 ≤ n ∧ n ≤ 800) (hi : 0 ≤ i ∧ i ≤ 44) (hy : 0 ≤ y ∧ y ≤ 2147483647) (hu : u = y / 16) (hw : w = y % 16) (hc0 : k0 + 20 ≤ 600130 ∧ n0 + 120 ≤ 7301079) (hl : lv_has ls 23 [(0, .ref b), (1, .ref (z + 0)), (2, .int (kI 1)), (3, .int (kI i)), (4, .int (kI y)), (5, .int (kI u)), (6, .int (kI w)), (7, .int (kI (σ 15 1))), (8, .int (kI (u % 2))), (9, .int (kI (u / 4 % 8))), (10, .int (kI (σ 2 0))), (11, .int (kI (atr σ (u % 2)))), (12, .int (kI (kor σ (u % 2) 2))), (13, .int (kI (σ 9 (u % 2)))), (14, .int (kI (σ 12 (u % 2)))), (15, .int (kI (σ 4 (u % 2 * 16 + u / 4 % 8)))), (16, .int (kI (σ 5 (u % 2 * 16 + u / 4 % 8)))), (17, .int (kI (pok σ (u % 2) (u / 4 % 8) 3))), (18, .int (kI (jud σ (u % 2) (u / 4 % 8) (1 + u / 32 % 4)))), (19, .int (kI (σ 14 1))), (20, .int (kI (σ 14 2)))]) (kk : ∀ (σ1 : Mem) (H1 : Heap) (locs1 : List Loc) (ls1 : Array Slot), Wd D T z 133 σ1 s H1 locs1 → GI (n + 1) σ1 → lv_has ls1 23 [(3, .int (kI i)), (2, .int (kI 1)), (1, .ref (z + 0)), (0, .ref b), (8, .int (kI (u % 2)))] → W p l e room_1 s m #[Value.ref b] below meth c H1 locs1 (k0 + 20) (n0 + 120) Q (F0 m 882 ls1 [])) : W p l e room_1 s m #[Value.ref b] below meth c H locs k0 n0 Q (F0 m 276 ls []) := by
  by_cases c12 : 12 ≤ w
  · by_cases hga : atr σ (u % 2) < 100
    · exact lw_askg l hst0 hx hb hml hown hts hv hT G hG hn hi hy hu hw c12 hga hc0 hl kk
    · exact lw_askn l hst0 hx hb hml hown hts hv hT G hG hn hi hy hu hw c12 hga hc0 hl kk
  by_cases c8 : 8 ≤ w
  · by_cases hc : σ 4 (u % 2 * 16 + u / 4 % 8) = 1
    · by_cases hwo : σ 14 1 ≤ σ 5 (u % 2 * 16 + u / 4 % 8)
      · exact lw_delw l hst0 hx hb hml hown hts hv hT G hG hn hi hy hu hw ⟨c8, by omega⟩ hc hwo hc0 hl kk
      · exact lw_deln l hst0 hx hb hml hown hts hv hT G hG hn hi hy hu hw ⟨c8, by omega⟩ hc hwo hc0 hl kk
    · exact lw_delx l hst0 hx hb hml hown hts hv hT G hG hn hi hy hu hw ⟨c8, by omega⟩ hc hc0 hl kk
  by_cases c7 : w = 7
  · exact lw_fol l hst0 hx hb hml hown hts hv hT G hG hn hi hy hu hw c7 hc0 hl kk
  by_cases c5 : 5 ≤ w
  · exact lw_pas l hst0 hx hb hml hown hts hv hT G hG hn hi hy hu hw ⟨c5, by omega⟩ hc0 hl kk
  by_cases c4 : w = 4
  · by_cases hc : cbb σ (u % 2) (u / 4 % 8)
    · exact lw_brby l hst0 hx hb hml hown hts hv hT G hG hn hi hy hu hw c4 hc hc0 hl kk
    · exact lw_brbx l hst0 hx hb hml hown hts hv hT G hG hn hi hy hu hw c4 hc hc0 hl kk
  by_cases c3 : w = 3
  · by_cases hra : rag (pus σ) (u % 2) (u / 4 % 16) = 0
    · exact lw_wang l hst0 hx hb hml hown hts hv hT G hG hn hi hy hu hw c3 hra hc0 hl kk
    · exact lw_wann l hst0 hx hb hml hown hts hv hT G hG hn hi hy hu hw c3 hra hc0 hl kk
  by_cases c2 : w = 2
  · by_cases d0 : u % 3 = 0
    · exact lw_trn l hst0 hx hb hml hown hts hv hT G hG hn hi hy hu hw c2 d0 hc0 hl kk
    by_cases d1 : u % 3 = 1
    · by_cases hc : σ 130 (u / 3 % 2) = 1
      · exact lw_goby l hst0 hx hb hml hown hts hv hT G hG hn hi hy hu hw c2 d1 hc hc0 hl kk
      · exact lw_gobx l hst0 hx hb hml hown hts hv hT G hG hn hi hy hu hw c2 d1 hc hc0 hl kk
    · exact lw_kee l hst0 hx hb hml hown hts hv hT G hG hn hi hy hu hw c2 (by omega) hc0 hl kk
  by_cases c1 : w = 1
  · by_cases d0 : u % 3 = 0
    · exact lw_set0 l hst0 hx hb hml hown hts hv hT G hG hn hi hy hu hw c1 d0 hc0 hl kk
    by_cases d1 : u % 3 = 1
    · exact lw_set1 l hst0 hx hb hml hown hts hv hT G hG hn hi hy hu hw c1 d1 hc0 hl kk
    · exact lw_set2 l hst0 hx hb hml hown hts hv hT G hG hn hi hy hu hw c1 (by omega) hc0 hl kk
  exact lw_sea l hst0 hx hb hml hown hts hv hT G hG hn hi hy hu hw (by omega) hc0 hl kk
set_option maxRecDepth 100000 in
set_option maxHeartbeats 4000000 in
theorem law_loop {p : Program} {e : Env} {s : State} {m : MethodId} {below : List Frame} {meth : Method} {c : Code} {D : va_G} {T : Nat → ClassId} {z b L : Nat} {xs : Nat → Int32} (l : Launch) (hst0 : l.stackTraces = false) (hx : p.tables.exec = Jvm.exec) (hb : c.code = cL_law) (hml : c.maxLocals = 23) (hown : s.vm.findClass RL = some m.cls) (hts : ∀ w ∈ Gw, w.before #[Value.ref b] s = true) (hv : Xv s) (hT : hol T < z) (hX : va_X b L xs s s.heap) (hbl : b < s.heap.size) (hL : L ≤ 260) (hbz : b < z) (hz0 : s.heap.size ≤ z) (hr : meth.sig.returnType = ret) (hlk : meth.locks = false) : ∀ (d : Nat) (i : Int) (σ : Mem) (H : Heap) (locs : List Loc) (ls : Array Slot) (k0 n0 : Nat), 44 - i ≤ (d : Int) → 0 ≤ i → i ≤ 44 → (k0 : Int) ≤ 800 + 600 * i → (n0 : Int) ≤ 7000 + 3500 * i → Wd D T z 133 σ s H locs → GI i σ → lv_has ls 23 [(3, .int (kI i)), (2, .int (kI 1)), (1, .ref (z + 0)), (0, .ref b)] → W p l e room_1 s m #[Value.ref b] below meth c H locs k0 n0 (lw_Z below #[Value.ref b] s) (F0 m 112 ls []) := by
  intro d
  induction d with
  | zero =>
    intro i σ H locs ls k0 n0 hd0 h0 h1 hk0 hn0 G hG hl
    refine lv_iload_n hx hb dL_law_112 rfl (lv_at hl 0 rfl) ?_
    refine r_bipush hx hb dL_law_113 (by decide +kernel) ?_
    refine r_icmp_ge (tgt := 920) hx hb ⟨by omega, by omega⟩ ⟨by omega, by omega⟩ dL_law_115 (by decide) (fun h => lw_tail (Q := fun _ => True) l hst0 hx hb hml hown hts hv hT hX hbl hL hbz G hz0 hr hlk hG ⟨by omega, by omega⟩ ⟨by omega, by omega⟩ hl) (fun h => ?_)
    exact absurd h (by omega)
  | succ d ih =>
    intro i σ H locs ls k0 n0 hd0 h0 h1 hk0 hn0 G hG hl
    refine lv_iload_n hx hb dL_law_112 rfl (lv_at hl 0 rfl) ?_
    refine r_bipush hx hb dL_law_113 (by decide +kernel) ?_
    refine r_icmp_ge (tgt := 920) hx hb ⟨by omega, by omega⟩ ⟨by omega, by omega⟩ dL_law_115 (by decide) (fun h => lw_tail (Q := fun _ => True) l hst0 hx hb hml hown hts hv hT hX hbl hL hbz G hz0 hr hlk hG ⟨by omega, by omega⟩ ⟨by omega, by omega⟩ hl) (fun h => ?_)
    refine lv_iload_n hx hb dL_law_118 rfl (lv_at hl 1 rfl) ?_
    refine r_if_eq (tgt := 920) hx hb ⟨by decide, by decide⟩ dL_law_119 (by decide) (fun h => absurd h (by decide)) (fun _ => ?_)
    refine lw_obs l hst0 hx hb hml hown hts hv hT hX hbl hL hbz G hG ⟨by omega, by omega⟩ ⟨by omega, by omega⟩ ⟨by omega, by omega⟩ hl (fun y u w H1 locs1 ls1 hy hu hw G1 hl1 => ?_)
    refine law_case l hst0 hx hb hml hown hts hv hT G1 hG ⟨by omega, by omega⟩ ⟨by omega, by omega⟩ hy hu hw ⟨by omega, by omega⟩ hl1 (fun σ1 H2 locs2 ls2 G2 hG2 hl2 => ?_)
    refine lw_back l hst0 hx hb hml hown hts hv hT hX hbl hL hbz G2 (k := u % 2) ⟨by omega, by omega⟩ hG2 ⟨by omega, by omega⟩ ⟨by omega, by omega⟩ ⟨by omega, by omega⟩ hl2 (fun H3 locs3 ls3 G3 hl3 => ?_)
    exact ih (i + 1) σ1 H3 locs3 ls3 _ _ (by omega) (by omega) (by omega) (by omega) (by omega) G3 hG2 hl3
set_option maxRecDepth 100000 in
set_option maxHeartbeats 4000000 in
theorem whole_start {p : Program} {e : Env} {s : State} {m : MethodId} {below : List Frame} {meth : Method} {c : Code} (l : Launch) (hflags : l.flags = flags0) {b L : Nat} {xs : Nat → Int32} (hL : L ≤ 260) (C0 : lw_At p s m meth c b L xs) : W p l e room_1 s m #[Value.ref b] below meth c s.heap [] 0 0 (lw_Z below #[Value.ref b] s) (entryFrame m ([Value.ref b] : List Value).toArray 23) := by
  obtain ⟨hx, hcode, hr, hml, hown, hts, hX, hbl, hlk, hg⟩ := C0
  have hst0 : l.stackTraces = false := by unfold Launch.stackTraces; rw [hflags]; decide +kernel
  have hb : c.code = cL_law := hcode
  have hown : s.vm.findClass RL = some m.cls := hown
  have hGw : ∀ w ∈ Gw, w.before #[Value.ref b] s = true := fun w h => hts w (Gw_tbl h)
  have hxg := env_XG hts
  obtain ⟨D, T, hT0, hK⟩ := env_K hGw hxg
  have hEv := env_Ev (T := T) hts hg
  have hcur : s.vm.findClass RX5 = some (D.1 5) := (hK.1 5 _ rfl).2.1
  have hv := env_Xv hts hg hcur
  have hT : hol T < s.heap.size := by rw [hT0]; omega
  have G : Gd D T s.heap.size 0 (fun _ => .inr (0, [])) s s.heap [] := ⟨fun k q hq => by simp [gW] at hq, hK, va_S.rf, hEv, Nat.le_refl _, hT⟩
  have hl := lv_entry [Value.ref b] (n := 23) (Nat.le_of_ble_eq_true rfl)
  rw [lg_entry_eq]
  generalize ((lg_sl [Value.ref b] ++ List.replicate (23 - (lg_sl [Value.ref b]).length) Slot.unset).toArray) = ls at hl
  have hl : lv_has ls 23 [(0, .ref b)] := hl
  refine g_new hx hb hGw hown G (by omega) uX5 tyX5 tyX5_ok qK_L_10 qB_X5 qN_X5 (ci := 5) rfl (fs := [.null, .null, .null, .null, .null]) (fun j hj => by rcases (by omega : j = 0 ∨ j = 1 ∨ j = 2 ∨ j = 3 ∨ j = 4) with rfl | rfl | rfl | rfl | rfl <;> rfl) ⟨Nat.le_of_ble_eq_true rfl, Nat.le_of_ble_eq_true rfl⟩ dL_law_0 (fun H G => ?_)
  refine lv_dup hx hb dL_law_3 rfl ?_
  refine g_init (mc := 132) (ms := 2774) ⟨hx, hb, hml, hown, hGw⟩ hxg G (by omega) (k_X5_init l D T s.heap.size upE_s) qM_L_147 qI_X5_init qN_X5 qC_X5_init rfl (by decide +kernel) ⟨Nat.le_of_ble_eq_true rfl, Nat.le_of_ble_eq_true rfl⟩ hl.1 (Nat.le_of_ble_eq_true rfl) dL_law_4 ⟨Nat.le_of_ble_eq_true rfl, Nat.le_of_ble_eq_true rfl⟩ (fun H locs G => ?_)
  refine lv_astore_n (lv' := [(1, .ref (s.heap.size + 0)), (0, .ref b)]) hx hb dL_law_7 rfl hl (by decide) rfl (fun ls hl => ?_)
  have GW : Wd D T s.heap.size 133 σ0 s H locs := by
    have G2 := Gd.cong (F := fun c => shp T s.heap.size c (σ0 c)) G (fun c _ => ext_P (b := 0) (Nat.zero_le c))
    exact ⟨G2.1, G2.2.1, G2.2.2.1, G2.2.2.2.1, Nat.le_refl _, hT, Or.inl hT⟩
  refine lw_first (σ := σ0) (n := 0) (i := 0) l hst0 hx hb hml hown hGw hv hT hX hbl hL hbl GW GI_0 ⟨Nat.le_of_ble_eq_true rfl, Nat.le_of_ble_eq_true rfl⟩ hl (fun H1 locs1 ls1 G1 hl1 => ?_)
  exact law_loop l hst0 hx hb hml hown hGw hv hT hX hbl hL hbl (Nat.le_refl _) hr hlk 44 0 σ0 H1 locs1 ls1 _ _ (by decide) (by decide) (by decide) (by decide) (by decide) G1 GI_0 hl1
set_option maxHeartbeats 4000000 in
theorem lw_walk (l : Launch) (hflags : l.flags = flags0) (b : Addr) (xs : List Int32) : MetFree l x (headSpec (Jvm.Cond.code x code maxLocals ret :: tables_1) room_1) (lw_P b xs) (fun _ _ _ _ _ => True) lw_Q := by
  refine MetFree.of_bodyS (code := code) (maxLocals := maxLocals) (ret := ret) (by decide) ?_ ?_
  · intro args s m h hn
    obtain ⟨meth, c, h1, h2, h3, h4, h5, h6, -, -⟩ := Cond.code_spec hn (atoms_spec (ws := Jvm.Cond.code x code maxLocals ret :: tables_1) h _ List.mem_cons_self)
    exact ⟨meth, c, h1, h2, h3, h4, h5, h6⟩
  · intro p e s m args below meth c s₁ B hml0 hP _
    obtain ⟨rfl, hx, hbd, hgv⟩ := hP
    obtain ⟨scr, harrAt, hlist, hof, hsmall⟩ := hx
    obtain ⟨hcb, hkn, -, -⟩ := State.arrayAt?_spec harrAt
    have hown : s.vm.findClass R_law = some m.cls := findClass_of_methodNamed B.named
    have hts0 : ∀ c ∈ (Jvm.Cond.code x code maxLocals ret :: tables_1), c.before #[Value.ref b] s = true := atoms_spec (ws := Jvm.Cond.code x code maxLocals ret :: tables_1) B.pre
    have hts : ∀ w ∈ lw_tbl, w.before #[Value.ref b] s = true := k2_hts_sels lw_privs (fun w hw => hts0 w (List.mem_cons_of_mem _ hw)) lw_privs_ok
    have hml : c.maxLocals = 23 := B.maxLocals_eq (hts0 _ List.mem_cons_self)
    have X₀ : Stand p l e room_1 s m #[Value.ref b] below meth c s₁ [] 0 0 := Stand.of_body B
    have hh0 : s₁.heap = s.heap := by rw [B.state]; rfl
    have hsz : scr.slots.size = xs.length := by rw [← Array.length_toList, hlist, List.length_map]
    have hval : ∀ j : Nat, j < xs.length → scr.slots[j]? = some (.int (xs.getD j 0)) := fun j hj => by
      rw [← Array.getElem?_toList, hlist]
      simp [hj]
    have hbl : b < s.heap.size := (Array.getElem?_eq_some_iff.mp hcb).1
    have hX : va_X b xs.length (fun j => xs.getD j 0) s s.heap := ⟨scr, hcb, hof, hkn, hsz, hval⟩
    have K : W p l e room_1 s m #[Value.ref b] below meth c s₁.heap [] 0 0 (lw_Z below #[Value.ref b] s) (entryFrame m ([Value.ref b] : List Value).toArray 23) := by
      rw [hh0]
      exact whole_start l hflags hbd ⟨B.exec, B.bytes, B.returns, hml, hown, hts, hX, hbl, B.notSynchronized, hgv⟩
    obtain ⟨t, a1, o, b1, b2, b3⟩ := K s₁ rfl X₀
    exact ⟨t, o, a1, b1, b2, b3⟩
theorem lw_pre_spec {args : Array Value} {s : State} (h : (Jvm.Cond.and given_1 narrow_1).before args s = true) (hr : rest_1_c.before args s = true) : ∃ (b : Addr) (xs : List Int32), lw_P b xs args s := by
  have hs := flat_of_before _ h
  have hq := flat_of_before _ hr
  have hc : (Cond.count 1).before args s = true := hs _ (by decide +kernel)
  have harr : (Cond.arrayOf (.arg 0) .int).before args s = true := hs _ (by decide +kernel)
  have hle : (Cond.le (.length (.arg 0)) (.int 260)).before args s = true := hs _ (by decide +kernel)
  have hlen : (Cond.isInt (.length (.arg 0))).before args s = true := hq _ (by decide +kernel)
  have hall : (Cond.all (.arg 0) (.isInt (.elem (.arg 0) (.index 0)))).before args s = true := hq _ (by decide +kernel)
  obtain ⟨b, xs, hb, hx⟩ := State.ints_of_pre rfl harr hlen hall
  have hsm : xs.length < 2 ^ 31 := hx.choose_spec.2.2.2
  have hev : (Term.length (.arg 0)).eval args s none [] s = some (.int xs.length.toInt32) := hx.length_eval hb
  have hv := Cond.le_ints hev (show (Term.int 260).eval args s none [] s = some (.int 260) from rfl)
  have hd : xs.length.toInt32 ≤ 260 := by
    simpa [Cond.before, Cond.holds, hv] using hle
  have hN : xs.length ≤ 260 := (Int32.ofNat_le_ofNat hsm (by decide)).mp (show Int32.ofNat xs.length ≤ Int32.ofNat 260 from hd)
  exact ⟨b, xs, Cond.one_arg hc (show args[0]? = some (.ref b) from hb), hx, hN, h⟩
theorem lw_comes (l : Launch) (hflags : l.flags = flags0) : Comes l x (Jvm.Cond.code x code maxLocals ret :: tables_1) room_1 (fun tb e args s => Calls_1 tb e args s ∧ rest_1 tb e args s ∧ Pre_1 tb e args s)
    (fun _ _ args s o t => lw_Q args s o t) := by
  intro p e ha hc hk s m args below hf hfit hheap happ hpre
  obtain ⟨b, xs, hP⟩ := lw_pre_spec hpre.2.2 hpre.2.1
  obtain ⟨k, o, h1, h2, h3, hQ⟩ := lw_walk l hflags b xs p e ha hc hk s m args below hf ((Spec.applies_iff_loose hf).mp happ).1 hP trivial
  exact ⟨k, o, h1, h2, h3, hQ⟩
theorem lw_frame {s t : State} {o : Outcome} {args : Array Value} (h : State.butDraws s t lw_cs (fun t1 => Framed s o t1 [] 600130 7301079)) :
    State.butDraws s t [Jvm.Choice.named "NaN.bits"] (fun t1 => Framed s o t1 (fieldLocs frame_1_writes args s ++ arrayLocs frame_1_arrays args s ++ staticLocs frame_1_statics s) 600130 7301079) := h
theorem lw_limb (L : Cond) (hL : ∀ (args : Array Value) (s t : State), L.after args s (.returned (some (.int 1))) t = true) :
    ArmFor flags0 classFile x code maxLocals ret World_1 tables_1 room_1 Calls_1 rest_1 Pre_1
      (fun tb e a s o t => postC L tb e a s o t ∧ State.butDraws s t [Jvm.Choice.named "NaN.bits"] (fun t1 => Framed s o t1 (fieldLocs frame_1_writes a s ++ arrayLocs frame_1_arrays a s ++ staticLocs frame_1_statics s) 600130 7301079)) := by
  intro l hflags _ _ p e ha hc hk s m args below hf hfit hheap happ hpre
  obtain ⟨k, o, h1, h2, h3, rfl, hF⟩ := lw_comes l hflags p e ha hc hk s m args below hf hfit hheap happ hpre
  exact ⟨k, _, h1, h2, h3, hL args s _, lw_frame hF⟩
theorem i_vc : Claimed_1_1 ∧ Claimed_1_2 := ⟨lw_limb limb_1_1 (fun args s t => by simp [limb_1_1, Cond.after, Cond.holds, Cond.value]), lw_limb limb_1_2 (fun args s t => Cond.after_iff.mpr (by
  first | (rw [show limb_1_2 = Cond.eq .result (.int 1) from rfl, Cond.eq_ints (x := 1) (y := 1) rfl rfl]; simp; done) | (simp [limb_1_2, Cond.value, Term.eval]; done)))⟩
