/-! THE LAW'S OWN CALLS of the class, each caught -/
def CtW (l : Launch) (y : MethodName) (cw : Cond) (fr lo : Nat) (As : Nat → List Value) (σ : Mem) (ret : Int) (τ : Mem) : Prop := ∀ (D : va_G) (T : Nat → ClassId) (z : Nat), Met l y (cw :: Gw) (rmX fr lo 2 12) (va_Pc (As z) (fun U => St D T z 139 σ U ∧ Xv U)) (QI D T z 139 ret τ) 2 12 (Own z)
theorem CtW_of {l : Launch} {y : MethodName} {cc : ByteArray} {maxL : Nat} {ret : Option FieldType} {hh : List (Nat × Nat × Nat × Nat)} {fr lo : Nat} {As : List Value} {D : va_G} {T : Nat → ClassId} {z : Nat} {σ : Mem} {Qc : Array Value → State → Outcome → State → Prop} (hy : plainName y.cls = true) (hA : (lg_sl As).length ≤ maxL)
    (body : ∀ (p : Program) (e : Env) (s : State) (m : MethodId) (below : List Frame) (meth : Method) (c : Code) (ls : Array Slot), p.tables.exec = Jvm.exec → c.code = cc → c.maxLocals = maxL → meth.sig.returnType = ret → (∀ w ∈ Gw, w.before As.toArray s = true) → s.vm.findClass y.cls = some m.cls → meth.locks = false → Wd D T z 139 σ s s.heap [] → lv_has ls maxL (lv_args 0 As) → Xv s → c.exceptionTable.toList = tableOf hh →
      W p l e (rmX fr lo 2 12) s m As.toArray below meth c s.heap [] 0 0 (MQ below Qc As.toArray s 2 12 (Own z)) (F0 m 0 ls [])) :
    Met l y (Cond.codeWith y cc maxL ret hh :: Gw) (rmX fr lo 2 12) (va_Pc As (fun U => St D T z 139 σ U ∧ Xv U)) Qc 2 12 (Own z) := by
  refine va_MetW (cc := cc) (maxL := maxL) (ret := ret) (hh := hh) hy rfl ?_
  intro p e s m args below meth c s₁ B hml hv
  obtain ⟨rfl, hst, hXv⟩ := hv
  have hts := atoms_spec (ws := Cond.codeWith y cc maxL ret hh :: Gw) B.pre
  have htab := vx_table (x := y) B (hts _ List.mem_cons_self)
  have hl := lv_entry As (n := maxL) hA
  rw [lg_entry_eq]
  exact body p e s m below meth c _ B.exec B.bytes hml B.returns (fun w h => hts w (List.mem_cons_of_mem _ h)) (findClass_of_methodNamed B.named) B.notSynchronized (Wd.of hst) hl hXv htab
theorem thr_n1 {P Q : Prop} [Decidable P] [Decidable Q] (h : ¬ P) : 1 = thr P Q := by unfold thr; rw [if_neg h]
theorem thr_n2 {P Q : Prop} [Decidable P] [Decidable Q] (h : P) (hq : ¬ Q) : 2 = thr P Q := by unfold thr; rw [if_pos h, if_neg hq]
section LC
variable {p : Program} {l : Launch} {e : Env} {R : Room} {s : State} {m : MethodId} {args : Array Value} {below : List Frame} {meth : Method} {c : Code} {H : Heap} {locs : List Loc} {cells slots : Nat} {Q : State → Prop}
variable {cc : ByteArray} {pc : Nat} {ls : Array Slot} {rest st : List Value} {D : va_G} {T : Nat → ClassId} {z : Nat} {σ τ τ' : Mem}
theorem r_last (hx : p.tables.exec = Jvm.exec) (hb : c.code = cc) (G : Wd D T z 139 σ s H locs) {a : Int} (hdg : decode cc pc = .ok (.lastore, 1)) (kk : ∀ (H1 : Heap) (locs1 : List Loc), Wd D T z 139 (up σ 137 0 (wr a)) s H1 locs1 → W p l e R s m args below meth c H1 locs1 cells slots Q (F0 m (pc + 1) ls rest)) : W p l e R s m args below meth c H locs cells slots Q (F0 m pc ls (.long (kI a).toInt64 :: .int (kI 0) :: .ref (z + 137) :: rest)) := by
  have hg := World_get (T := T) (z := z) (σ := σ) (show 137 < 139 by decide)
  refine va_last hx hb G.2.1 G.1 World_D G.2.2.1 137 3 hg rfl (kI_in (i := 0) (n := 1) (by decide) (by decide) (by decide)) hdg (fun H1 locs1 hP _ hS => kk H1 locs1 (G.put hP hS (fun c' hc => up_o hc) ?_))
  have hsh : ∀ f : Int → Int, shp T z 137 f = .inl (T 3, 1, .inr (.inl (fun j => Int64.ofInt (f j)))) := fun _ => rfl
  rw [hsh]
  refine congrArg (fun q => (Sum.inl (T 3, 1, Sum.inr (Sum.inl q)) : va_E)) ?_
  funext j
  by_cases h : j = 0
  · subst h
    show Int64.ofInt (up σ 137 0 (wr a) 137 ((0 : Nat) : Int)) = vp_updL _ (kI 0).toNatClampNeg _ 0
    rw [up_ap, if_pos ⟨rfl, rfl⟩, show (kI 0).toNatClampNeg = 0 from rfl]
    show _ = (if 0 = 0 then _ else _)
    rw [if_pos rfl]; rfl
  · show Int64.ofInt (up σ 137 0 (wr a) 137 (j : Int)) = (if j = (kI 0).toNatClampNeg then _ else Int64.ofInt (σ 137 (j : Int)))
    rw [up_ap, if_neg (by omega), if_neg (by rw [show (kI 0).toNatClampNeg = 0 from rfl]; exact h)]
theorem r_dast (hx : p.tables.exec = Jvm.exec) (hb : c.code = cc) (G : Wd D T z 139 σ s H locs) {x : UInt64} (hdg : decode cc pc = .ok (.dastore, 1)) (kk : ∀ (H1 : Heap) (locs1 : List Loc), Wd D T z 139 (up σ 138 0 (x.toNat : Int)) s H1 locs1 → W p l e R s m args below meth c H1 locs1 cells slots Q (F0 m (pc + 1) ls rest)) : W p l e R s m args below meth c H locs cells slots Q (F0 m pc ls (.double x :: .int (kI 0) :: .ref (z + 138) :: rest)) := by
  have hg := World_get (T := T) (z := z) (σ := σ) (show 138 < 139 by decide)
  refine va_dast hx hb G.2.1 G.1 World_D G.2.2.1 138 4 hg rfl (kI_in (i := 0) (n := 1) (by decide) (by decide) (by decide)) hdg (fun H1 locs1 hP _ hS => kk H1 locs1 (G.put hP hS (fun c' hc => up_o hc) ?_))
  have hsh : ∀ f : Int → Int, shp T z 138 f = .inl (T 4, 1, .inr (.inr (.inr (.inl (fun j => UInt64.ofNat (f j).toNat))))) := fun _ => rfl
  rw [hsh]
  refine congrArg (fun q => (Sum.inl (T 4, 1, Sum.inr (Sum.inr (Sum.inr (Sum.inl q)))) : va_E)) ?_
  funext j
  by_cases h : j = 0
  · subst h
    show UInt64.ofNat (up σ 138 0 (x.toNat : Int) 138 ((0 : Nat) : Int)).toNat = vf_upd _ (kI 0).toNatClampNeg _ 0
    rw [up_ap, if_pos ⟨rfl, rfl⟩, show (kI 0).toNatClampNeg = 0 from rfl]
    show UInt64.ofNat ((x.toNat : Int)).toNat = (if 0 = 0 then x else _)
    rw [if_pos rfl, Int.toNat_natCast, UInt64.ofNat_toNat]
  · show UInt64.ofNat (up σ 138 0 (x.toNat : Int) 138 (j : Int)).toNat = (if j = (kI 0).toNatClampNeg then _ else UInt64.ofNat (σ 138 (j : Int)).toNat)
    rw [up_ap, if_neg (by omega), if_neg (by rw [show (kI 0).toNatClampNeg = 0 from rfl]; exact h)]
theorem r_wret {ret : Int} (hx : p.tables.exec = Jvm.exec) (hb : c.code = cc) (hr : meth.sig.returnType = some .int) (hlk : meth.locks = false) (G : Wd D T z 139 τ' s H locs) (hc : cells ≤ 2 ∧ slots ≤ 12) {v : Int} (hv : v = ret) (hτ : τ' = τ) (hdg : decode cc pc = .ok (.ireturn, 1)) : W p l e R s m args below meth c H locs cells slots (MQ below (QI D T z 139 ret τ) args s 2 12 (Own z)) (F0 m pc ls [.int (kI v)]) := by
  subst hv; subst hτ
  exact W.widen hc.1 hc.2 (W.iret hx hb hr (fun t ht hW => ⟨⟨kI v, τ', rfl, ⟨rfl, rfl⟩, G.st ht hW.alike⟩, G.2.2.1.F ht⟩) G.2.2.1.2.2 hdg hlk)
section CALLS
variable {own C : String} {idx na maxL nL fr lo mc ms a0 : Nat} {y : MethodName} {bytes : ByteArray} {rt : Option FieldType} {As As' : List Value} {ok : Prop} {exc : String}
theorem r_tryI {ret : Int} (S : CallFix p m c cc nL s args Gw own) (G : Wd D T z 139 σ s H locs) (hv : Xv s) {Az : Nat → List Value} (hM : CtXI l y (Cond.code y bytes maxL rt) fr lo mc ms Az σ ok ret τ exc) (cw : CallW R s args own C idx y bytes maxL rt (Cond.code y bytes maxL rt :: Gw) (rmX fr lo mc ms) mc ms na) (hrv : ∃ cell : Cell, H[a0]? = some cell ∧ cell.vm.isStatics = false ∧ s.vm.findClass C = some cell.cls)
    (hAs : Az z = .ref a0 :: As') (hn : As'.length = na) (hsz : ls.size = nL) (hst : st = As'.reverse ++ .ref a0 :: rest) (hW : (rest.map fun v => v.category).sum ≤ 8) (hdg : decode cc pc = .ok (.invokevirtual idx, 3)) (hf : cells + mc ≤ R.cells ∧ slots + ms ≤ R.slots)
    (kx : ¬ ok → ∀ (ce : Cell) (q : Nat) (H1 : Heap) (locs1 : List Loc), Wd D T z 139 σ s H1 locs1 → H1[q]? = some ce → ce.vm = .none → s.vm.findClass exc = some ce.cls → vx_W p l e R s m args below meth c H1 locs1 (cells + mc) (slots + ms) Q (F0 m pc ls rest) q)
    (kk : ok → ∀ (H1 : Heap) (locs1 : List Loc), Wd D T z 139 τ s H1 locs1 → W p l e R s m args below meth c H1 locs1 (cells + mc) (slots + ms) Q (F0 m (pc + 3) ls (.int (kI ret) :: rest))) : W p l e R s m args below meth c H locs cells slots Q (F0 m pc ls st) := by
  refine vx_calli (vx_runV (As := As') (rest := rest) (g := F0 m pc ls st) S (hM D T z) cw ⟨Stx_blind, hrv, fun U hU hWm => ⟨by rw [hAs], G.st hU hWm.alike, hv.warm hWm⟩⟩ rfl hn hsz hst (lv_room (pc := pc) (ls := ls) (rest := st) hW) hdg hf) G.2.2.1 (fun q _ h => h) (fun q h => h) (fun q _ h => h) (fun E ce q9 u t H1 locs1 ht hvm hp hB hz hq hS hce hcv hcl => ?_) (fun r u t H1 locs1 ht hvm hw hB hz1 hk1 hS => ?_)
  · obtain ⟨hno, rfl⟩ := hp
    obtain ⟨rfl, hP⟩ := hB
    exact kx hno ce q9 H1 locs1 (G.nextP hP ht hS) hce hcv hcl
  · obtain ⟨hok, rfl, rfl⟩ := hw
    exact kk hok H1 locs1 (G.next hB ht hS)
theorem r_tryF {ret : UInt32} (S : CallFix p m c cc nL s args Gw own) (G : Wd D T z 139 σ s H locs) (hv : Xv s) {Az : Nat → List Value} (hM : CtXF l y (Cond.code y bytes maxL rt) fr lo mc ms Az σ ok ret τ exc) (cw : CallW R s args own C idx y bytes maxL rt (Cond.code y bytes maxL rt :: Gw) (rmX fr lo mc ms) mc ms na) (hrv : ∃ cell : Cell, H[a0]? = some cell ∧ cell.vm.isStatics = false ∧ s.vm.findClass C = some cell.cls)
    (hAs : Az z = .ref a0 :: As') (hn : As'.length = na) (hsz : ls.size = nL) (hst : st = As'.reverse ++ .ref a0 :: rest) (hW : (rest.map fun v => v.category).sum ≤ 8) (hdg : decode cc pc = .ok (.invokevirtual idx, 3)) (hf : cells + mc ≤ R.cells ∧ slots + ms ≤ R.slots)
    (kx : ¬ ok → ∀ (ce : Cell) (q : Nat) (H1 : Heap) (locs1 : List Loc), Wd D T z 139 σ s H1 locs1 → H1[q]? = some ce → ce.vm = .none → s.vm.findClass exc = some ce.cls → vx_W p l e R s m args below meth c H1 locs1 (cells + mc) (slots + ms) Q (F0 m pc ls rest) q)
    (kk : ok → ∀ (H1 : Heap) (locs1 : List Loc), Wd D T z 139 τ s H1 locs1 → W p l e R s m args below meth c H1 locs1 (cells + mc) (slots + ms) Q (F0 m (pc + 3) ls (.float ret :: rest))) : W p l e R s m args below meth c H locs cells slots Q (F0 m pc ls st) := by
  refine vx_callf (vx_runV (As := As') (rest := rest) (g := F0 m pc ls st) S (hM D T z) cw ⟨Stx_blind, hrv, fun U hU hWm => ⟨by rw [hAs], G.st hU hWm.alike, hv.warm hWm⟩⟩ rfl hn hsz hst (lv_room (pc := pc) (ls := ls) (rest := st) hW) hdg hf) G.2.2.1 (fun q _ h => h) (fun q h => h) (fun q _ h => h) (fun E ce q9 u t H1 locs1 ht hvm hp hB hz hq hS hce hcv hcl => ?_) (fun r u t H1 locs1 ht hvm hw hB hz1 hk1 hS => ?_)
  · obtain ⟨hno, rfl⟩ := hp
    obtain ⟨rfl, hP⟩ := hB
    exact kx hno ce q9 H1 locs1 (G.nextP hP ht hS) hce hcv hcl
  · obtain ⟨hok, rfl, rfl⟩ := hw
    exact kk hok H1 locs1 (G.next hB ht hS)
/-- a call of the law's own, with handlers -/
theorem r_callW {hh : List (Nat × Nat × Nat × Nat)} {ret : Int} (S : CallFix p m c cc nL s args Gw own) (G : Wd D T z 139 σ s H locs) (hv : Xv s) {Az : Nat → List Value} (hM : CtW l y (Cond.codeWith y bytes maxL rt hh) fr lo Az σ ret τ) (hcw : Cond.codeWith y bytes maxL rt hh ∈ Gw) (hk : Cond.methodLink own idx y ∈ Gw) (hstt : Cond.static y ∈ Gw) (hini : Cond.initialized y.cls ∈ Gw) (hd : y.cls ≠ "java/lang/invoke/MethodHandle" ∧ y.cls ≠ "java/lang/invoke/VarHandle" ∧ (parseMethodDescriptor y.desc).map (fun d => d.parameters.length) = some na) (hR : fr + 1 ≤ R.frames ∧ 8 + (maxL + 11) + lo ≤ R.locals)
    (hAs : Az z = As') (hn : As'.length = na) (hsz : ls.size = nL) (hst : st = As'.reverse ++ rest) (hW : (rest.map fun v => v.category).sum ≤ 8) (hdg : decode cc pc = .ok (.invokestatic idx, 3)) (hf : cells + 2 ≤ R.cells ∧ slots + 12 ≤ R.slots)
    (kk : ∀ (H1 : Heap) (locs1 : List Loc), Wd D T z 139 τ s H1 locs1 → W p l e R s m args below meth c H1 locs1 (cells + 2) (slots + 12) Q (F0 m (pc + 3) ls (.int (kI ret) :: rest))) : W p l e R s m args below meth c H locs cells slots Q (F0 m pc ls st) := by
  have hts := S.2.2.2.2
  have hgw : GoodIn Gw (va_wsS own idx y (Cond.codeWith y bytes maxL rt hh :: Gw)) := fun w h => by
    have hw : w ∈ Gw := by
      simp only [va_wsS, List.cons_append, List.nil_append, List.mem_cons] at h
      rcases h with rfl | rfl | rfl | rfl | h
      · exact hk
      · exact hstt
      · exact hini
      · exact hcw
      · exact h
    exact ⟨hw, good_of_word (Gw_good hw)⟩
  refine va_calli (vx_runSW (As := As') (rest := rest) (g := F0 m pc ls st) S (hM D T z) (vx_cwSW na hts hgw rfl rfl rfl hd hR) ⟨Stx_blind, fun U hU hWm => ⟨by rw [hAs], G.st hU hWm.alike, hv.warm hWm⟩⟩ rfl hn hsz hst (lv_room (pc := pc) (ls := ls) (rest := st) hW) hdg hf) G.2.2.1 (fun q _ h => h) (fun q h => h) (fun r u t H1 locs1 ht hvm hw hB hz1 hk1 hS => ?_)
  obtain ⟨rfl, rfl⟩ := hw
  exact kk H1 locs1 (G.next hB ht hS)
end CALLS
end LC
set_option maxRecDepth 100000 in
set_option maxHeartbeats 4000000 in
theorem k_L_ask (l : Launch) (hst0 : l.stackTraces = false) {σ : Mem} {k : Int} (hk0 : inR k) (hX : XC σ) (hz : 0 ≤ σ 15 1 ∧ σ 15 1 ≤ 6) (hS : IS σ) : CtW l yL_ask (Cond.codeWith yL_ask cL_ask 4 (some .int) [(0, 9, 12, 13)]) 8 137 (fun z => [.ref (z + 0), .int (kI k), .ref (z + 137)]) σ (thr (isK k) (True)) (aft (isK k) (True) (svr (pus σ) k) (atr (pus σ) k) σ) := by
  intro D T z
  refine CtW_of (by decide) (Nat.le_of_ble_eq_true rfl) ?_
  intro p e s m below meth c ls hx hb hml hr hts hown hlk G hl hv htab
  have hown : s.vm.findClass RL = some m.cls := hown
  have hl : lv_has ls 4 [(0, .ref (z + 0)), (1, .int (kI k)), (2, .ref (z + 137))] := hl
  refine lv_aload_n hx hb dL_ask_0 rfl (lv_at hl 2 rfl) ?_
  refine r_iconst hx hb dL_ask_1 ?_
  refine lv_aload_n hx hb dL_ask_2 rfl (lv_at hl 0 rfl) ?_
  refine lv_iload_n hx hb dL_ask_3 rfl (lv_at hl 1 rfl) ?_
  refine r_tryI ⟨hx, hb, hml, hown, hts⟩ G hv (k_X5_ask l hst0 (σ := σ) (k := k) hk0 hX hz hS) (kVx_X5_ask hts qM_L_7 ⟨Nat.le_of_ble_eq_true rfl, Nat.le_of_ble_eq_true rfl⟩) (rc_X5 G) rfl rfl hl.1 rfl (Nat.le_of_ble_eq_true rfl) dL_ask_4 ⟨Nat.le_of_ble_eq_true rfl, Nat.le_of_ble_eq_true rfl⟩ (fun hno ce q9 H locs G hce hcv hcl => ?_) (fun hok H locs G => ?_)
  · skip
    refine vx_catch (E := IOB) (name := IOB) hown [] ⟨0, 9, 12, 13⟩ [] htab (fun z hz => absurd hz List.not_mem_nil) (by decide) (by decide) (hts _ qK_L_13) (hv.w _ (by decide)) hce hcv hcl ?_
    refine lv_astore_n (lv' := [(3, .ref q9), (0, .ref (z + 0)), (1, .int (kI k)), (2, .ref (z + 137))]) hx hb dL_ask_12 rfl hl (by decide) rfl (fun ls hl => ?_)
    refine r_iconst hx hb dL_ask_13 ?_
    exact r_wret hx hb hr hlk G ⟨Nat.le_of_ble_eq_true rfl, Nat.le_of_ble_eq_true rfl⟩ (thr_n1 hno) (if_neg (fun z => hno z.1)).symm dL_ask_14
  refine lv_i2l hx hb dL_ask_7 rfl ?_
  refine r_last hx hb G dL_ask_8 (fun H locs G => ?_)
  refine lv_goto (tgt := 15) hx hb dL_ask_9 (by decide) ?_
  refine r_iconst hx hb dL_ask_15 ?_
  exact r_wret hx hb hr hlk G ⟨Nat.le_of_ble_eq_true rfl, Nat.le_of_ble_eq_true rfl⟩ (thr_y ⟨hok, trivial⟩).symm (if_pos ⟨hok, trivial⟩).symm dL_ask_16
set_option maxRecDepth 100000 in
set_option maxHeartbeats 4000000 in
theorem k_L_want (l : Launch) (hst0 : l.stackTraces = false) {σ : Mem} {k y : Int} (hk0 : inR k) (hy0 : inR y) (hX : XC σ) (hz : 0 ≤ σ 15 1 ∧ σ 15 1 ≤ 6) (hS : IS σ) : CtW l yL_want (Cond.codeWith yL_want cL_want 5 (some .int) [(0, 10, 13, 13)]) 8 125 (fun z => [.ref (z + 0), .int (kI k), .int (kI y), .ref (z + 137)]) σ (thr (isY k y) (True)) (aft (isY k y) (True) (svw (pus σ) k y) (svwR (pus σ) k y) σ) := by
  intro D T z
  refine CtW_of (by decide) (Nat.le_of_ble_eq_true rfl) ?_
  intro p e s m below meth c ls hx hb hml hr hts hown hlk G hl hv htab
  have hown : s.vm.findClass RL = some m.cls := hown
  have hl : lv_has ls 5 [(0, .ref (z + 0)), (1, .int (kI k)), (2, .int (kI y)), (3, .ref (z + 137))] := hl
  refine lv_aload_n hx hb dL_want_0 rfl (lv_at hl 3 rfl) ?_
  refine r_iconst hx hb dL_want_1 ?_
  refine lv_aload_n hx hb dL_want_2 rfl (lv_at hl 0 rfl) ?_
  refine lv_iload_n hx hb dL_want_3 rfl (lv_at hl 1 rfl) ?_
  refine lv_iload_n hx hb dL_want_4 rfl (lv_at hl 2 rfl) ?_
  refine r_tryI ⟨hx, hb, hml, hown, hts⟩ G hv (k_X5_want l hst0 (σ := σ) (k := k) (y := y) hk0 hy0 hX hz hS) (kVx_X5_want hts qM_L_15 ⟨Nat.le_of_ble_eq_true rfl, Nat.le_of_ble_eq_true rfl⟩) (rc_X5 G) rfl rfl hl.1 rfl (Nat.le_of_ble_eq_true rfl) dL_want_5 ⟨Nat.le_of_ble_eq_true rfl, Nat.le_of_ble_eq_true rfl⟩ (fun hno ce q9 H locs G hce hcv hcl => ?_) (fun hok H locs G => ?_)
  · skip
    refine vx_catch (E := IOB) (name := IOB) hown [] ⟨0, 10, 13, 13⟩ [] htab (fun z hz => absurd hz List.not_mem_nil) (by decide) (by decide) (hts _ qK_L_13) (hv.w _ (by decide)) hce hcv hcl ?_
    refine lv_astore (lv' := [(4, .ref q9), (0, .ref (z + 0)), (1, .int (kI k)), (2, .int (kI y)), (3, .ref (z + 137))]) hx hb dL_want_13 hl (by decide) rfl (fun ls hl => ?_)
    refine r_iconst hx hb dL_want_15 ?_
    exact r_wret hx hb hr hlk G ⟨Nat.le_of_ble_eq_true rfl, Nat.le_of_ble_eq_true rfl⟩ (thr_n1 hno) (if_neg (fun z => hno z.1)).symm dL_want_16
  refine lv_i2l hx hb dL_want_8 rfl ?_
  refine r_last hx hb G dL_want_9 (fun H locs G => ?_)
  refine lv_goto (tgt := 17) hx hb dL_want_10 (by decide) ?_
  refine r_iconst hx hb dL_want_17 ?_
  exact r_wret hx hb hr hlk G ⟨Nat.le_of_ble_eq_true rfl, Nat.le_of_ble_eq_true rfl⟩ (thr_y ⟨hok, trivial⟩).symm (if_pos ⟨hok, trivial⟩).symm dL_want_18
set_option maxRecDepth 100000 in
set_option maxHeartbeats 4000000 in
theorem k_L_delete (l : Launch) (hst0 : l.stackTraces = false) {σ : Mem} {k y : Int} (hk0 : inR k) (hy0 : inR y) (hX : XC σ) (hz : 0 ≤ σ 15 1 ∧ σ 15 1 ≤ 6) (hS : IS σ) : CtW l yL_delete (Cond.codeWith yL_delete cL_delete 5 (some .int) [(0, 10, 13, 13), (0, 10, 17, 22)]) 8 125 (fun z => [.ref (z + 0), .int (kI k), .int (kI y), .ref (z + 137)]) σ (thr (isY k y) (σ 4 (k * 16 + y) = 1)) (aft (isY k y) (σ 4 (k * 16 + y) = 1) (dlr (pus σ) k y) (bz ((pus σ) 14 1 ≤ (pus σ) 5 (k * 16 + y))) σ) := by
  intro D T z
  refine CtW_of (by decide) (Nat.le_of_ble_eq_true rfl) ?_
  intro p e s m below meth c ls hx hb hml hr hts hown hlk G hl hv htab
  have hown : s.vm.findClass RL = some m.cls := hown
  have hl : lv_has ls 5 [(0, .ref (z + 0)), (1, .int (kI k)), (2, .int (kI y)), (3, .ref (z + 137))] := hl
  refine lv_aload_n hx hb dL_delete_0 rfl (lv_at hl 3 rfl) ?_
  refine r_iconst hx hb dL_delete_1 ?_
  refine lv_aload_n hx hb dL_delete_2 rfl (lv_at hl 0 rfl) ?_
  refine lv_iload_n hx hb dL_delete_3 rfl (lv_at hl 1 rfl) ?_
  refine lv_iload_n hx hb dL_delete_4 rfl (lv_at hl 2 rfl) ?_
  refine r_tryI ⟨hx, hb, hml, hown, hts⟩ G hv (k_X5_delete l hst0 (σ := σ) (k := k) (y := y) hk0 hy0 hX hz hS) (kVx_X5_delete hts qM_L_19 ⟨Nat.le_of_ble_eq_true rfl, Nat.le_of_ble_eq_true rfl⟩) (rc_X5 G) rfl rfl hl.1 rfl (Nat.le_of_ble_eq_true rfl) dL_delete_5 ⟨Nat.le_of_ble_eq_true rfl, Nat.le_of_ble_eq_true rfl⟩ (fun hno ce q9 H locs G hce hcv hcl => ?_) (fun hok H locs G => ?_)
  · skip
    by_cases hp : isY k y
    · rw [if_pos hp] at hcl
      refine vx_catch (E := ISE) (name := ISE) hown [⟨0, 10, 13, 13⟩] ⟨0, 10, 17, 22⟩ [] htab (fun z hz => by rw [List.mem_singleton.mp hz]; exact Or.inr ⟨by decide, IOB, hts _ qK_L_13, hv.2.2 (ISE, IOB) (by decide)⟩) (by decide) (by decide) (hts _ qK_L_22) (hv.w _ (by decide)) hce hcv hcl ?_
      refine lv_astore (lv' := [(4, .ref q9), (0, .ref (z + 0)), (1, .int (kI k)), (2, .int (kI y)), (3, .ref (z + 137))]) hx hb dL_delete_17 hl (by decide) rfl (fun ls hl => ?_)
      refine r_iconst hx hb dL_delete_19 ?_
      exact r_wret hx hb hr hlk G ⟨Nat.le_of_ble_eq_true rfl, Nat.le_of_ble_eq_true rfl⟩ (thr_n2 hp (fun z => hno ⟨hp, z⟩)) (if_neg hno).symm dL_delete_20
    · rw [if_neg hp] at hcl
      refine vx_catch (E := IOB) (name := IOB) hown [] ⟨0, 10, 13, 13⟩ [⟨0, 10, 17, 22⟩] htab (fun z hz => absurd hz List.not_mem_nil) (by decide) (by decide) (hts _ qK_L_13) (hv.w _ (by decide)) hce hcv hcl ?_
      refine lv_astore (lv' := [(4, .ref q9), (0, .ref (z + 0)), (1, .int (kI k)), (2, .int (kI y)), (3, .ref (z + 137))]) hx hb dL_delete_13 hl (by decide) rfl (fun ls hl => ?_)
      refine r_iconst hx hb dL_delete_15 ?_
      exact r_wret hx hb hr hlk G ⟨Nat.le_of_ble_eq_true rfl, Nat.le_of_ble_eq_true rfl⟩ (thr_n1 hp) (if_neg hno).symm dL_delete_16
  refine lv_i2l hx hb dL_delete_8 rfl ?_
  refine r_last hx hb G dL_delete_9 (fun H locs G => ?_)
  refine lv_goto (tgt := 21) hx hb dL_delete_10 (by decide) ?_
  refine r_iconst hx hb dL_delete_21 ?_
  exact r_wret hx hb hr hlk G ⟨Nat.le_of_ble_eq_true rfl, Nat.le_of_ble_eq_true rfl⟩ (thr_y hok).symm (if_pos hok).symm dL_delete_22
set_option maxRecDepth 100000 in
set_option maxHeartbeats 4000000 in
theorem k_L_bringBack (l : Launch) (hst0 : l.stackTraces = false) {σ : Mem} {k y : Int} (hk0 : inR k) (hy0 : inR y) (hX : XC σ) (hz : 0 ≤ σ 15 1 ∧ σ 15 1 ≤ 6) (hS : IS σ) : CtW l yL_bringBack (Cond.codeWith yL_bringBack cL_bringBack 5 (some .int) [(0, 10, 13, 13), (0, 10, 17, 22)]) 8 125 (fun z => [.ref (z + 0), .int (kI k), .int (kI y), .ref (z + 137)]) σ (thr (isY k y) (cbb σ k y)) (aft (isY k y) (cbb σ k y) (brb (pus σ) k y) ((pus σ) 5 (k * 16 + y)) σ) := by
  intro D T z
  refine CtW_of (by decide) (Nat.le_of_ble_eq_true rfl) ?_
  intro p e s m below meth c ls hx hb hml hr hts hown hlk G hl hv htab
  have hown : s.vm.findClass RL = some m.cls := hown
  have hl : lv_has ls 5 [(0, .ref (z + 0)), (1, .int (kI k)), (2, .int (kI y)), (3, .ref (z + 137))] := hl
  refine lv_aload_n hx hb dL_bringBack_0 rfl (lv_at hl 3 rfl) ?_
  refine r_iconst hx hb dL_bringBack_1 ?_
  refine lv_aload_n hx hb dL_bringBack_2 rfl (lv_at hl 0 rfl) ?_
  refine lv_iload_n hx hb dL_bringBack_3 rfl (lv_at hl 1 rfl) ?_
  refine lv_iload_n hx hb dL_bringBack_4 rfl (lv_at hl 2 rfl) ?_
  refine r_tryI ⟨hx, hb, hml, hown, hts⟩ G hv (k_X5_bringBack l hst0 (σ := σ) (k := k) (y := y) hk0 hy0 hX hz hS) (kVx_X5_bringBack hts qM_L_24 ⟨Nat.le_of_ble_eq_true rfl, Nat.le_of_ble_eq_true rfl⟩) (rc_X5 G) rfl rfl hl.1 rfl (Nat.le_of_ble_eq_true rfl) dL_bringBack_5 ⟨Nat.le_of_ble_eq_true rfl, Nat.le_of_ble_eq_true rfl⟩ (fun hno ce q9 H locs G hce hcv hcl => ?_) (fun hok H locs G => ?_)
  · skip
    by_cases hp : isY k y
    · rw [if_pos hp] at hcl
      refine vx_catch (E := ISE) (name := ISE) hown [⟨0, 10, 13, 13⟩] ⟨0, 10, 17, 22⟩ [] htab (fun z hz => by rw [List.mem_singleton.mp hz]; exact Or.inr ⟨by decide, IOB, hts _ qK_L_13, hv.2.2 (ISE, IOB) (by decide)⟩) (by decide) (by decide) (hts _ qK_L_22) (hv.w _ (by decide)) hce hcv hcl ?_
      refine lv_astore (lv' := [(4, .ref q9), (0, .ref (z + 0)), (1, .int (kI k)), (2, .int (kI y)), (3, .ref (z + 137))]) hx hb dL_bringBack_17 hl (by decide) rfl (fun ls hl => ?_)
      refine r_iconst hx hb dL_bringBack_19 ?_
      exact r_wret hx hb hr hlk G ⟨Nat.le_of_ble_eq_true rfl, Nat.le_of_ble_eq_true rfl⟩ (thr_n2 hp (fun z => hno ⟨hp, z⟩)) (if_neg hno).symm dL_bringBack_20
    · rw [if_neg hp] at hcl
      refine vx_catch (E := IOB) (name := IOB) hown [] ⟨0, 10, 13, 13⟩ [⟨0, 10, 17, 22⟩] htab (fun z hz => absurd hz List.not_mem_nil) (by decide) (by decide) (hts _ qK_L_13) (hv.w _ (by decide)) hce hcv hcl ?_
      refine lv_astore (lv' := [(4, .ref q9), (0, .ref (z + 0)), (1, .int (kI k)), (2, .int (kI y)), (3, .ref (z + 137))]) hx hb dL_bringBack_13 hl (by decide) rfl (fun ls hl => ?_)
      refine r_iconst hx hb dL_bringBack_15 ?_
      exact r_wret hx hb hr hlk G ⟨Nat.le_of_ble_eq_true rfl, Nat.le_of_ble_eq_true rfl⟩ (thr_n1 hp) (if_neg hno).symm dL_bringBack_16
  refine lv_i2l hx hb dL_bringBack_8 rfl ?_
  refine r_last hx hb G dL_bringBack_9 (fun H locs G => ?_)
  refine lv_goto (tgt := 21) hx hb dL_bringBack_10 (by decide) ?_
  refine r_iconst hx hb dL_bringBack_21 ?_
  exact r_wret hx hb hr hlk G ⟨Nat.le_of_ble_eq_true rfl, Nat.le_of_ble_eq_true rfl⟩ (thr_y hok).symm (if_pos hok).symm dL_bringBack_22
set_option maxRecDepth 100000 in
set_option maxHeartbeats 4000000 in
theorem k_L_turn (l : Launch) (hst0 : l.stackTraces = false) {σ : Mem} {k : Int} (hk0 : inR k) (hX : XC σ) (hz : 0 ≤ σ 15 1 ∧ σ 15 1 ≤ 6) (hS : IS σ) : CtW l yL_turn (Cond.codeWith yL_turn cL_turn 4 (some .int) [(0, 9, 12, 13)]) 8 123 (fun z => [.ref (z + 0), .int (kI k), .ref (z + 137)]) σ (thr (isK k) (True)) (aft (isK k) (True) (tup (pus σ) k) (kat (tup (pus σ) k) k 0) σ) := by
  intro D T z
  refine CtW_of (by decide) (Nat.le_of_ble_eq_true rfl) ?_
  intro p e s m below meth c ls hx hb hml hr hts hown hlk G hl hv htab
  have hown : s.vm.findClass RL = some m.cls := hown
  have hl : lv_has ls 4 [(0, .ref (z + 0)), (1, .int (kI k)), (2, .ref (z + 137))] := hl
  refine lv_aload_n hx hb dL_turn_0 rfl (lv_at hl 2 rfl) ?_
  refine r_iconst hx hb dL_turn_1 ?_
  refine lv_aload_n hx hb dL_turn_2 rfl (lv_at hl 0 rfl) ?_
  refine lv_iload_n hx hb dL_turn_3 rfl (lv_at hl 1 rfl) ?_
  refine r_tryI ⟨hx, hb, hml, hown, hts⟩ G hv (k_X5_turn l hst0 (σ := σ) (k := k) hk0 hX hz hS) (kVx_X5_turn hts qM_L_27 ⟨Nat.le_of_ble_eq_true rfl, Nat.le_of_ble_eq_true rfl⟩) (rc_X5 G) rfl rfl hl.1 rfl (Nat.le_of_ble_eq_true rfl) dL_turn_4 ⟨Nat.le_of_ble_eq_true rfl, Nat.le_of_ble_eq_true rfl⟩ (fun hno ce q9 H locs G hce hcv hcl => ?_) (fun hok H locs G => ?_)
  · skip
    refine vx_catch (E := IOB) (name := IOB) hown [] ⟨0, 9, 12, 13⟩ [] htab (fun z hz => absurd hz List.not_mem_nil) (by decide) (by decide) (hts _ qK_L_13) (hv.w _ (by decide)) hce hcv hcl ?_
    refine lv_astore_n (lv' := [(3, .ref q9), (0, .ref (z + 0)), (1, .int (kI k)), (2, .ref (z + 137))]) hx hb dL_turn_12 rfl hl (by decide) rfl (fun ls hl => ?_)
    refine r_iconst hx hb dL_turn_13 ?_
    exact r_wret hx hb hr hlk G ⟨Nat.le_of_ble_eq_true rfl, Nat.le_of_ble_eq_true rfl⟩ (thr_n1 hno) (if_neg (fun z => hno z.1)).symm dL_turn_14
  refine lv_i2l hx hb dL_turn_7 rfl ?_
  refine r_last hx hb G dL_turn_8 (fun H locs G => ?_)
  refine lv_goto (tgt := 15) hx hb dL_turn_9 (by decide) ?_
  refine r_iconst hx hb dL_turn_15 ?_
  exact r_wret hx hb hr hlk G ⟨Nat.le_of_ble_eq_true rfl, Nat.le_of_ble_eq_true rfl⟩ (thr_y ⟨hok, trivial⟩).symm (if_pos ⟨hok, trivial⟩).symm dL_turn_16
set_option maxRecDepth 100000 in
set_option maxHeartbeats 4000000 in
theorem k_L_follow (l : Launch) (hst0 : l.stackTraces = false) {σ : Mem} {k y q : Int} (hk0 : inR k) (hy0 : inR y) (hq0 : inR q) (hX : XC σ) (hz : 0 ≤ σ 15 1 ∧ σ 15 1 ≤ 6) (hS : IS σ) : CtW l yL_follow (Cond.codeWith yL_follow cL_follow 6 (some .int) [(0, 12, 15, 13), (0, 12, 19, 34)]) 8 126 (fun z => [.ref (z + 0), .int (kI k), .int (kI y), .int (kI q), .ref (z + 137)]) σ (thr (isY k y) (1 ≤ q)) (aft (isY k y) (1 ≤ q) (nfo (pus σ) (jud (pus σ) k y q)) (jud (pus σ) k y q) σ) := by
  intro D T z
  refine CtW_of (by decide) (Nat.le_of_ble_eq_true rfl) ?_
  intro p e s m below meth c ls hx hb hml hr hts hown hlk G hl hv htab
  have hown : s.vm.findClass RL = some m.cls := hown
  have hl : lv_has ls 6 [(0, .ref (z + 0)), (1, .int (kI k)), (2, .int (kI y)), (3, .int (kI q)), (4, .ref (z + 137))] := hl
  refine lv_aload hx hb dL_follow_0 (lv_at hl 4 rfl) ?_
  refine r_iconst hx hb dL_follow_2 ?_
  refine lv_aload_n hx hb dL_follow_3 rfl (lv_at hl 0 rfl) ?_
  refine lv_iload_n hx hb dL_follow_4 rfl (lv_at hl 1 rfl) ?_
  refine lv_iload_n hx hb dL_follow_5 rfl (lv_at hl 2 rfl) ?_
  refine lv_iload_n hx hb dL_follow_6 rfl (lv_at hl 3 rfl) ?_
  refine r_tryI ⟨hx, hb, hml, hown, hts⟩ G hv (k_X5_follow l hst0 (σ := σ) (k := k) (y := y) (q := q) hk0 hy0 hq0 hX hz hS) (kVx_X5_follow hts qM_L_30 ⟨Nat.le_of_ble_eq_true rfl, Nat.le_of_ble_eq_true rfl⟩) (rc_X5 G) rfl rfl hl.1 rfl (Nat.le_of_ble_eq_true rfl) dL_follow_7 ⟨Nat.le_of_ble_eq_true rfl, Nat.le_of_ble_eq_true rfl⟩ (fun hno ce q9 H locs G hce hcv hcl => ?_) (fun hok H locs G => ?_)
  · skip
    by_cases hp : isY k y
    · rw [if_pos hp] at hcl
      refine vx_catch (E := IAE) (name := IAE) hown [⟨0, 12, 15, 13⟩] ⟨0, 12, 19, 34⟩ [] htab (fun z hz => by rw [List.mem_singleton.mp hz]; exact Or.inr ⟨by decide, IOB, hts _ qK_L_13, hv.2.2 (IAE, IOB) (by decide)⟩) (by decide) (by decide) (hts _ qK_L_34) (hv.w _ (by decide)) hce hcv hcl ?_
      refine lv_astore (lv' := [(5, .ref q9), (0, .ref (z + 0)), (1, .int (kI k)), (2, .int (kI y)), (3, .int (kI q)), (4, .ref (z + 137))]) hx hb dL_follow_19 hl (by decide) rfl (fun ls hl => ?_)
      refine r_iconst hx hb dL_follow_21 ?_
      exact r_wret hx hb hr hlk G ⟨Nat.le_of_ble_eq_true rfl, Nat.le_of_ble_eq_true rfl⟩ (thr_n2 hp (fun z => hno ⟨hp, z⟩)) (if_neg hno).symm dL_follow_22
    · rw [if_neg hp] at hcl
      refine vx_catch (E := IOB) (name := IOB) hown [] ⟨0, 12, 15, 13⟩ [⟨0, 12, 19, 34⟩] htab (fun z hz => absurd hz List.not_mem_nil) (by decide) (by decide) (hts _ qK_L_13) (hv.w _ (by decide)) hce hcv hcl ?_
      refine lv_astore (lv' := [(5, .ref q9), (0, .ref (z + 0)), (1, .int (kI k)), (2, .int (kI y)), (3, .int (kI q)), (4, .ref (z + 137))]) hx hb dL_follow_15 hl (by decide) rfl (fun ls hl => ?_)
      refine r_iconst hx hb dL_follow_17 ?_
      exact r_wret hx hb hr hlk G ⟨Nat.le_of_ble_eq_true rfl, Nat.le_of_ble_eq_true rfl⟩ (thr_n1 hp) (if_neg hno).symm dL_follow_18
  refine lv_i2l hx hb dL_follow_10 rfl ?_
  refine r_last hx hb G dL_follow_11 (fun H locs G => ?_)
  refine lv_goto (tgt := 23) hx hb dL_follow_12 (by decide) ?_
  refine r_iconst hx hb dL_follow_23 ?_
  exact r_wret hx hb hr hlk G ⟨Nat.le_of_ble_eq_true rfl, Nat.le_of_ble_eq_true rfl⟩ (thr_y hok).symm (if_pos hok).symm dL_follow_24
set_option maxRecDepth 100000 in
set_option maxHeartbeats 4000000 in
theorem k_L_pass (l : Launch) (hst0 : l.stackTraces = false) {σ : Mem} {d : Int} (hd0 : inR d) (hX : XC σ) (hz : 0 ≤ σ 15 1 ∧ σ 15 1 ≤ 6) (hS : IS σ) : CtW l yL_pass (Cond.codeWith yL_pass cL_pass 4 (some .int) [(0, 9, 12, 34), (0, 9, 15, 22)]) 8 125 (fun z => [.ref (z + 0), .int (kI d), .ref (z + 137)]) σ (thr (1 ≤ d ∧ d ≤ 99) (d ≤ 9999 - σ 2 0)) (aft (1 ≤ d ∧ d ≤ 99) (d ≤ 9999 - σ 2 0) (up (pus σ) 2 0 ((pus σ) 2 0 + d)) (hra (up (pus σ) 2 0 ((pus σ) 2 0 + d))) σ) := by
  intro D T z
  refine CtW_of (by decide) (Nat.le_of_ble_eq_true rfl) ?_
  intro p e s m below meth c ls hx hb hml hr hts hown hlk G hl hv htab
  have hown : s.vm.findClass RL = some m.cls := hown
  have hl : lv_has ls 4 [(0, .ref (z + 0)), (1, .int (kI d)), (2, .ref (z + 137))] := hl
  refine lv_aload_n hx hb dL_pass_0 rfl (lv_at hl 2 rfl) ?_
  refine r_iconst hx hb dL_pass_1 ?_
  refine lv_aload_n hx hb dL_pass_2 rfl (lv_at hl 0 rfl) ?_
  refine lv_iload_n hx hb dL_pass_3 rfl (lv_at hl 1 rfl) ?_
  refine r_tryI ⟨hx, hb, hml, hown, hts⟩ G hv (k_X5_pass l hst0 (σ := σ) (d := d) hd0 hX hz hS) (kVx_X5_pass hts qM_L_36 ⟨Nat.le_of_ble_eq_true rfl, Nat.le_of_ble_eq_true rfl⟩) (rc_X5 G) rfl rfl hl.1 rfl (Nat.le_of_ble_eq_true rfl) dL_pass_4 ⟨Nat.le_of_ble_eq_true rfl, Nat.le_of_ble_eq_true rfl⟩ (fun hno ce q9 H locs G hce hcv hcl => ?_) (fun hok H locs G => ?_)
  · skip
    by_cases hp : 1 ≤ d ∧ d ≤ 99
    · rw [if_pos hp] at hcl
      refine vx_catch (E := ISE) (name := ISE) hown [⟨0, 9, 12, 34⟩] ⟨0, 9, 15, 22⟩ [] htab (fun z hz => by rw [List.mem_singleton.mp hz]; exact Or.inr ⟨by decide, IAE, hts _ qK_L_34, hv.2.2 (ISE, IAE) (by decide)⟩) (by decide) (by decide) (hts _ qK_L_22) (hv.w _ (by decide)) hce hcv hcl ?_
      refine lv_astore_n (lv' := [(3, .ref q9), (0, .ref (z + 0)), (1, .int (kI d)), (2, .ref (z + 137))]) hx hb dL_pass_15 rfl hl (by decide) rfl (fun ls hl => ?_)
      refine r_iconst hx hb dL_pass_16 ?_
      exact r_wret hx hb hr hlk G ⟨Nat.le_of_ble_eq_true rfl, Nat.le_of_ble_eq_true rfl⟩ (thr_n2 hp (fun z => hno ⟨hp, z⟩)) (if_neg hno).symm dL_pass_17
    · rw [if_neg hp] at hcl
      refine vx_catch (E := IAE) (name := IAE) hown [] ⟨0, 9, 12, 34⟩ [⟨0, 9, 15, 22⟩] htab (fun z hz => absurd hz List.not_mem_nil) (by decide) (by decide) (hts _ qK_L_34) (hv.w _ (by decide)) hce hcv hcl ?_
      refine lv_astore_n (lv' := [(3, .ref q9), (0, .ref (z + 0)), (1, .int (kI d)), (2, .ref (z + 137))]) hx hb dL_pass_12 rfl hl (by decide) rfl (fun ls hl => ?_)
      refine r_iconst hx hb dL_pass_13 ?_
      exact r_wret hx hb hr hlk G ⟨Nat.le_of_ble_eq_true rfl, Nat.le_of_ble_eq_true rfl⟩ (thr_n1 hp) (if_neg hno).symm dL_pass_14
  refine lv_i2l hx hb dL_pass_7 rfl ?_
  refine r_last hx hb G dL_pass_8 (fun H locs G => ?_)
  refine lv_goto (tgt := 18) hx hb dL_pass_9 (by decide) ?_
  refine r_iconst hx hb dL_pass_18 ?_
  exact r_wret hx hb hr hlk G ⟨Nat.le_of_ble_eq_true rfl, Nat.le_of_ble_eq_true rfl⟩ (thr_y hok).symm (if_pos hok).symm dL_pass_19
set_option maxRecDepth 100000 in
set_option maxHeartbeats 4000000 in
theorem k_L_season (l : Launch) (hst0 : l.stackTraces = false) {σ : Mem} {k d : Int} (hk0 : inR k) (hd0 : inR d) (hX : XC σ) (hz : 0 ≤ σ 15 1 ∧ σ 15 1 ≤ 6) (hS : IS σ) : CtW l yL_season (Cond.codeWith yL_season cL_season 5 (some .int) [(0, 10, 13, 13), (0, 10, 17, 34)]) 8 127 (fun z => [.ref (z + 0), .int (kI k), .int (kI d), .ref (z + 137)]) σ (thr (isK k) (0 ≤ d ∧ d ≤ 99)) (aft (isK k) (0 ≤ d ∧ d ≤ 99) (up (pus σ) 3 k d) ((pus σ) 3 k) σ) := by
  intro D T z
  refine CtW_of (by decide) (Nat.le_of_ble_eq_true rfl) ?_
  intro p e s m below meth c ls hx hb hml hr hts hown hlk G hl hv htab
  have hown : s.vm.findClass RL = some m.cls := hown
  have hl : lv_has ls 5 [(0, .ref (z + 0)), (1, .int (kI k)), (2, .int (kI d)), (3, .ref (z + 137))] := hl
  refine lv_aload_n hx hb dL_season_0 rfl (lv_at hl 3 rfl) ?_
  refine r_iconst hx hb dL_season_1 ?_
  refine lv_aload_n hx hb dL_season_2 rfl (lv_at hl 0 rfl) ?_
  refine lv_iload_n hx hb dL_season_3 rfl (lv_at hl 1 rfl) ?_
  refine lv_iload_n hx hb dL_season_4 rfl (lv_at hl 2 rfl) ?_
  refine r_tryI ⟨hx, hb, hml, hown, hts⟩ G hv (k_X5_season l hst0 (σ := σ) (k := k) (d := d) hk0 hd0 hX hz hS) (kVx_X5_season hts qM_L_39 ⟨Nat.le_of_ble_eq_true rfl, Nat.le_of_ble_eq_true rfl⟩) (rc_X5 G) rfl rfl hl.1 rfl (Nat.le_of_ble_eq_true rfl) dL_season_5 ⟨Nat.le_of_ble_eq_true rfl, Nat.le_of_ble_eq_true rfl⟩ (fun hno ce q9 H locs G hce hcv hcl => ?_) (fun hok H locs G => ?_)
  · skip
    by_cases hp : isK k
    · rw [if_pos hp] at hcl
      refine vx_catch (E := IAE) (name := IAE) hown [⟨0, 10, 13, 13⟩] ⟨0, 10, 17, 34⟩ [] htab (fun z hz => by rw [List.mem_singleton.mp hz]; exact Or.inr ⟨by decide, IOB, hts _ qK_L_13, hv.2.2 (IAE, IOB) (by decide)⟩) (by decide) (by decide) (hts _ qK_L_34) (hv.w _ (by decide)) hce hcv hcl ?_
      refine lv_astore (lv' := [(4, .ref q9), (0, .ref (z + 0)), (1, .int (kI k)), (2, .int (kI d)), (3, .ref (z + 137))]) hx hb dL_season_17 hl (by decide) rfl (fun ls hl => ?_)
      refine r_iconst hx hb dL_season_19 ?_
      exact r_wret hx hb hr hlk G ⟨Nat.le_of_ble_eq_true rfl, Nat.le_of_ble_eq_true rfl⟩ (thr_n2 hp (fun z => hno ⟨hp, z⟩)) (if_neg hno).symm dL_season_20
    · rw [if_neg hp] at hcl
      refine vx_catch (E := IOB) (name := IOB) hown [] ⟨0, 10, 13, 13⟩ [⟨0, 10, 17, 34⟩] htab (fun z hz => absurd hz List.not_mem_nil) (by decide) (by decide) (hts _ qK_L_13) (hv.w _ (by decide)) hce hcv hcl ?_
      refine lv_astore (lv' := [(4, .ref q9), (0, .ref (z + 0)), (1, .int (kI k)), (2, .int (kI d)), (3, .ref (z + 137))]) hx hb dL_season_13 hl (by decide) rfl (fun ls hl => ?_)
      refine r_iconst hx hb dL_season_15 ?_
      exact r_wret hx hb hr hlk G ⟨Nat.le_of_ble_eq_true rfl, Nat.le_of_ble_eq_true rfl⟩ (thr_n1 hp) (if_neg hno).symm dL_season_16
  refine lv_i2l hx hb dL_season_8 rfl ?_
  refine r_last hx hb G dL_season_9 (fun H locs G => ?_)
  refine lv_goto (tgt := 21) hx hb dL_season_10 (by decide) ?_
  refine r_iconst hx hb dL_season_21 ?_
  exact r_wret hx hb hr hlk G ⟨Nat.le_of_ble_eq_true rfl, Nat.le_of_ble_eq_true rfl⟩ (thr_y hok).symm (if_pos hok).symm dL_season_22
set_option maxRecDepth 100000 in
set_option maxHeartbeats 4000000 in
theorem k_L_set (l : Launch) (hst0 : l.stackTraces = false) {σ : Mem} {k d : Int} (hk0 : inR k) (hd0 : inR d) (hX : XC σ) (hz : 0 ≤ σ 15 1 ∧ σ 15 1 ≤ 6) (hS : IS σ) : CtW l yL_set (Cond.codeWith yL_set cL_set 5 (some .int) [(0, 10, 13, 13), (0, 10, 17, 34)]) 8 127 (fun z => [.ref (z + 0), .int (kI k), .int (kI d), .ref (z + 137)]) σ (thr (0 ≤ k ∧ k ≤ 2) ((if k = 1 then 1 else 0) ≤ d ∧ d ≤ (if k = 0 then 3 else if k = 1 then 9 else 20))) (aft (0 ≤ k ∧ k ≤ 2) ((if k = 1 then 1 else 0) ≤ d ∧ d ≤ (if k = 0 then 3 else if k = 1 then 9 else 20)) (up (pus σ) 14 k d) ((pus σ) 14 k) σ) := by
  intro D T z
  refine CtW_of (by decide) (Nat.le_of_ble_eq_true rfl) ?_
  intro p e s m below meth c ls hx hb hml hr hts hown hlk G hl hv htab
  have hown : s.vm.findClass RL = some m.cls := hown
  have hl : lv_has ls 5 [(0, .ref (z + 0)), (1, .int (kI k)), (2, .int (kI d)), (3, .ref (z + 137))] := hl
  refine lv_aload_n hx hb dL_set_0 rfl (lv_at hl 3 rfl) ?_
  refine r_iconst hx hb dL_set_1 ?_
  refine lv_aload_n hx hb dL_set_2 rfl (lv_at hl 0 rfl) ?_
  refine lv_iload_n hx hb dL_set_3 rfl (lv_at hl 1 rfl) ?_
  refine lv_iload_n hx hb dL_set_4 rfl (lv_at hl 2 rfl) ?_
  refine r_tryI ⟨hx, hb, hml, hown, hts⟩ G hv (k_X5_set l hst0 (σ := σ) (k := k) (d := d) hk0 hd0 hX hz hS) (kVx_X5_set hts qM_L_42 ⟨Nat.le_of_ble_eq_true rfl, Nat.le_of_ble_eq_true rfl⟩) (rc_X5 G) rfl rfl hl.1 rfl (Nat.le_of_ble_eq_true rfl) dL_set_5 ⟨Nat.le_of_ble_eq_true rfl, Nat.le_of_ble_eq_true rfl⟩ (fun hno ce q9 H locs G hce hcv hcl => ?_) (fun hok H locs G => ?_)
  · skip
    by_cases hp : 0 ≤ k ∧ k ≤ 2
    · rw [if_pos hp] at hcl
      refine vx_catch (E := IAE) (name := IAE) hown [⟨0, 10, 13, 13⟩] ⟨0, 10, 17, 34⟩ [] htab (fun z hz => by rw [List.mem_singleton.mp hz]; exact Or.inr ⟨by decide, IOB, hts _ qK_L_13, hv.2.2 (IAE, IOB) (by decide)⟩) (by decide) (by decide) (hts _ qK_L_34) (hv.w _ (by decide)) hce hcv hcl ?_
      refine lv_astore (lv' := [(4, .ref q9), (0, .ref (z + 0)), (1, .int (kI k)), (2, .int (kI d)), (3, .ref (z + 137))]) hx hb dL_set_17 hl (by decide) rfl (fun ls hl => ?_)
      refine r_iconst hx hb dL_set_19 ?_
      exact r_wret hx hb hr hlk G ⟨Nat.le_of_ble_eq_true rfl, Nat.le_of_ble_eq_true rfl⟩ (thr_n2 hp (fun z => hno ⟨hp, z⟩)) (if_neg hno).symm dL_set_20
    · rw [if_neg hp] at hcl
      refine vx_catch (E := IOB) (name := IOB) hown [] ⟨0, 10, 13, 13⟩ [⟨0, 10, 17, 34⟩] htab (fun z hz => absurd hz List.not_mem_nil) (by decide) (by decide) (hts _ qK_L_13) (hv.w _ (by decide)) hce hcv hcl ?_
      refine lv_astore (lv' := [(4, .ref q9), (0, .ref (z + 0)), (1, .int (kI k)), (2, .int (kI d)), (3, .ref (z + 137))]) hx hb dL_set_13 hl (by decide) rfl (fun ls hl => ?_)
      refine r_iconst hx hb dL_set_15 ?_
      exact r_wret hx hb hr hlk G ⟨Nat.le_of_ble_eq_true rfl, Nat.le_of_ble_eq_true rfl⟩ (thr_n1 hp) (if_neg hno).symm dL_set_16
  refine lv_i2l hx hb dL_set_8 rfl ?_
  refine r_last hx hb G dL_set_9 (fun H locs G => ?_)
  refine lv_goto (tgt := 21) hx hb dL_set_10 (by decide) ?_
  refine r_iconst hx hb dL_set_21 ?_
  exact r_wret hx hb hr hlk G ⟨Nat.le_of_ble_eq_true rfl, Nat.le_of_ble_eq_true rfl⟩ (thr_y hok).symm (if_pos hok).symm dL_set_22
set_option maxRecDepth 100000 in
set_option maxHeartbeats 4000000 in
theorem k_L_append (l : Launch) (hst0 : l.stackTraces = false) {σ : Mem} {v : Int} (hv0 : inR v) (hT : IT σ) : CtW l yL_append (Cond.codeWith yL_append cL_append 4 (some .int) [(0, 9, 12, 34), (0, 9, 15, 22)]) 8 125 (fun z => [.ref (z + 0), .int (kI v), .ref (z + 137)]) σ (thr (33 ≤ v ∧ v ≤ 126) (¬ 60 ≤ σ 131 1)) (aft (33 ≤ v ∧ v ≤ 126) (¬ 60 ≤ σ 131 1) (up (up σ 132 (σ 131 1) v) 131 1 (σ 131 1 + 1)) (σ 131 1 + 1) σ) := by
  intro D T z
  refine CtW_of (by decide) (Nat.le_of_ble_eq_true rfl) ?_
  intro p e s m below meth c ls hx hb hml hr hts hown hlk G hl hv htab
  have hown : s.vm.findClass RL = some m.cls := hown
  have hl : lv_has ls 4 [(0, .ref (z + 0)), (1, .int (kI v)), (2, .ref (z + 137))] := hl
  refine lv_aload_n hx hb dL_append_0 rfl (lv_at hl 2 rfl) ?_
  refine r_iconst hx hb dL_append_1 ?_
  refine lv_aload_n hx hb dL_append_2 rfl (lv_at hl 0 rfl) ?_
  refine lv_iload_n hx hb dL_append_3 rfl (lv_at hl 1 rfl) ?_
  refine r_tryI ⟨hx, hb, hml, hown, hts⟩ G hv (k_X5_append l hst0 (σ := σ) (v := v) hv0 hT) (kVx_X5_append hts qM_L_45 ⟨Nat.le_of_ble_eq_true rfl, Nat.le_of_ble_eq_true rfl⟩) (rc_X5 G) rfl rfl hl.1 rfl (Nat.le_of_ble_eq_true rfl) dL_append_4 ⟨Nat.le_of_ble_eq_true rfl, Nat.le_of_ble_eq_true rfl⟩ (fun hno ce q9 H locs G hce hcv hcl => ?_) (fun hok H locs G => ?_)
  · skip
    by_cases hp : 33 ≤ v ∧ v ≤ 126
    · rw [if_pos hp] at hcl
      refine vx_catch (E := ISE) (name := ISE) hown [⟨0, 9, 12, 34⟩] ⟨0, 9, 15, 22⟩ [] htab (fun z hz => by rw [List.mem_singleton.mp hz]; exact Or.inr ⟨by decide, IAE, hts _ qK_L_34, hv.2.2 (ISE, IAE) (by decide)⟩) (by decide) (by decide) (hts _ qK_L_22) (hv.w _ (by decide)) hce hcv hcl ?_
      refine lv_astore_n (lv' := [(3, .ref q9), (0, .ref (z + 0)), (1, .int (kI v)), (2, .ref (z + 137))]) hx hb dL_append_15 rfl hl (by decide) rfl (fun ls hl => ?_)
      refine r_iconst hx hb dL_append_16 ?_
      exact r_wret hx hb hr hlk G ⟨Nat.le_of_ble_eq_true rfl, Nat.le_of_ble_eq_true rfl⟩ (thr_n2 hp (fun z => hno ⟨hp, z⟩)) (if_neg hno).symm dL_append_17
    · rw [if_neg hp] at hcl
      refine vx_catch (E := IAE) (name := IAE) hown [] ⟨0, 9, 12, 34⟩ [⟨0, 9, 15, 22⟩] htab (fun z hz => absurd hz List.not_mem_nil) (by decide) (by decide) (hts _ qK_L_34) (hv.w _ (by decide)) hce hcv hcl ?_
      refine lv_astore_n (lv' := [(3, .ref q9), (0, .ref (z + 0)), (1, .int (kI v)), (2, .ref (z + 137))]) hx hb dL_append_12 rfl hl (by decide) rfl (fun ls hl => ?_)
      refine r_iconst hx hb dL_append_13 ?_
      exact r_wret hx hb hr hlk G ⟨Nat.le_of_ble_eq_true rfl, Nat.le_of_ble_eq_true rfl⟩ (thr_n1 hp) (if_neg hno).symm dL_append_14
  refine lv_i2l hx hb dL_append_7 rfl ?_
  refine r_last hx hb G dL_append_8 (fun H locs G => ?_)
  refine lv_goto (tgt := 18) hx hb dL_append_9 (by decide) ?_
  refine r_iconst hx hb dL_append_18 ?_
  exact r_wret hx hb hr hlk G ⟨Nat.le_of_ble_eq_true rfl, Nat.le_of_ble_eq_true rfl⟩ (thr_y hok).symm (if_pos hok).symm dL_append_19
set_option maxRecDepth 100000 in
set_option maxHeartbeats 4000000 in
theorem k_L_run (l : Launch) (hst0 : l.stackTraces = false) {σ : Mem} (hT : IT σ) (hX : XC σ) (hz : 0 ≤ σ 15 1 ∧ σ 15 1 ≤ 6) (hS : IS σ) (hR0 : mayE (ast σ (σ 131 1)) → ∀ i, 0 ≤ i → i < σ 131 1 → (crI σ i).2.2 = 1 → IS (crI σ i).1 ∧ (bgn σ i → inR (num σ (i + 1)) ∧ inR (num σ (i + 3)))) : CtW l yL_run (Cond.codeWith yL_run cL_run 3 (some .int) [(0, 8, 11, 34)]) 7 161 (fun z => [.ref (z + 0), .ref (z + 137)]) σ (thr (mayE (ast σ (σ 131 1))) (True)) (aft (mayE (ast σ (σ 131 1))) (True) (up (crI σ (σ 131 1)).1 131 1 0) ((crI σ (σ 131 1)).2.1) σ) := by
  intro D T z
  refine CtW_of (by decide) (Nat.le_of_ble_eq_true rfl) ?_
  intro p e s m below meth c ls hx hb hml hr hts hown hlk G hl hv htab
  have hown : s.vm.findClass RL = some m.cls := hown
  have hl : lv_has ls 3 [(0, .ref (z + 0)), (1, .ref (z + 137))] := hl
  refine lv_aload_n hx hb dL_run_0 rfl (lv_at hl 1 rfl) ?_
  refine r_iconst hx hb dL_run_1 ?_
  refine lv_aload_n hx hb dL_run_2 rfl (lv_at hl 0 rfl) ?_
  refine r_tryI ⟨hx, hb, hml, hown, hts⟩ G hv (k_X5_run l hst0 (σ := σ) hT hX hz hS hR0) (kVx_X5_run hts qM_L_48 ⟨Nat.le_of_ble_eq_true rfl, Nat.le_of_ble_eq_true rfl⟩) (rc_X5 G) rfl rfl hl.1 rfl (Nat.le_of_ble_eq_true rfl) dL_run_3 ⟨Nat.le_of_ble_eq_true rfl, Nat.le_of_ble_eq_true rfl⟩ (fun hno ce q9 H locs G hce hcv hcl => ?_) (fun hok H locs G => ?_)
  · skip
    refine vx_catch (E := IAE) (name := IAE) hown [] ⟨0, 8, 11, 34⟩ [] htab (fun z hz => absurd hz List.not_mem_nil) (by decide) (by decide) (hts _ qK_L_34) (hv.w _ (by decide)) hce hcv hcl ?_
    refine lv_astore_n (lv' := [(2, .ref q9), (0, .ref (z + 0)), (1, .ref (z + 137))]) hx hb dL_run_11 rfl hl (by decide) rfl (fun ls hl => ?_)
    refine r_iconst hx hb dL_run_12 ?_
    exact r_wret hx hb hr hlk G ⟨Nat.le_of_ble_eq_true rfl, Nat.le_of_ble_eq_true rfl⟩ (thr_n1 hno) (if_neg (fun z => hno z.1)).symm dL_run_13
  refine lv_i2l hx hb dL_run_6 rfl ?_
  refine r_last hx hb G dL_run_7 (fun H locs G => ?_)
  refine lv_goto (tgt := 14) hx hb dL_run_8 (by decide) ?_
  refine r_iconst hx hb dL_run_14 ?_
  exact r_wret hx hb hr hlk G ⟨Nat.le_of_ble_eq_true rfl, Nat.le_of_ble_eq_true rfl⟩ (thr_y ⟨hok, trivial⟩).symm (if_pos ⟨hok, trivial⟩).symm dL_run_15
set_option maxRecDepth 100000 in
set_option maxHeartbeats 4000000 in
theorem k_L_keep (l : Launch) (hst0 : l.stackTraces = false) {σ : Mem} {q : Int} (hq0 : inR q) : CtW l yL_keep (Cond.codeWith yL_keep cL_keep 4 (some .int) [(0, 9, 12, 34)]) 8 125 (fun z => [.ref (z + 0), .int (kI q), .ref (z + 137)]) σ (thr (0 ≤ q ∧ q ≤ 1) (True)) (aft (0 ≤ q ∧ q ≤ 1) (True) (up (csp σ 1 (102 + 14 * q.toNat)) 130 q 1) (σ 2 0) σ) := by
  intro D T z
  refine CtW_of (by decide) (Nat.le_of_ble_eq_true rfl) ?_
  intro p e s m below meth c ls hx hb hml hr hts hown hlk G hl hv htab
  have hown : s.vm.findClass RL = some m.cls := hown
  have hl : lv_has ls 4 [(0, .ref (z + 0)), (1, .int (kI q)), (2, .ref (z + 137))] := hl
  refine lv_aload_n hx hb dL_keep_0 rfl (lv_at hl 2 rfl) ?_
  refine r_iconst hx hb dL_keep_1 ?_
  refine lv_aload_n hx hb dL_keep_2 rfl (lv_at hl 0 rfl) ?_
  refine lv_iload_n hx hb dL_keep_3 rfl (lv_at hl 1 rfl) ?_
  refine r_tryI ⟨hx, hb, hml, hown, hts⟩ G hv (k_X5_keep l hst0 (σ := σ) (q := q) hq0) (kVx_X5_keep hts qM_L_52 ⟨Nat.le_of_ble_eq_true rfl, Nat.le_of_ble_eq_true rfl⟩) (rc_X5 G) rfl rfl hl.1 rfl (Nat.le_of_ble_eq_true rfl) dL_keep_4 ⟨Nat.le_of_ble_eq_true rfl, Nat.le_of_ble_eq_true rfl⟩ (fun hno ce q9 H locs G hce hcv hcl => ?_) (fun hok H locs G => ?_)
  · skip
    refine vx_catch (E := IAE) (name := IAE) hown [] ⟨0, 9, 12, 34⟩ [] htab (fun z hz => absurd hz List.not_mem_nil) (by decide) (by decide) (hts _ qK_L_34) (hv.w _ (by decide)) hce hcv hcl ?_
    refine lv_astore_n (lv' := [(3, .ref q9), (0, .ref (z + 0)), (1, .int (kI q)), (2, .ref (z + 137))]) hx hb dL_keep_12 rfl hl (by decide) rfl (fun ls hl => ?_)
    refine r_iconst hx hb dL_keep_13 ?_
    exact r_wret hx hb hr hlk G ⟨Nat.le_of_ble_eq_true rfl, Nat.le_of_ble_eq_true rfl⟩ (thr_n1 hno) (if_neg (fun z => hno z.1)).symm dL_keep_14
  refine lv_i2l hx hb dL_keep_7 rfl ?_
  refine r_last hx hb G dL_keep_8 (fun H locs G => ?_)
  refine lv_goto (tgt := 15) hx hb dL_keep_9 (by decide) ?_
  refine r_iconst hx hb dL_keep_15 ?_
  exact r_wret hx hb hr hlk G ⟨Nat.le_of_ble_eq_true rfl, Nat.le_of_ble_eq_true rfl⟩ (thr_y ⟨hok, trivial⟩).symm (if_pos ⟨hok, trivial⟩).symm dL_keep_16
set_option maxRecDepth 100000 in
set_option maxHeartbeats 4000000 in
theorem k_L_goBack (l : Launch) (hst0 : l.stackTraces = false) {σ : Mem} {q : Int} (hq0 : inR q) (hKc : ∀ q, 0 ≤ q → q ≤ 1 → σ 130 q = 0 ∨ σ 130 q = 1) (hX : XC σ) (hz : 0 ≤ σ 15 1 ∧ σ 15 1 ≤ 6) (hS : IS σ) : CtW l yL_goBack (Cond.codeWith yL_goBack cL_goBack 4 (some .int) [(0, 9, 12, 34), (0, 9, 15, 22)]) 8 125 (fun z => [.ref (z + 0), .int (kI q), .ref (z + 137)]) σ (thr (0 ≤ q ∧ q ≤ 1) (σ 130 q = 1)) (aft (0 ≤ q ∧ q ≤ 1) (σ 130 q = 1) (csp (pus σ) (102 + 14 * q.toNat) 1) ((pus σ) (102 + 14 * q.toNat + 1) 0) σ) := by
  intro D T z
  refine CtW_of (by decide) (Nat.le_of_ble_eq_true rfl) ?_
  intro p e s m below meth c ls hx hb hml hr hts hown hlk G hl hv htab
  have hown : s.vm.findClass RL = some m.cls := hown
  have hl : lv_has ls 4 [(0, .ref (z + 0)), (1, .int (kI q)), (2, .ref (z + 137))] := hl
  refine lv_aload_n hx hb dL_goBack_0 rfl (lv_at hl 2 rfl) ?_
  refine r_iconst hx hb dL_goBack_1 ?_
  refine lv_aload_n hx hb dL_goBack_2 rfl (lv_at hl 0 rfl) ?_
  refine lv_iload_n hx hb dL_goBack_3 rfl (lv_at hl 1 rfl) ?_
  refine r_tryI ⟨hx, hb, hml, hown, hts⟩ G hv (k_X5_goBack l hst0 (σ := σ) (q := q) hq0 hKc hX hz hS) (kVx_X5_goBack hts qM_L_55 ⟨Nat.le_of_ble_eq_true rfl, Nat.le_of_ble_eq_true rfl⟩) (rc_X5 G) rfl rfl hl.1 rfl (Nat.le_of_ble_eq_true rfl) dL_goBack_4 ⟨Nat.le_of_ble_eq_true rfl, Nat.le_of_ble_eq_true rfl⟩ (fun hno ce q9 H locs G hce hcv hcl => ?_) (fun hok H locs G => ?_)
  · skip
    by_cases hp : 0 ≤ q ∧ q ≤ 1
    · rw [if_pos hp] at hcl
      refine vx_catch (E := ISE) (name := ISE) hown [⟨0, 9, 12, 34⟩] ⟨0, 9, 15, 22⟩ [] htab (fun z hz => by rw [List.mem_singleton.mp hz]; exact Or.inr ⟨by decide, IAE, hts _ qK_L_34, hv.2.2 (ISE, IAE) (by decide)⟩) (by decide) (by decide) (hts _ qK_L_22) (hv.w _ (by decide)) hce hcv hcl ?_
      refine lv_astore_n (lv' := [(3, .ref q9), (0, .ref (z + 0)), (1, .int (kI q)), (2, .ref (z + 137))]) hx hb dL_goBack_15 rfl hl (by decide) rfl (fun ls hl => ?_)
      refine r_iconst hx hb dL_goBack_16 ?_
      exact r_wret hx hb hr hlk G ⟨Nat.le_of_ble_eq_true rfl, Nat.le_of_ble_eq_true rfl⟩ (thr_n2 hp (fun z => hno ⟨hp, z⟩)) (if_neg hno).symm dL_goBack_17
    · rw [if_neg hp] at hcl
      refine vx_catch (E := IAE) (name := IAE) hown [] ⟨0, 9, 12, 34⟩ [⟨0, 9, 15, 22⟩] htab (fun z hz => absurd hz List.not_mem_nil) (by decide) (by decide) (hts _ qK_L_34) (hv.w _ (by decide)) hce hcv hcl ?_
      refine lv_astore_n (lv' := [(3, .ref q9), (0, .ref (z + 0)), (1, .int (kI q)), (2, .ref (z + 137))]) hx hb dL_goBack_12 rfl hl (by decide) rfl (fun ls hl => ?_)
      refine r_iconst hx hb dL_goBack_13 ?_
      exact r_wret hx hb hr hlk G ⟨Nat.le_of_ble_eq_true rfl, Nat.le_of_ble_eq_true rfl⟩ (thr_n1 hp) (if_neg hno).symm dL_goBack_14
  refine lv_i2l hx hb dL_goBack_7 rfl ?_
  refine r_last hx hb G dL_goBack_8 (fun H locs G => ?_)
  refine lv_goto (tgt := 18) hx hb dL_goBack_9 (by decide) ?_
  refine r_iconst hx hb dL_goBack_18 ?_
  exact r_wret hx hb hr hlk G ⟨Nat.le_of_ble_eq_true rfl, Nat.le_of_ble_eq_true rfl⟩ (thr_y hok).symm (if_pos hok).symm dL_goBack_19
set_option maxRecDepth 100000 in
set_option maxHeartbeats 4000000 in
theorem k_L_undo (l : Launch) (hst0 : l.stackTraces = false) {σ : Mem} (hX : XC σ) (hz : 0 ≤ σ 15 1 ∧ σ 15 1 ≤ 6) : CtW l yL_undo (Cond.codeWith yL_undo cL_undo 3 (some .int) [(0, 8, 11, 22)]) 7 102 (fun z => [.ref (z + 0), .ref (z + 137)]) σ (thr (¬ σ 15 1 = 0) (True)) (aft (¬ σ 15 1 = 0) (True) (pop σ) (σ 15 1 - 1) σ) := by
  intro D T z
  refine CtW_of (by decide) (Nat.le_of_ble_eq_true rfl) ?_
  intro p e s m below meth c ls hx hb hml hr hts hown hlk G hl hv htab
  have hown : s.vm.findClass RL = some m.cls := hown
  have hl : lv_has ls 3 [(0, .ref (z + 0)), (1, .ref (z + 137))] := hl
  refine lv_aload_n hx hb dL_undo_0 rfl (lv_at hl 1 rfl) ?_
  refine r_iconst hx hb dL_undo_1 ?_
  refine lv_aload_n hx hb dL_undo_2 rfl (lv_at hl 0 rfl) ?_
  refine r_tryI ⟨hx, hb, hml, hown, hts⟩ G hv (k_X5_undo l hst0 (σ := σ) hX hz) (kVx_X5_undo hts qM_L_58 ⟨Nat.le_of_ble_eq_true rfl, Nat.le_of_ble_eq_true rfl⟩) (rc_X5 G) rfl rfl hl.1 rfl (Nat.le_of_ble_eq_true rfl) dL_undo_3 ⟨Nat.le_of_ble_eq_true rfl, Nat.le_of_ble_eq_true rfl⟩ (fun hno ce q9 H locs G hce hcv hcl => ?_) (fun hok H locs G => ?_)
  · skip
    refine vx_catch (E := ISE) (name := ISE) hown [] ⟨0, 8, 11, 22⟩ [] htab (fun z hz => absurd hz List.not_mem_nil) (by decide) (by decide) (hts _ qK_L_22) (hv.w _ (by decide)) hce hcv hcl ?_
    refine lv_astore_n (lv' := [(2, .ref q9), (0, .ref (z + 0)), (1, .ref (z + 137))]) hx hb dL_undo_11 rfl hl (by decide) rfl (fun ls hl => ?_)
    refine r_iconst hx hb dL_undo_12 ?_
    exact r_wret hx hb hr hlk G ⟨Nat.le_of_ble_eq_true rfl, Nat.le_of_ble_eq_true rfl⟩ (thr_n1 hno) (if_neg (fun z => hno z.1)).symm dL_undo_13
  refine lv_i2l hx hb dL_undo_6 rfl ?_
  refine r_last hx hb G dL_undo_7 (fun H locs G => ?_)
  refine lv_goto (tgt := 14) hx hb dL_undo_8 (by decide) ?_
  refine r_iconst hx hb dL_undo_14 ?_
  exact r_wret hx hb hr hlk G ⟨Nat.le_of_ble_eq_true rfl, Nat.le_of_ble_eq_true rfl⟩ (thr_y ⟨hok, trivial⟩).symm (if_pos ⟨hok, trivial⟩).symm dL_undo_15
set_option maxRecDepth 100000 in
set_option maxHeartbeats 4000000 in
theorem k_L_keyOf (l : Launch) (hst0 : l.stackTraces = false) {σ : Mem} {k y w : Int} (hk0 : inR k) (hy0 : inR y) (hw0 : inR w) (hS : IS σ) : CtW l yL_keyOf (Cond.codeWith yL_keyOf cL_keyOf 6 (some .int) [(0, 12, 15, 13), (0, 12, 19, 34)]) 8 127 (fun z => [.ref (z + 0), .int (kI k), .int (kI y), .int (kI w), .ref (z + 137)]) σ (thr (isY k y) (0 ≤ w ∧ w ≤ 4)) (aft (isY k y) (0 ≤ w ∧ w ≤ 4) (σ) (pok σ k y w) σ) := by
  intro D T z
  refine CtW_of (by decide) (Nat.le_of_ble_eq_true rfl) ?_
  intro p e s m below meth c ls hx hb hml hr hts hown hlk G hl hv htab
  have hown : s.vm.findClass RL = some m.cls := hown
  have hl : lv_has ls 6 [(0, .ref (z + 0)), (1, .int (kI k)), (2, .int (kI y)), (3, .int (kI w)), (4, .ref (z + 137))] := hl
  refine lv_aload hx hb dL_keyOf_0 (lv_at hl 4 rfl) ?_
  refine r_iconst hx hb dL_keyOf_2 ?_
  refine lv_aload_n hx hb dL_keyOf_3 rfl (lv_at hl 0 rfl) ?_
  refine lv_iload_n hx hb dL_keyOf_4 rfl (lv_at hl 1 rfl) ?_
  refine lv_iload_n hx hb dL_keyOf_5 rfl (lv_at hl 2 rfl) ?_
  refine lv_iload_n hx hb dL_keyOf_6 rfl (lv_at hl 3 rfl) ?_
  refine r_tryI ⟨hx, hb, hml, hown, hts⟩ G hv (k_X5_keyOf l hst0 (σ := σ) (k := k) (y := y) (w := w) hk0 hy0 hw0 hS) (kVx_X5_keyOf hts qM_L_61 ⟨Nat.le_of_ble_eq_true rfl, Nat.le_of_ble_eq_true rfl⟩) (rc_X5 G) rfl rfl hl.1 rfl (Nat.le_of_ble_eq_true rfl) dL_keyOf_7 ⟨Nat.le_of_ble_eq_true rfl, Nat.le_of_ble_eq_true rfl⟩ (fun hno ce q9 H locs G hce hcv hcl => ?_) (fun hok H locs G => ?_)
  · skip
    by_cases hp : isY k y
    · rw [if_pos hp] at hcl
      refine vx_catch (E := IAE) (name := IAE) hown [⟨0, 12, 15, 13⟩] ⟨0, 12, 19, 34⟩ [] htab (fun z hz => by rw [List.mem_singleton.mp hz]; exact Or.inr ⟨by decide, IOB, hts _ qK_L_13, hv.2.2 (IAE, IOB) (by decide)⟩) (by decide) (by decide) (hts _ qK_L_34) (hv.w _ (by decide)) hce hcv hcl ?_
      refine lv_astore (lv' := [(5, .ref q9), (0, .ref (z + 0)), (1, .int (kI k)), (2, .int (kI y)), (3, .int (kI w)), (4, .ref (z + 137))]) hx hb dL_keyOf_19 hl (by decide) rfl (fun ls hl => ?_)
      refine r_iconst hx hb dL_keyOf_21 ?_
      exact r_wret hx hb hr hlk G ⟨Nat.le_of_ble_eq_true rfl, Nat.le_of_ble_eq_true rfl⟩ (thr_n2 hp (fun z => hno ⟨hp, z⟩)) (if_neg hno).symm dL_keyOf_22
    · rw [if_neg hp] at hcl
      refine vx_catch (E := IOB) (name := IOB) hown [] ⟨0, 12, 15, 13⟩ [⟨0, 12, 19, 34⟩] htab (fun z hz => absurd hz List.not_mem_nil) (by decide) (by decide) (hts _ qK_L_13) (hv.w _ (by decide)) hce hcv hcl ?_
      refine lv_astore (lv' := [(5, .ref q9), (0, .ref (z + 0)), (1, .int (kI k)), (2, .int (kI y)), (3, .int (kI w)), (4, .ref (z + 137))]) hx hb dL_keyOf_15 hl (by decide) rfl (fun ls hl => ?_)
      refine r_iconst hx hb dL_keyOf_17 ?_
      exact r_wret hx hb hr hlk G ⟨Nat.le_of_ble_eq_true rfl, Nat.le_of_ble_eq_true rfl⟩ (thr_n1 hp) (if_neg hno).symm dL_keyOf_18
  refine lv_i2l hx hb dL_keyOf_10 rfl ?_
  refine r_last hx hb G dL_keyOf_11 (fun H locs G => ?_)
  refine lv_goto (tgt := 23) hx hb dL_keyOf_12 (by decide) ?_
  refine r_iconst hx hb dL_keyOf_23 ?_
  exact r_wret hx hb hr hlk G ⟨Nat.le_of_ble_eq_true rfl, Nat.le_of_ble_eq_true rfl⟩ (thr_y hok).symm (if_pos hok).symm dL_keyOf_24
set_option maxRecDepth 100000 in
set_option maxHeartbeats 4000000 in
theorem k_L_kindOf (l : Launch) (hst0 : l.stackTraces = false) {σ : Mem} {k w : Int} (hk0 : inR k) (hw0 : inR w) (hS : IS σ) : CtW l yL_kindOf (Cond.codeWith yL_kindOf cL_kindOf 5 (some .int) [(0, 10, 13, 13), (0, 10, 17, 34)]) 8 126 (fun z => [.ref (z + 0), .int (kI k), .int (kI w), .ref (z + 137)]) σ (thr (isK k) (0 ≤ w ∧ w ≤ 10)) (aft (isK k) (0 ≤ w ∧ w ≤ 10) (σ) (pkd σ k w) σ) := by
  intro D T z
  refine CtW_of (by decide) (Nat.le_of_ble_eq_true rfl) ?_
  intro p e s m below meth c ls hx hb hml hr hts hown hlk G hl hv htab
  have hown : s.vm.findClass RL = some m.cls := hown
  have hl : lv_has ls 5 [(0, .ref (z + 0)), (1, .int (kI k)), (2, .int (kI w)), (3, .ref (z + 137))] := hl
  refine lv_aload_n hx hb dL_kindOf_0 rfl (lv_at hl 3 rfl) ?_
  refine r_iconst hx hb dL_kindOf_1 ?_
  refine lv_aload_n hx hb dL_kindOf_2 rfl (lv_at hl 0 rfl) ?_
  refine lv_iload_n hx hb dL_kindOf_3 rfl (lv_at hl 1 rfl) ?_
  refine lv_iload_n hx hb dL_kindOf_4 rfl (lv_at hl 2 rfl) ?_
  refine r_tryI ⟨hx, hb, hml, hown, hts⟩ G hv (k_X5_kindOf l hst0 (σ := σ) (k := k) (w := w) hk0 hw0 hS) (kVx_X5_kindOf hts qM_L_64 ⟨Nat.le_of_ble_eq_true rfl, Nat.le_of_ble_eq_true rfl⟩) (rc_X5 G) rfl rfl hl.1 rfl (Nat.le_of_ble_eq_true rfl) dL_kindOf_5 ⟨Nat.le_of_ble_eq_true rfl, Nat.le_of_ble_eq_true rfl⟩ (fun hno ce q9 H locs G hce hcv hcl => ?_) (fun hok H locs G => ?_)
  · skip
    by_cases hp : isK k
    · rw [if_pos hp] at hcl
      refine vx_catch (E := IAE) (name := IAE) hown [⟨0, 10, 13, 13⟩] ⟨0, 10, 17, 34⟩ [] htab (fun z hz => by rw [List.mem_singleton.mp hz]; exact Or.inr ⟨by decide, IOB, hts _ qK_L_13, hv.2.2 (IAE, IOB) (by decide)⟩) (by decide) (by decide) (hts _ qK_L_34) (hv.w _ (by decide)) hce hcv hcl ?_
      refine lv_astore (lv' := [(4, .ref q9), (0, .ref (z + 0)), (1, .int (kI k)), (2, .int (kI w)), (3, .ref (z + 137))]) hx hb dL_kindOf_17 hl (by decide) rfl (fun ls hl => ?_)
      refine r_iconst hx hb dL_kindOf_19 ?_
      exact r_wret hx hb hr hlk G ⟨Nat.le_of_ble_eq_true rfl, Nat.le_of_ble_eq_true rfl⟩ (thr_n2 hp (fun z => hno ⟨hp, z⟩)) (if_neg hno).symm dL_kindOf_20
    · rw [if_neg hp] at hcl
      refine vx_catch (E := IOB) (name := IOB) hown [] ⟨0, 10, 13, 13⟩ [⟨0, 10, 17, 34⟩] htab (fun z hz => absurd hz List.not_mem_nil) (by decide) (by decide) (hts _ qK_L_13) (hv.w _ (by decide)) hce hcv hcl ?_
      refine lv_astore (lv' := [(4, .ref q9), (0, .ref (z + 0)), (1, .int (kI k)), (2, .int (kI w)), (3, .ref (z + 137))]) hx hb dL_kindOf_13 hl (by decide) rfl (fun ls hl => ?_)
      refine r_iconst hx hb dL_kindOf_15 ?_
      exact r_wret hx hb hr hlk G ⟨Nat.le_of_ble_eq_true rfl, Nat.le_of_ble_eq_true rfl⟩ (thr_n1 hp) (if_neg hno).symm dL_kindOf_16
  refine lv_i2l hx hb dL_kindOf_8 rfl ?_
  refine r_last hx hb G dL_kindOf_9 (fun H locs G => ?_)
  refine lv_goto (tgt := 21) hx hb dL_kindOf_10 (by decide) ?_
  refine r_iconst hx hb dL_kindOf_21 ?_
  exact r_wret hx hb hr hlk G ⟨Nat.le_of_ble_eq_true rfl, Nat.le_of_ble_eq_true rfl⟩ (thr_y hok).symm (if_pos hok).symm dL_kindOf_22
set_option maxRecDepth 100000 in
set_option maxHeartbeats 4000000 in
theorem k_L_pile (l : Launch) (hst0 : l.stackTraces = false) {σ : Mem} {k q : Int} (hk0 : inR k) (hq0 : inR q) (hS : IS σ) : CtW l yL_pile (Cond.codeWith yL_pile cL_pile 5 (some .int) [(0, 10, 13, 13), (0, 10, 17, 34)]) 8 125 (fun z => [.ref (z + 0), .int (kI k), .int (kI q), .ref (z + 137)]) σ (thr (isK k) (0 ≤ q)) (aft (isK k) (0 ≤ q) (σ) (kat σ k q) σ) := by
  intro D T z
  refine CtW_of (by decide) (Nat.le_of_ble_eq_true rfl) ?_
  intro p e s m below meth c ls hx hb hml hr hts hown hlk G hl hv htab
  have hown : s.vm.findClass RL = some m.cls := hown
  have hl : lv_has ls 5 [(0, .ref (z + 0)), (1, .int (kI k)), (2, .int (kI q)), (3, .ref (z + 137))] := hl
  refine lv_aload_n hx hb dL_pile_0 rfl (lv_at hl 3 rfl) ?_
  refine r_iconst hx hb dL_pile_1 ?_
  refine lv_aload_n hx hb dL_pile_2 rfl (lv_at hl 0 rfl) ?_
  refine lv_iload_n hx hb dL_pile_3 rfl (lv_at hl 1 rfl) ?_
  refine lv_iload_n hx hb dL_pile_4 rfl (lv_at hl 2 rfl) ?_
  refine r_tryI ⟨hx, hb, hml, hown, hts⟩ G hv (k_X5_pile l hst0 (σ := σ) (k := k) (q := q) hk0 hq0 hS) (kVx_X5_pile hts qM_L_67 ⟨Nat.le_of_ble_eq_true rfl, Nat.le_of_ble_eq_true rfl⟩) (rc_X5 G) rfl rfl hl.1 rfl (Nat.le_of_ble_eq_true rfl) dL_pile_5 ⟨Nat.le_of_ble_eq_true rfl, Nat.le_of_ble_eq_true rfl⟩ (fun hno ce q9 H locs G hce hcv hcl => ?_) (fun hok H locs G => ?_)
  · skip
    by_cases hp : isK k
    · rw [if_pos hp] at hcl
      refine vx_catch (E := IAE) (name := IAE) hown [⟨0, 10, 13, 13⟩] ⟨0, 10, 17, 34⟩ [] htab (fun z hz => by rw [List.mem_singleton.mp hz]; exact Or.inr ⟨by decide, IOB, hts _ qK_L_13, hv.2.2 (IAE, IOB) (by decide)⟩) (by decide) (by decide) (hts _ qK_L_34) (hv.w _ (by decide)) hce hcv hcl ?_
      refine lv_astore (lv' := [(4, .ref q9), (0, .ref (z + 0)), (1, .int (kI k)), (2, .int (kI q)), (3, .ref (z + 137))]) hx hb dL_pile_17 hl (by decide) rfl (fun ls hl => ?_)
      refine r_iconst hx hb dL_pile_19 ?_
      exact r_wret hx hb hr hlk G ⟨Nat.le_of_ble_eq_true rfl, Nat.le_of_ble_eq_true rfl⟩ (thr_n2 hp (fun z => hno ⟨hp, z⟩)) (if_neg hno).symm dL_pile_20
    · rw [if_neg hp] at hcl
      refine vx_catch (E := IOB) (name := IOB) hown [] ⟨0, 10, 13, 13⟩ [⟨0, 10, 17, 34⟩] htab (fun z hz => absurd hz List.not_mem_nil) (by decide) (by decide) (hts _ qK_L_13) (hv.w _ (by decide)) hce hcv hcl ?_
      refine lv_astore (lv' := [(4, .ref q9), (0, .ref (z + 0)), (1, .int (kI k)), (2, .int (kI q)), (3, .ref (z + 137))]) hx hb dL_pile_13 hl (by decide) rfl (fun ls hl => ?_)
      refine r_iconst hx hb dL_pile_15 ?_
      exact r_wret hx hb hr hlk G ⟨Nat.le_of_ble_eq_true rfl, Nat.le_of_ble_eq_true rfl⟩ (thr_n1 hp) (if_neg hno).symm dL_pile_16
  refine lv_i2l hx hb dL_pile_8 rfl ?_
  refine r_last hx hb G dL_pile_9 (fun H locs G => ?_)
  refine lv_goto (tgt := 21) hx hb dL_pile_10 (by decide) ?_
  refine r_iconst hx hb dL_pile_21 ?_
  exact r_wret hx hb hr hlk G ⟨Nat.le_of_ble_eq_true rfl, Nat.le_of_ble_eq_true rfl⟩ (thr_y hok).symm (if_pos hok).symm dL_pile_22
set_option maxRecDepth 100000 in
set_option maxHeartbeats 4000000 in
theorem k_L_count (l : Launch) (hst0 : l.stackTraces = false) {σ : Mem} {w : Int} (hw0 : inR w) (hS : IS σ) : CtW l yL_count (Cond.codeWith yL_count cL_count 4 (some .int) [(0, 9, 12, 34)]) 8 125 (fun z => [.ref (z + 0), .int (kI w), .ref (z + 137)]) σ (thr (0 ≤ w ∧ w ≤ 9) (True)) (aft (0 ≤ w ∧ w ≤ 9) (True) (σ) (nof σ w) σ) := by
  intro D T z
  refine CtW_of (by decide) (Nat.le_of_ble_eq_true rfl) ?_
  intro p e s m below meth c ls hx hb hml hr hts hown hlk G hl hv htab
  have hown : s.vm.findClass RL = some m.cls := hown
  have hl : lv_has ls 4 [(0, .ref (z + 0)), (1, .int (kI w)), (2, .ref (z + 137))] := hl
  refine lv_aload_n hx hb dL_count_0 rfl (lv_at hl 2 rfl) ?_
  refine r_iconst hx hb dL_count_1 ?_
  refine lv_aload_n hx hb dL_count_2 rfl (lv_at hl 0 rfl) ?_
  refine lv_iload_n hx hb dL_count_3 rfl (lv_at hl 1 rfl) ?_
  refine r_tryI ⟨hx, hb, hml, hown, hts⟩ G hv (k_X5_count l hst0 (σ := σ) (w := w) hw0 hS) (kVx_X5_count hts qM_L_70 ⟨Nat.le_of_ble_eq_true rfl, Nat.le_of_ble_eq_true rfl⟩) (rc_X5 G) rfl rfl hl.1 rfl (Nat.le_of_ble_eq_true rfl) dL_count_4 ⟨Nat.le_of_ble_eq_true rfl, Nat.le_of_ble_eq_true rfl⟩ (fun hno ce q9 H locs G hce hcv hcl => ?_) (fun hok H locs G => ?_)
  · skip
    refine vx_catch (E := IAE) (name := IAE) hown [] ⟨0, 9, 12, 34⟩ [] htab (fun z hz => absurd hz List.not_mem_nil) (by decide) (by decide) (hts _ qK_L_34) (hv.w _ (by decide)) hce hcv hcl ?_
    refine lv_astore_n (lv' := [(3, .ref q9), (0, .ref (z + 0)), (1, .int (kI w)), (2, .ref (z + 137))]) hx hb dL_count_12 rfl hl (by decide) rfl (fun ls hl => ?_)
    refine r_iconst hx hb dL_count_13 ?_
    exact r_wret hx hb hr hlk G ⟨Nat.le_of_ble_eq_true rfl, Nat.le_of_ble_eq_true rfl⟩ (thr_n1 hno) (if_neg (fun z => hno z.1)).symm dL_count_14
  refine lv_i2l hx hb dL_count_7 rfl ?_
  refine r_last hx hb G dL_count_8 (fun H locs G => ?_)
  refine lv_goto (tgt := 15) hx hb dL_count_9 (by decide) ?_
  refine r_iconst hx hb dL_count_15 ?_
  exact r_wret hx hb hr hlk G ⟨Nat.le_of_ble_eq_true rfl, Nat.le_of_ble_eq_true rfl⟩ (thr_y ⟨hok, trivial⟩).symm (if_pos ⟨hok, trivial⟩).symm dL_count_16
set_option maxRecDepth 100000 in
set_option maxHeartbeats 4000000 in
theorem k_L_setting (l : Launch) (hst0 : l.stackTraces = false) {σ : Mem} {k : Int} (hk0 : inR k) : CtW l yL_setting (Cond.codeWith yL_setting cL_setting 4 (some .int) [(0, 9, 12, 13)]) 8 123 (fun z => [.ref (z + 0), .int (kI k), .ref (z + 137)]) σ (thr (0 ≤ k ∧ k ≤ 2) (True)) (aft (0 ≤ k ∧ k ≤ 2) (True) (σ) (σ 14 k) σ) := by
  intro D T z
  refine CtW_of (by decide) (Nat.le_of_ble_eq_true rfl) ?_
  intro p e s m below meth c ls hx hb hml hr hts hown hlk G hl hv htab
  have hown : s.vm.findClass RL = some m.cls := hown
  have hl : lv_has ls 4 [(0, .ref (z + 0)), (1, .int (kI k)), (2, .ref (z + 137))] := hl
  refine lv_aload_n hx hb dL_setting_0 rfl (lv_at hl 2 rfl) ?_
  refine r_iconst hx hb dL_setting_1 ?_
  refine lv_aload_n hx hb dL_setting_2 rfl (lv_at hl 0 rfl) ?_
  refine lv_iload_n hx hb dL_setting_3 rfl (lv_at hl 1 rfl) ?_
  refine r_tryI ⟨hx, hb, hml, hown, hts⟩ G hv (k_X5_setting l hst0 (σ := σ) (k := k) hk0) (kVx_X5_setting hts qM_L_73 ⟨Nat.le_of_ble_eq_true rfl, Nat.le_of_ble_eq_true rfl⟩) (rc_X5 G) rfl rfl hl.1 rfl (Nat.le_of_ble_eq_true rfl) dL_setting_4 ⟨Nat.le_of_ble_eq_true rfl, Nat.le_of_ble_eq_true rfl⟩ (fun hno ce q9 H locs G hce hcv hcl => ?_) (fun hok H locs G => ?_)
  · skip
    refine vx_catch (E := IOB) (name := IOB) hown [] ⟨0, 9, 12, 13⟩ [] htab (fun z hz => absurd hz List.not_mem_nil) (by decide) (by decide) (hts _ qK_L_13) (hv.w _ (by decide)) hce hcv hcl ?_
    refine lv_astore_n (lv' := [(3, .ref q9), (0, .ref (z + 0)), (1, .int (kI k)), (2, .ref (z + 137))]) hx hb dL_setting_12 rfl hl (by decide) rfl (fun ls hl => ?_)
    refine r_iconst hx hb dL_setting_13 ?_
    exact r_wret hx hb hr hlk G ⟨Nat.le_of_ble_eq_true rfl, Nat.le_of_ble_eq_true rfl⟩ (thr_n1 hno) (if_neg (fun z => hno z.1)).symm dL_setting_14
  refine lv_i2l hx hb dL_setting_7 rfl ?_
  refine r_last hx hb G dL_setting_8 (fun H locs G => ?_)
  refine lv_goto (tgt := 15) hx hb dL_setting_9 (by decide) ?_
  refine r_iconst hx hb dL_setting_15 ?_
  exact r_wret hx hb hr hlk G ⟨Nat.le_of_ble_eq_true rfl, Nat.le_of_ble_eq_true rfl⟩ (thr_y ⟨hok, trivial⟩).symm (if_pos ⟨hok, trivial⟩).symm dL_setting_16
set_option maxRecDepth 100000 in
set_option maxHeartbeats 4000000 in
theorem k_L_ifAsked (l : Launch) (hst0 : l.stackTraces = false) {σ : Mem} {k : Int} (hk0 : inR k) (hS : IS σ) : CtW l yL_ifAsked (Cond.codeWith yL_ifAsked cL_ifAsked 4 (some .int) [(0, 9, 12, 13)]) 8 123 (fun z => [.ref (z + 0), .int (kI k), .ref (z + 137)]) σ (thr (isK k) (True)) (aft (isK k) (True) (σ) (atr σ k) σ) := by
  intro D T z
  refine CtW_of (by decide) (Nat.le_of_ble_eq_true rfl) ?_
  intro p e s m below meth c ls hx hb hml hr hts hown hlk G hl hv htab
  have hown : s.vm.findClass RL = some m.cls := hown
  have hl : lv_has ls 4 [(0, .ref (z + 0)), (1, .int (kI k)), (2, .ref (z + 137))] := hl
  refine lv_aload_n hx hb dL_ifAsked_0 rfl (lv_at hl 2 rfl) ?_
  refine r_iconst hx hb dL_ifAsked_1 ?_
  refine lv_aload_n hx hb dL_ifAsked_2 rfl (lv_at hl 0 rfl) ?_
  refine lv_iload_n hx hb dL_ifAsked_3 rfl (lv_at hl 1 rfl) ?_
  refine r_tryI ⟨hx, hb, hml, hown, hts⟩ G hv (k_X5_ifAsked l hst0 (σ := σ) (k := k) hk0 hS) (kVx_X5_ifAsked hts qM_L_76 ⟨Nat.le_of_ble_eq_true rfl, Nat.le_of_ble_eq_true rfl⟩) (rc_X5 G) rfl rfl hl.1 rfl (Nat.le_of_ble_eq_true rfl) dL_ifAsked_4 ⟨Nat.le_of_ble_eq_true rfl, Nat.le_of_ble_eq_true rfl⟩ (fun hno ce q9 H locs G hce hcv hcl => ?_) (fun hok H locs G => ?_)
  · skip
    refine vx_catch (E := IOB) (name := IOB) hown [] ⟨0, 9, 12, 13⟩ [] htab (fun z hz => absurd hz List.not_mem_nil) (by decide) (by decide) (hts _ qK_L_13) (hv.w _ (by decide)) hce hcv hcl ?_
    refine lv_astore_n (lv' := [(3, .ref q9), (0, .ref (z + 0)), (1, .int (kI k)), (2, .ref (z + 137))]) hx hb dL_ifAsked_12 rfl hl (by decide) rfl (fun ls hl => ?_)
    refine r_iconst hx hb dL_ifAsked_13 ?_
    exact r_wret hx hb hr hlk G ⟨Nat.le_of_ble_eq_true rfl, Nat.le_of_ble_eq_true rfl⟩ (thr_n1 hno) (if_neg (fun z => hno z.1)).symm dL_ifAsked_14
  refine lv_i2l hx hb dL_ifAsked_7 rfl ?_
  refine r_last hx hb G dL_ifAsked_8 (fun H locs G => ?_)
  refine lv_goto (tgt := 15) hx hb dL_ifAsked_9 (by decide) ?_
  refine r_iconst hx hb dL_ifAsked_15 ?_
  exact r_wret hx hb hr hlk G ⟨Nat.le_of_ble_eq_true rfl, Nat.le_of_ble_eq_true rfl⟩ (thr_y ⟨hok, trivial⟩).symm (if_pos ⟨hok, trivial⟩).symm dL_ifAsked_16
set_option maxRecDepth 100000 in
set_option maxHeartbeats 4000000 in
theorem k_L_keyIn (l : Launch) (hst0 : l.stackTraces = false) {σ : Mem} {k : Int} (hk0 : inR k) (hS : IS σ) : CtW l yL_keyIn (Cond.codeWith yL_keyIn cL_keyIn 4 (some .int) [(0, 9, 12, 13)]) 8 123 (fun z => [.ref (z + 0), .int (kI k), .ref (z + 137)]) σ (thr (isK k) (True)) (aft (isK k) (True) (σ) (dtk σ k) σ) := by
  intro D T z
  refine CtW_of (by decide) (Nat.le_of_ble_eq_true rfl) ?_
  intro p e s m below meth c ls hx hb hml hr hts hown hlk G hl hv htab
  have hown : s.vm.findClass RL = some m.cls := hown
  have hl : lv_has ls 4 [(0, .ref (z + 0)), (1, .int (kI k)), (2, .ref (z + 137))] := hl
  refine lv_aload_n hx hb dL_keyIn_0 rfl (lv_at hl 2 rfl) ?_
  refine r_iconst hx hb dL_keyIn_1 ?_
  refine lv_aload_n hx hb dL_keyIn_2 rfl (lv_at hl 0 rfl) ?_
  refine lv_iload_n hx hb dL_keyIn_3 rfl (lv_at hl 1 rfl) ?_
  refine r_tryI ⟨hx, hb, hml, hown, hts⟩ G hv (k_X5_keyIn l hst0 (σ := σ) (k := k) hk0 hS) (kVx_X5_keyIn hts qM_L_79 ⟨Nat.le_of_ble_eq_true rfl, Nat.le_of_ble_eq_true rfl⟩) (rc_X5 G) rfl rfl hl.1 rfl (Nat.le_of_ble_eq_true rfl) dL_keyIn_4 ⟨Nat.le_of_ble_eq_true rfl, Nat.le_of_ble_eq_true rfl⟩ (fun hno ce q9 H locs G hce hcv hcl => ?_) (fun hok H locs G => ?_)
  · skip
    refine vx_catch (E := IOB) (name := IOB) hown [] ⟨0, 9, 12, 13⟩ [] htab (fun z hz => absurd hz List.not_mem_nil) (by decide) (by decide) (hts _ qK_L_13) (hv.w _ (by decide)) hce hcv hcl ?_
    refine lv_astore_n (lv' := [(3, .ref q9), (0, .ref (z + 0)), (1, .int (kI k)), (2, .ref (z + 137))]) hx hb dL_keyIn_12 rfl hl (by decide) rfl (fun ls hl => ?_)
    refine r_iconst hx hb dL_keyIn_13 ?_
    exact r_wret hx hb hr hlk G ⟨Nat.le_of_ble_eq_true rfl, Nat.le_of_ble_eq_true rfl⟩ (thr_n1 hno) (if_neg (fun z => hno z.1)).symm dL_keyIn_14
  refine lv_i2l hx hb dL_keyIn_7 rfl ?_
  refine r_last hx hb G dL_keyIn_8 (fun H locs G => ?_)
  refine lv_goto (tgt := 15) hx hb dL_keyIn_9 (by decide) ?_
  refine r_iconst hx hb dL_keyIn_15 ?_
  exact r_wret hx hb hr hlk G ⟨Nat.le_of_ble_eq_true rfl, Nat.le_of_ble_eq_true rfl⟩ (thr_y ⟨hok, trivial⟩).symm (if_pos ⟨hok, trivial⟩).symm dL_keyIn_16
set_option maxRecDepth 100000 in
set_option maxHeartbeats 4000000 in
theorem k_L_coming (l : Launch) (hst0 : l.stackTraces = false) {σ : Mem} {k n : Int} (hk0 : inR k) (hn0 : inR n) (hS : IS σ) : CtW l yL_coming (Cond.codeWith yL_coming cL_coming 5 (some .int) [(0, 10, 13, 13), (0, 10, 17, 34)]) 8 126 (fun z => [.ref (z + 0), .int (kI k), .int (kI n), .ref (z + 137)]) σ (thr (isK k) (1 ≤ n ∧ n ≤ 16)) (aft (isK k) (1 ≤ n ∧ n ≤ 16) (σ) (kor σ k n) σ) := by
  intro D T z
  refine CtW_of (by decide) (Nat.le_of_ble_eq_true rfl) ?_
  intro p e s m below meth c ls hx hb hml hr hts hown hlk G hl hv htab
  have hown : s.vm.findClass RL = some m.cls := hown
  have hl : lv_has ls 5 [(0, .ref (z + 0)), (1, .int (kI k)), (2, .int (kI n)), (3, .ref (z + 137))] := hl
  refine lv_aload_n hx hb dL_coming_0 rfl (lv_at hl 3 rfl) ?_
  refine r_iconst hx hb dL_coming_1 ?_
  refine lv_aload_n hx hb dL_coming_2 rfl (lv_at hl 0 rfl) ?_
  refine lv_iload_n hx hb dL_coming_3 rfl (lv_at hl 1 rfl) ?_
  refine lv_iload_n hx hb dL_coming_4 rfl (lv_at hl 2 rfl) ?_
  refine r_tryI ⟨hx, hb, hml, hown, hts⟩ G hv (k_X5_coming l hst0 (σ := σ) (k := k) (n := n) hk0 hn0 hS) (kVx_X5_coming hts qM_L_82 ⟨Nat.le_of_ble_eq_true rfl, Nat.le_of_ble_eq_true rfl⟩) (rc_X5 G) rfl rfl hl.1 rfl (Nat.le_of_ble_eq_true rfl) dL_coming_5 ⟨Nat.le_of_ble_eq_true rfl, Nat.le_of_ble_eq_true rfl⟩ (fun hno ce q9 H locs G hce hcv hcl => ?_) (fun hok H locs G => ?_)
  · skip
    by_cases hp : isK k
    · rw [if_pos hp] at hcl
      refine vx_catch (E := IAE) (name := IAE) hown [⟨0, 10, 13, 13⟩] ⟨0, 10, 17, 34⟩ [] htab (fun z hz => by rw [List.mem_singleton.mp hz]; exact Or.inr ⟨by decide, IOB, hts _ qK_L_13, hv.2.2 (IAE, IOB) (by decide)⟩) (by decide) (by decide) (hts _ qK_L_34) (hv.w _ (by decide)) hce hcv hcl ?_
      refine lv_astore (lv' := [(4, .ref q9), (0, .ref (z + 0)), (1, .int (kI k)), (2, .int (kI n)), (3, .ref (z + 137))]) hx hb dL_coming_17 hl (by decide) rfl (fun ls hl => ?_)
      refine r_iconst hx hb dL_coming_19 ?_
      exact r_wret hx hb hr hlk G ⟨Nat.le_of_ble_eq_true rfl, Nat.le_of_ble_eq_true rfl⟩ (thr_n2 hp (fun z => hno ⟨hp, z⟩)) (if_neg hno).symm dL_coming_20
    · rw [if_neg hp] at hcl
      refine vx_catch (E := IOB) (name := IOB) hown [] ⟨0, 10, 13, 13⟩ [⟨0, 10, 17, 34⟩] htab (fun z hz => absurd hz List.not_mem_nil) (by decide) (by decide) (hts _ qK_L_13) (hv.w _ (by decide)) hce hcv hcl ?_
      refine lv_astore (lv' := [(4, .ref q9), (0, .ref (z + 0)), (1, .int (kI k)), (2, .int (kI n)), (3, .ref (z + 137))]) hx hb dL_coming_13 hl (by decide) rfl (fun ls hl => ?_)
      refine r_iconst hx hb dL_coming_15 ?_
      exact r_wret hx hb hr hlk G ⟨Nat.le_of_ble_eq_true rfl, Nat.le_of_ble_eq_true rfl⟩ (thr_n1 hp) (if_neg hno).symm dL_coming_16
  refine lv_i2l hx hb dL_coming_8 rfl ?_
  refine r_last hx hb G dL_coming_9 (fun H locs G => ?_)
  refine lv_goto (tgt := 21) hx hb dL_coming_10 (by decide) ?_
  refine r_iconst hx hb dL_coming_21 ?_
  exact r_wret hx hb hr hlk G ⟨Nat.le_of_ble_eq_true rfl, Nat.le_of_ble_eq_true rfl⟩ (thr_y hok).symm (if_pos hok).symm dL_coming_22
set_option maxRecDepth 100000 in
set_option maxHeartbeats 4000000 in
theorem k_L_longest (l : Launch) (hst0 : l.stackTraces = false) {σ : Mem} {k : Int} (hk0 : inR k) (hS : IS σ) : CtW l yL_longest (Cond.codeWith yL_longest cL_longest 4 (some .int) [(0, 9, 12, 13)]) 8 123 (fun z => [.ref (z + 0), .int (kI k), .ref (z + 137)]) σ (thr (isK k) (True)) (aft (isK k) (True) (σ) (lgs σ k) σ) := by
  intro D T z
  refine CtW_of (by decide) (Nat.le_of_ble_eq_true rfl) ?_
  intro p e s m below meth c ls hx hb hml hr hts hown hlk G hl hv htab
  have hown : s.vm.findClass RL = some m.cls := hown
  have hl : lv_has ls 4 [(0, .ref (z + 0)), (1, .int (kI k)), (2, .ref (z + 137))] := hl
  refine lv_aload_n hx hb dL_longest_0 rfl (lv_at hl 2 rfl) ?_
  refine r_iconst hx hb dL_longest_1 ?_
  refine lv_aload_n hx hb dL_longest_2 rfl (lv_at hl 0 rfl) ?_
  refine lv_iload_n hx hb dL_longest_3 rfl (lv_at hl 1 rfl) ?_
  refine r_tryI ⟨hx, hb, hml, hown, hts⟩ G hv (k_X5_longest l hst0 (σ := σ) (k := k) hk0 hS) (kVx_X5_longest hts qM_L_85 ⟨Nat.le_of_ble_eq_true rfl, Nat.le_of_ble_eq_true rfl⟩) (rc_X5 G) rfl rfl hl.1 rfl (Nat.le_of_ble_eq_true rfl) dL_longest_4 ⟨Nat.le_of_ble_eq_true rfl, Nat.le_of_ble_eq_true rfl⟩ (fun hno ce q9 H locs G hce hcv hcl => ?_) (fun hok H locs G => ?_)
  · skip
    refine vx_catch (E := IOB) (name := IOB) hown [] ⟨0, 9, 12, 13⟩ [] htab (fun z hz => absurd hz List.not_mem_nil) (by decide) (by decide) (hts _ qK_L_13) (hv.w _ (by decide)) hce hcv hcl ?_
    refine lv_astore_n (lv' := [(3, .ref q9), (0, .ref (z + 0)), (1, .int (kI k)), (2, .ref (z + 137))]) hx hb dL_longest_12 rfl hl (by decide) rfl (fun ls hl => ?_)
    refine r_iconst hx hb dL_longest_13 ?_
    exact r_wret hx hb hr hlk G ⟨Nat.le_of_ble_eq_true rfl, Nat.le_of_ble_eq_true rfl⟩ (thr_n1 hno) (if_neg (fun z => hno z.1)).symm dL_longest_14
  refine lv_i2l hx hb dL_longest_7 rfl ?_
  refine r_last hx hb G dL_longest_8 (fun H locs G => ?_)
  refine lv_goto (tgt := 15) hx hb dL_longest_9 (by decide) ?_
  refine r_iconst hx hb dL_longest_15 ?_
  exact r_wret hx hb hr hlk G ⟨Nat.le_of_ble_eq_true rfl, Nat.le_of_ble_eq_true rfl⟩ (thr_y ⟨hok, trivial⟩).symm (if_pos ⟨hok, trivial⟩).symm dL_longest_16
set_option maxRecDepth 100000 in
set_option maxHeartbeats 4000000 in
theorem k_L_ifFollowed (l : Launch) (hst0 : l.stackTraces = false) {σ : Mem} {k y q : Int} (hk0 : inR k) (hy0 : inR y) (hq0 : inR q) (hS : IS σ) : CtW l yL_ifFollowed (Cond.codeWith yL_ifFollowed cL_ifFollowed 6 (some .int) [(0, 12, 15, 13), (0, 12, 19, 34)]) 8 126 (fun z => [.ref (z + 0), .int (kI k), .int (kI y), .int (kI q), .ref (z + 137)]) σ (thr (isY k y) (1 ≤ q)) (aft (isY k y) (1 ≤ q) (σ) (jud σ k y q) σ) := by
  intro D T z
  refine CtW_of (by decide) (Nat.le_of_ble_eq_true rfl) ?_
  intro p e s m below meth c ls hx hb hml hr hts hown hlk G hl hv htab
  have hown : s.vm.findClass RL = some m.cls := hown
  have hl : lv_has ls 6 [(0, .ref (z + 0)), (1, .int (kI k)), (2, .int (kI y)), (3, .int (kI q)), (4, .ref (z + 137))] := hl
  refine lv_aload hx hb dL_ifFollowed_0 (lv_at hl 4 rfl) ?_
  refine r_iconst hx hb dL_ifFollowed_2 ?_
  refine lv_aload_n hx hb dL_ifFollowed_3 rfl (lv_at hl 0 rfl) ?_
  refine lv_iload_n hx hb dL_ifFollowed_4 rfl (lv_at hl 1 rfl) ?_
  refine lv_iload_n hx hb dL_ifFollowed_5 rfl (lv_at hl 2 rfl) ?_
  refine lv_iload_n hx hb dL_ifFollowed_6 rfl (lv_at hl 3 rfl) ?_
  refine r_tryI ⟨hx, hb, hml, hown, hts⟩ G hv (k_X5_ifFollowed l hst0 (σ := σ) (k := k) (y := y) (q := q) hk0 hy0 hq0 hS) (kVx_X5_ifFollowed hts qM_L_88 ⟨Nat.le_of_ble_eq_true rfl, Nat.le_of_ble_eq_true rfl⟩) (rc_X5 G) rfl rfl hl.1 rfl (Nat.le_of_ble_eq_true rfl) dL_ifFollowed_7 ⟨Nat.le_of_ble_eq_true rfl, Nat.le_of_ble_eq_true rfl⟩ (fun hno ce q9 H locs G hce hcv hcl => ?_) (fun hok H locs G => ?_)
  · skip
    by_cases hp : isY k y
    · rw [if_pos hp] at hcl
      refine vx_catch (E := IAE) (name := IAE) hown [⟨0, 12, 15, 13⟩] ⟨0, 12, 19, 34⟩ [] htab (fun z hz => by rw [List.mem_singleton.mp hz]; exact Or.inr ⟨by decide, IOB, hts _ qK_L_13, hv.2.2 (IAE, IOB) (by decide)⟩) (by decide) (by decide) (hts _ qK_L_34) (hv.w _ (by decide)) hce hcv hcl ?_
      refine lv_astore (lv' := [(5, .ref q9), (0, .ref (z + 0)), (1, .int (kI k)), (2, .int (kI y)), (3, .int (kI q)), (4, .ref (z + 137))]) hx hb dL_ifFollowed_19 hl (by decide) rfl (fun ls hl => ?_)
      refine r_iconst hx hb dL_ifFollowed_21 ?_
      exact r_wret hx hb hr hlk G ⟨Nat.le_of_ble_eq_true rfl, Nat.le_of_ble_eq_true rfl⟩ (thr_n2 hp (fun z => hno ⟨hp, z⟩)) (if_neg hno).symm dL_ifFollowed_22
    · rw [if_neg hp] at hcl
      refine vx_catch (E := IOB) (name := IOB) hown [] ⟨0, 12, 15, 13⟩ [⟨0, 12, 19, 34⟩] htab (fun z hz => absurd hz List.not_mem_nil) (by decide) (by decide) (hts _ qK_L_13) (hv.w _ (by decide)) hce hcv hcl ?_
      refine lv_astore (lv' := [(5, .ref q9), (0, .ref (z + 0)), (1, .int (kI k)), (2, .int (kI y)), (3, .int (kI q)), (4, .ref (z + 137))]) hx hb dL_ifFollowed_15 hl (by decide) rfl (fun ls hl => ?_)
      refine r_iconst hx hb dL_ifFollowed_17 ?_
      exact r_wret hx hb hr hlk G ⟨Nat.le_of_ble_eq_true rfl, Nat.le_of_ble_eq_true rfl⟩ (thr_n1 hp) (if_neg hno).symm dL_ifFollowed_18
  refine lv_i2l hx hb dL_ifFollowed_10 rfl ?_
  refine r_last hx hb G dL_ifFollowed_11 (fun H locs G => ?_)
  refine lv_goto (tgt := 23) hx hb dL_ifFollowed_12 (by decide) ?_
  refine r_iconst hx hb dL_ifFollowed_23 ?_
  exact r_wret hx hb hr hlk G ⟨Nat.le_of_ble_eq_true rfl, Nat.le_of_ble_eq_true rfl⟩ (thr_y hok).symm (if_pos hok).symm dL_ifFollowed_24
set_option maxRecDepth 100000 in
set_option maxHeartbeats 4000000 in
theorem k_L_meanAge (l : Launch) (hst0 : l.stackTraces = false) {σ : Mem} {k : Int} (hk0 : inR k) (hS : IS σ) : CtW l yL_meanAge (Cond.codeWith yL_meanAge cL_meanAge 4 (some .int) [(0, 9, 12, 13)]) 8 123 (fun z => [.ref (z + 0), .int (kI k), .ref (z + 138)]) σ (thr (isK k) (True)) (if isK k ∧ True then up σ 138 0 ((FP.f2d (mnW (dsm σ k) (hm σ k 2))).toNat : Int) else σ) := by
  intro D T z
  refine CtW_of (by decide) (Nat.le_of_ble_eq_true rfl) ?_
  intro p e s m below meth c ls hx hb hml hr hts hown hlk G hl hv htab
  have hown : s.vm.findClass RL = some m.cls := hown
  have hl : lv_has ls 4 [(0, .ref (z + 0)), (1, .int (kI k)), (2, .ref (z + 138))] := hl
  refine lv_aload_n hx hb dL_meanAge_0 rfl (lv_at hl 2 rfl) ?_
  refine r_iconst hx hb dL_meanAge_1 ?_
  refine lv_aload_n hx hb dL_meanAge_2 rfl (lv_at hl 0 rfl) ?_
  refine lv_iload_n hx hb dL_meanAge_3 rfl (lv_at hl 1 rfl) ?_
  refine r_tryF ⟨hx, hb, hml, hown, hts⟩ G hv (k_X5_meanAge l hst0 (σ := σ) (k := k) hk0 hS) (kVx_X5_meanAge hts qM_L_91 ⟨Nat.le_of_ble_eq_true rfl, Nat.le_of_ble_eq_true rfl⟩) (rc_X5 G) rfl rfl hl.1 rfl (Nat.le_of_ble_eq_true rfl) dL_meanAge_4 ⟨Nat.le_of_ble_eq_true rfl, Nat.le_of_ble_eq_true rfl⟩ (fun hno ce q9 H locs G hce hcv hcl => ?_) (fun hok H locs G => ?_)
  · skip
    refine vx_catch (E := IOB) (name := IOB) hown [] ⟨0, 9, 12, 13⟩ [] htab (fun z hz => absurd hz List.not_mem_nil) (by decide) (by decide) (hts _ qK_L_13) (hv.w _ (by decide)) hce hcv hcl ?_
    refine lv_astore_n (lv' := [(3, .ref q9), (0, .ref (z + 0)), (1, .int (kI k)), (2, .ref (z + 138))]) hx hb dL_meanAge_12 rfl hl (by decide) rfl (fun ls hl => ?_)
    refine r_iconst hx hb dL_meanAge_13 ?_
    exact r_wret hx hb hr hlk G ⟨Nat.le_of_ble_eq_true rfl, Nat.le_of_ble_eq_true rfl⟩ (thr_n1 hno) (if_neg (fun z => hno z.1)).symm dL_meanAge_14
  have hfd : FPq (mnW (dsm σ k) (hm σ k 2)) := mnW_ok (by have := dsm_rg hS.1 (k := k) (by omega); omega) (by have := hm_rg (σ := σ) (k := k) (w := 2); omega)
  refine lv_f2d hx hb dL_meanAge_7 hfd.n2 ?_
  refine r_dast hx hb G dL_meanAge_8 (fun H locs G => ?_)
  refine lv_goto (tgt := 15) hx hb dL_meanAge_9 (by decide) ?_
  refine r_iconst hx hb dL_meanAge_15 ?_
  exact r_wret hx hb hr hlk G ⟨Nat.le_of_ble_eq_true rfl, Nat.le_of_ble_eq_true rfl⟩ (thr_y ⟨hok, trivial⟩).symm (if_pos ⟨hok, trivial⟩).symm dL_meanAge_16
