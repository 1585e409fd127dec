/-! THE LAW'S OWN CALLS of the class, each caught -/
def CtW (l : Launch) (y : MethodName) (cw : Cond) (fr lo : Nat) (As : Nat → List Value) (σ : Mem) (ret : Int) (τ : Mem) : Prop := ∀ (D : va_G) (T : Nat → ClassId) (z : Nat), Met l y (cw :: Gw) (rmX fr lo 2 12) (va_Pc (As z) (fun U => St D T z 133 σ U ∧ Xv U)) (QI D T z 133 ret τ) 2 12 (Own T z)
theorem CtW_of {l : Launch} {y : MethodName} {cc : ByteArray} {maxL : Nat} {ret : Option FieldType} {hh : List (Nat × Nat × Nat × Nat)} {fr lo : Nat} {As : List Value} {D : va_G} {T : Nat → ClassId} {z : Nat} {σ : Mem} {Qc : Array Value → State → Outcome → State → Prop} (hy : plainName y.cls = true) (hA : (lg_sl As).length ≤ maxL)
    (body : ∀ (p : Program) (e : Env) (s : State) (m : MethodId) (below : List Frame) (meth : Method) (c : Code) (ls : Array Slot), p.tables.exec = Jvm.exec → c.code = cc → c.maxLocals = maxL → meth.sig.returnType = ret → (∀ w ∈ Gw, w.before As.toArray s = true) → s.vm.findClass y.cls = some m.cls → meth.locks = false → Wd D T z 133 σ s s.heap [] → lv_has ls maxL (lv_args 0 As) → Xv s → c.exceptionTable.toList = tableOf hh →
      W p l e (rmX fr lo 2 12) s m As.toArray below meth c s.heap [] 0 0 (MQ below Qc As.toArray s 2 12 (Own T z)) (F0 m 0 ls [])) :
    Met l y (Cond.codeWith y cc maxL ret hh :: Gw) (rmX fr lo 2 12) (va_Pc As (fun U => St D T z 133 σ U ∧ Xv U)) Qc 2 12 (Own T z) := by
  refine va_MetW (cc := cc) (maxL := maxL) (ret := ret) (hh := hh) hy rfl ?_
  intro p e s m args below meth c s₁ B hml hv
  obtain ⟨rfl, hst, hXv⟩ := hv
  have hts := atoms_spec (ws := Cond.codeWith y cc maxL ret hh :: Gw) B.pre
  have htab := vx_table (x := y) B (hts _ List.mem_cons_self)
  have hl := lv_entry As (n := maxL) hA
  rw [lg_entry_eq]
  exact body p e s m below meth c _ B.exec B.bytes hml B.returns (fun w h => hts w (List.mem_cons_of_mem _ h)) (findClass_of_methodNamed B.named) B.notSynchronized (Wd.of hst) hl hXv htab
def thv (P Q : Prop) [Decidable P] [Decidable Q] (r : Int) : Int := if P then (if Q then r else -2000002) else -2000001
def afv (P Q : Prop) [Decidable P] [Decidable Q] (M σ : Mem) : Mem := if P ∧ Q then M else σ
theorem thv_y {P Q : Prop} [Decidable P] [Decidable Q] {r : Int} (h : P) (hq : Q) : thv P Q r = r := by unfold thv; rw [if_pos h, if_pos hq]
theorem thv_1 {P Q : Prop} [Decidable P] [Decidable Q] {r : Int} (h : ¬ P) : thv P Q r = -2000001 := by unfold thv; rw [if_neg h]
theorem thv_2 {P Q : Prop} [Decidable P] [Decidable Q] {r : Int} (h : P) (hq : ¬ Q) : thv P Q r = -2000002 := by unfold thv; rw [if_pos h, if_neg hq]
theorem afv_y {P Q : Prop} [Decidable P] [Decidable Q] {M σ : Mem} (h : P) (hq : Q) : afv P Q M σ = M := if_pos ⟨h, hq⟩
theorem afv_n {P Q : Prop} [Decidable P] [Decidable Q] {M σ : Mem} (h : ¬ (P ∧ Q)) : afv P Q M σ = σ := if_neg h
theorem afv_s {P Q : Prop} [Decidable P] [Decidable Q] {σ : Mem} : afv P Q σ σ = σ := by unfold afv; split <;> rfl
section LC
variable {p : Program} {l : Launch} {e : Env} {R : Room} {s : State} {m : MethodId} {args : Array Value} {below : List Frame} {meth : Method} {c : Code} {H : Heap} {locs : List Loc} {cells slots : Nat} {Q : State → Prop}
variable {cc : ByteArray} {pc : Nat} {ls : Array Slot} {rest st : List Value} {D : va_G} {T : Nat → ClassId} {z : Nat} {σ τ τ' : Mem}
theorem r_ldc (hx : p.tables.exec = Jvm.exec) (hb : c.code = cc) (hts : ∀ w ∈ Gw, w.before args s = true) {own : String} {idx : Nat} {v : Int32} {n : Int} (hown : s.vm.findClass own = some m.cls) (hq : Cond.constant own idx v ∈ Gw) (hv : v = kI n) (hdg : decode cc pc = .ok (.ldc idx, 2)) (kk : W p l e R s m args below meth c H locs cells slots Q (F0 m (pc + 2) ls (.int (kI n) :: rest))) : W p l e R s m args below meth c H locs cells slots Q (F0 m pc ls rest) := lv_ldc hx hb hown (hts _ hq) hdg (by rw [hv]; exact kk)
theorem r_wret {ret : Int} (hx : p.tables.exec = Jvm.exec) (hb : c.code = cc) (hr : meth.sig.returnType = some .int) (hlk : meth.locks = false) (G : Wd D T z 133 τ' s H locs) (hc : cells ≤ 2 ∧ slots ≤ 12) {v : Int} (hv : v = ret) (hτ : τ' = τ) (hdg : decode cc pc = .ok (.ireturn, 1)) : W p l e R s m args below meth c H locs cells slots (MQ below (QI D T z 133 ret τ) args s 2 12 (Own T z)) (F0 m pc ls [.int (kI v)]) := by
  subst hv; subst hτ
  exact W.widen hc.1 hc.2 (W.iret hx hb hr (fun t ht hW => ⟨⟨kI v, τ', rfl, ⟨rfl, rfl⟩, G.st ht hW.alike⟩, G.2.2.1.F ht⟩) G.2.2.1.2.2 hdg hlk)
section CALLS
variable {own C : String} {idx na maxL nL fr lo mc ms a0 : Nat} {y : MethodName} {bytes : ByteArray} {rt : Option FieldType} {As As' : List Value} {ok : Prop} {exc : String}
theorem r_tryI {ret : Int} (S : CallFix p m c cc nL s args Gw own) (G : Wd D T z 133 σ s H locs) (hv : Xv s) {Az : Nat → List Value} (hM : CtXI l y (Cond.code y bytes maxL rt) fr lo mc ms Az σ ok ret τ exc) (cw : CallW R s args own C idx y bytes maxL rt (Cond.code y bytes maxL rt :: Gw) (rmX fr lo mc ms) mc ms na) (hrv : ∃ cell : Cell, H[a0]? = some cell ∧ cell.vm.isStatics = false ∧ s.vm.findClass C = some cell.cls)
    (hAs : Az z = .ref a0 :: As') (hn : As'.length = na) (hsz : ls.size = nL) (hst : st = As'.reverse ++ .ref a0 :: rest) (hW : (rest.map fun v => v.category).sum ≤ 8) (hdg : decode cc pc = .ok (.invokevirtual idx, 3)) (hf : cells + mc ≤ R.cells ∧ slots + ms ≤ R.slots)
    (kx : ¬ ok → ∀ (ce : Cell) (q : Nat) (H1 : Heap) (locs1 : List Loc), Wd D T z 133 σ s H1 locs1 → H1[q]? = some ce → ce.vm = .none → s.vm.findClass exc = some ce.cls → vx_W p l e R s m args below meth c H1 locs1 (cells + mc) (slots + ms) Q (F0 m pc ls rest) q)
    (kk : ok → ∀ (H1 : Heap) (locs1 : List Loc), Wd D T z 133 τ s H1 locs1 → W p l e R s m args below meth c H1 locs1 (cells + mc) (slots + ms) Q (F0 m (pc + 3) ls (.int (kI ret) :: rest))) : W p l e R s m args below meth c H locs cells slots Q (F0 m pc ls st) := by
  refine vx_calli (vx_runV (As := As') (rest := rest) (g := F0 m pc ls st) S (hM D T z) cw ⟨Stx_blind, hrv, fun U hU hWm => ⟨by rw [hAs], G.st hU hWm.alike, hv.warm hWm⟩⟩ rfl hn hsz hst (lv_room (pc := pc) (ls := ls) (rest := st) hW) hdg hf) G.2.2.1 (fun q _ h => h) (fun q h => h) (fun q _ h => h) (fun E ce q9 u t H1 locs1 ht hvm hp hB hz hq hS hce hcv hcl => ?_) (fun r u t H1 locs1 ht hvm hw hB hz1 hk1 hS => ?_)
  · obtain ⟨hno, rfl⟩ := hp
    obtain ⟨rfl, hP⟩ := hB
    exact kx hno ce q9 H1 locs1 (G.nextP hP ht hS) hce hcv hcl
  · obtain ⟨hok, rfl, rfl⟩ := hw
    exact kk hok H1 locs1 (G.next hB ht hS)
/-- a call of the law's own, with handlers -/
theorem r_callW {hh : List (Nat × Nat × Nat × Nat)} {ret : Int} (S : CallFix p m c cc nL s args Gw own) (G : Wd D T z 133 σ s H locs) (hv : Xv s) {Az : Nat → List Value} (hM : CtW l y (Cond.codeWith y bytes maxL rt hh) fr lo Az σ ret τ) (hcw : Cond.codeWith y bytes maxL rt hh ∈ Gw) (hk : Cond.methodLink own idx y ∈ Gw) (hstt : Cond.static y ∈ Gw) (hini : Cond.initialized y.cls ∈ Gw) (hd : y.cls ≠ "java/lang/invoke/MethodHandle" ∧ y.cls ≠ "java/lang/invoke/VarHandle" ∧ (parseMethodDescriptor y.desc).map (fun d => d.parameters.length) = some na) (hR : fr + 1 ≤ R.frames ∧ 8 + (maxL + 11) + lo ≤ R.locals)
    (hAs : Az z = As') (hn : As'.length = na) (hsz : ls.size = nL) (hst : st = As'.reverse ++ rest) (hW : (rest.map fun v => v.category).sum ≤ 8) (hdg : decode cc pc = .ok (.invokestatic idx, 3)) (hf : cells + 2 ≤ R.cells ∧ slots + 12 ≤ R.slots)
    (kk : ∀ (H1 : Heap) (locs1 : List Loc), Wd D T z 133 τ s H1 locs1 → W p l e R s m args below meth c H1 locs1 (cells + 2) (slots + 12) Q (F0 m (pc + 3) ls (.int (kI ret) :: rest))) : W p l e R s m args below meth c H locs cells slots Q (F0 m pc ls st) := by
  have hts := S.2.2.2.2
  have hgw : GoodIn Gw (va_wsS own idx y (Cond.codeWith y bytes maxL rt hh :: Gw)) := fun w h => by
    have hw : w ∈ Gw := by
      simp only [va_wsS, List.cons_append, List.nil_append, List.mem_cons] at h
      rcases h with rfl | rfl | rfl | rfl | h
      · exact hk
      · exact hstt
      · exact hini
      · exact hcw
      · exact h
    exact ⟨hw, good_of_word (Gw_good hw)⟩
  refine va_calli (vx_runSW (As := As') (rest := rest) (g := F0 m pc ls st) S (hM D T z) (vx_cwSW na hts hgw rfl rfl rfl hd hR) ⟨Stx_blind, fun U hU hWm => ⟨by rw [hAs], G.st hU hWm.alike, hv.warm hWm⟩⟩ rfl hn hsz hst (lv_room (pc := pc) (ls := ls) (rest := st) hW) hdg hf) G.2.2.1 (fun q _ h => h) (fun q h => h) (fun r u t H1 locs1 ht hvm hw hB hz1 hk1 hS => ?_)
  obtain ⟨rfl, rfl⟩ := hw
  exact kk H1 locs1 (G.next hB ht hS)
/-! the law's methods without handlers: they hold a row of their own, or none -/
def CtK (l : Launch) (y : MethodName) (cw : Cond) (fr lo mc ms : Nat) (As : Nat → List Value) (σ : Mem) (ret : Int) (τ : Mem) : Prop := ∀ (D : va_G) (T : Nat → ClassId) (z : Nat), hol T < z → Met l y (cw :: Gw) (rmX fr lo mc ms) (va_Pc (As z) (fun U => St D T z 133 σ U ∧ Xv U)) (QI D T z 133 ret τ) mc ms (Own T z)
theorem CtK_of {l : Launch} {y : MethodName} {cc : ByteArray} {maxL : Nat} {ret : Option FieldType} {fr lo mc ms : Nat} {As : List Value} {D : va_G} {T : Nat → ClassId} {z : Nat} {σ : Mem} {Qc : Array Value → State → Outcome → State → Prop} (hy : plainName y.cls = true) (hA : (lg_sl As).length ≤ maxL)
    (body : ∀ (p : Program) (e : Env) (s : State) (m : MethodId) (below : List Frame) (meth : Method) (c : Code) (ls : Array Slot), p.tables.exec = Jvm.exec → c.code = cc → c.maxLocals = maxL → meth.sig.returnType = ret → (∀ w ∈ Gw, w.before As.toArray s = true) → s.vm.findClass y.cls = some m.cls → meth.locks = false → Wd D T z 133 σ s s.heap [] → lv_has ls maxL (lv_args 0 As) → Xv s →
      W p l e (rmX fr lo mc ms) s m As.toArray below meth c s.heap [] 0 0 (MQ below Qc As.toArray s mc ms (Own T z)) (F0 m 0 ls [])) :
    Met l y (Cond.code y cc maxL ret :: Gw) (rmX fr lo mc ms) (va_Pc As (fun U => St D T z 133 σ U ∧ Xv U)) Qc mc ms (Own T z) := by
  refine Met.ofW (cc := cc) (maxL := maxL) (ret := ret) hy rfl ?_
  intro p e s m args below meth c s₁ B hml hv
  obtain ⟨rfl, hst, hXv⟩ := hv
  have hts := atoms_spec (ws := Cond.code y cc maxL ret :: Gw) B.pre
  have hl := lv_entry As (n := maxL) hA
  rw [lg_entry_eq]
  exact body p e s m below meth c _ B.exec B.bytes hml B.returns (fun w h => hts w (List.mem_cons_of_mem _ h)) (findClass_of_methodNamed B.named) B.notSynchronized (Wd.of hst) hl hXv
theorem r_callK {ret : Int} (S : CallFix p m c cc nL s args Gw own) (hT : hol T < z) (G : Wd D T z 133 σ s H locs) (hv : Xv s) {Az : Nat → List Value} (hM : CtK l y (Cond.code y bytes maxL rt) fr lo mc ms Az σ ret τ) (cw : CallB R s args own idx y bytes maxL rt (Cond.code y bytes maxL rt :: Gw) (rmX fr lo mc ms) mc ms na ∧ (Cond.static y).before args s = true)
    (hAs : Az z = As') (hn : As'.length = na) (hsz : ls.size = nL) (hst : st = As'.reverse ++ rest) (hW : (rest.map fun v => v.category).sum ≤ 8) (hdg : decode cc pc = .ok (.invokestatic idx, 3)) (hf : cells + mc ≤ R.cells ∧ slots + ms ≤ R.slots)
    (kk : ∀ (H1 : Heap) (locs1 : List Loc), Wd D T z 133 τ s H1 locs1 → W p l e R s m args below meth c H1 locs1 (cells + mc) (slots + ms) Q (F0 m (pc + 3) ls (.int (kI ret) :: rest))) : W p l e R s m args below meth c H locs cells slots Q (F0 m pc ls st) := by
  refine va_calli (va_runS (As := As') (rest := rest) (g := F0 m pc ls st) S (hM D T z hT) cw ⟨Stx_blind, fun U hU hWm => ⟨by rw [hAs], G.st hU hWm.alike, hv.warm hWm⟩⟩ rfl hn hsz hst (lv_room (pc := pc) (ls := ls) (rest := st) hW) hdg hf) G.2.2.1 (fun q _ h => h) (fun q h => h) (fun r u t H1 locs1 ht hvm hw hB hz1 hk1 hS => ?_)
  obtain ⟨rfl, rfl⟩ := hw
  exact kk H1 locs1 (G.next hB ht hS)
theorem r_kret {ret : Int} (hx : p.tables.exec = Jvm.exec) (hb : c.code = cc) (hr : meth.sig.returnType = some .int) (hlk : meth.locks = false) (G : Wd D T z 133 τ' s H locs) (hc : cells ≤ mc ∧ slots ≤ ms) {v : Int} (hv : v = ret) (hτ : τ' = τ) (hdg : decode cc pc = .ok (.ireturn, 1)) : W p l e R s m args below meth c H locs cells slots (MQ below (QI D T z 133 ret τ) args s mc ms (Own T z)) (F0 m pc ls [.int (kI v)]) := by
  subst hv; subst hτ
  exact W.widen hc.1 hc.2 (W.iret hx hb hr (fun t ht hW => ⟨⟨kI v, τ', rfl, ⟨rfl, rfl⟩, G.st ht hW.alike⟩, G.2.2.1.F ht⟩) G.2.2.1.2.2 hdg hlk)
theorem r_kzret {ret : Int} (hx : p.tables.exec = Jvm.exec) (hb : c.code = cc) (hr : meth.sig.returnType = some .boolean) (hlk : meth.locks = false) (G : Wd D T z 133 τ' s H locs) (hc : cells ≤ mc ∧ slots ≤ ms) {v : Int} (hz : v = 0 ∨ v = 1) (hv : v = ret) (hτ : τ' = τ) (hdg : decode cc pc = .ok (.ireturn, 1)) : W p l e R s m args below meth c H locs cells slots (MQ below (QI D T z 133 ret τ) args s mc ms (Own T z)) (F0 m pc ls [.int (kI v)]) := by
  subst hv; subst hτ
  exact W.widen hc.1 hc.2 (W.zret hx hb hr (by rcases hz with rfl | rfl <;> rfl) (fun t ht hW => ⟨⟨kI v, τ', rfl, ⟨rfl, rfl⟩, G.st ht hW.alike⟩, G.2.2.1.F ht⟩) G.2.2.1.2.2 hdg hlk)
end CALLS
end LC
set_option maxRecDepth 100000 in
set_option maxHeartbeats 4000000 in
theorem k_L_ask (l : Launch) (hst0 : l.stackTraces = false) {σ : Mem} {k : Int} (hk0 : inR k) (hX : XC σ) (hz : 0 ≤ σ 15 1 ∧ σ 15 1 ≤ 6) (hS : IS σ) : CtW l yL_ask (Cond.codeWith yL_ask cL_ask 3 (some .int) [(0, 5, 6, 15)]) 8 137 (fun z => [.ref (z + 0), .int (kI k)]) σ (thv (isK k) (True) (atr (pus σ) k)) (afv (isK k) (True) (svr (pus σ) k) σ) := by
  intro D T z
  refine CtW_of (by decide) (Nat.le_of_ble_eq_true rfl) ?_
  intro p e s m below meth c ls hx hb hml hr hts hown hlk G hl hv htab
  have hown : s.vm.findClass RL = some m.cls := hown
  have hl : lv_has ls 3 [(0, .ref (z + 0)), (1, .int (kI k))] := hl
  refine lv_aload_n hx hb dL_ask_0 rfl (lv_at hl 0 rfl) ?_
  refine lv_iload_n hx hb dL_ask_1 rfl (lv_at hl 1 rfl) ?_
  refine r_tryI ⟨hx, hb, hml, hown, hts⟩ G hv (k_X5_ask l hst0 (σ := σ) (k := k) hk0 hX hz hS) (kVx_X5_ask hts qM_L_9 ⟨Nat.le_of_ble_eq_true rfl, Nat.le_of_ble_eq_true rfl⟩) (rc_X5 G) rfl rfl hl.1 rfl (Nat.le_of_ble_eq_true rfl) dL_ask_2 ⟨Nat.le_of_ble_eq_true rfl, Nat.le_of_ble_eq_true rfl⟩ (fun hno ce q9 H locs G hce hcv hcl => ?_) (fun hok H locs G => ?_)
  · skip
    refine vx_catch (E := IOB) (name := IOB) hown [] ⟨0, 5, 6, 15⟩ [] htab (fun z hz => absurd hz List.not_mem_nil) (by decide) (by decide) (hts _ qK_L_15) (hv.w _ (by decide)) hce hcv hcl ?_
    refine lv_astore_n (lv' := [(2, .ref q9), (0, .ref (z + 0)), (1, .int (kI k))]) hx hb dL_ask_6 rfl hl (by decide) rfl (fun ls hl => ?_)
    refine r_ldc (n := -2000001) hx hb hts hown qCon_L_17 (by decide) dL_ask_7 ?_
    exact r_wret hx hb hr hlk G ⟨Nat.le_of_ble_eq_true rfl, Nat.le_of_ble_eq_true rfl⟩ (thv_1 hno).symm (afv_n (fun z => hno z.1)).symm dL_ask_9
  exact r_wret hx hb hr hlk G ⟨Nat.le_of_ble_eq_true rfl, Nat.le_of_ble_eq_true rfl⟩ (thv_y hok trivial).symm (afv_y hok trivial).symm dL_ask_5
theorem k_L_ask_y (l : Launch) (hst0 : l.stackTraces = false) {σ : Mem} {k : Int} (hk0 : inR k) (hX : XC σ) (hz : 0 ≤ σ 15 1 ∧ σ 15 1 ≤ 6) (hS : IS σ) (hP : isK k)  : CtW l yL_ask (Cond.codeWith yL_ask cL_ask 3 (some .int) [(0, 5, 6, 15)]) 8 137 (fun z => [.ref (z + 0), .int (kI k)]) σ (atr (pus σ) k) (svr (pus σ) k) := by
  have h := k_L_ask l hst0 (σ := σ) (k := k) hk0 hX hz hS
  rw [thv_y hP trivial, afv_y hP trivial] at h
  exact h
theorem k_L_ask_1 (l : Launch) (hst0 : l.stackTraces = false) {σ : Mem} {k : Int} (hk0 : inR k) (hX : XC σ) (hz : 0 ≤ σ 15 1 ∧ σ 15 1 ≤ 6) (hS : IS σ) (hP : ¬ (isK k)) : CtW l yL_ask (Cond.codeWith yL_ask cL_ask 3 (some .int) [(0, 5, 6, 15)]) 8 137 (fun z => [.ref (z + 0), .int (kI k)]) σ (-2000001) σ := by
  have h := k_L_ask l hst0 (σ := σ) (k := k) hk0 hX hz hS
  rw [thv_1 hP, afv_n (fun z => hP z.1)] at h
  exact h
set_option maxRecDepth 100000 in
set_option maxHeartbeats 4000000 in
theorem k_L_want (l : Launch) (hst0 : l.stackTraces = false) {σ : Mem} {k y : Int} (hk0 : inR k) (hy0 : inR y) (hX : XC σ) (hz : 0 ≤ σ 15 1 ∧ σ 15 1 ≤ 6) (hS : IS σ) : CtW l yL_want (Cond.codeWith yL_want cL_want 4 (some .int) [(0, 6, 7, 15)]) 8 125 (fun z => [.ref (z + 0), .int (kI k), .int (kI y)]) σ (thv (isY k y) (True) (svwR (pus σ) k y)) (afv (isY k y) (True) (svw (pus σ) k y) σ) := by
  intro D T z
  refine CtW_of (by decide) (Nat.le_of_ble_eq_true rfl) ?_
  intro p e s m below meth c ls hx hb hml hr hts hown hlk G hl hv htab
  have hown : s.vm.findClass RL = some m.cls := hown
  have hl : lv_has ls 4 [(0, .ref (z + 0)), (1, .int (kI k)), (2, .int (kI y))] := hl
  refine lv_aload_n hx hb dL_want_0 rfl (lv_at hl 0 rfl) ?_
  refine lv_iload_n hx hb dL_want_1 rfl (lv_at hl 1 rfl) ?_
  refine lv_iload_n hx hb dL_want_2 rfl (lv_at hl 2 rfl) ?_
  refine r_tryI ⟨hx, hb, hml, hown, hts⟩ G hv (k_X5_want l hst0 (σ := σ) (k := k) (y := y) hk0 hy0 hX hz hS) (kVx_X5_want hts qM_L_18 ⟨Nat.le_of_ble_eq_true rfl, Nat.le_of_ble_eq_true rfl⟩) (rc_X5 G) rfl rfl hl.1 rfl (Nat.le_of_ble_eq_true rfl) dL_want_3 ⟨Nat.le_of_ble_eq_true rfl, Nat.le_of_ble_eq_true rfl⟩ (fun hno ce q9 H locs G hce hcv hcl => ?_) (fun hok H locs G => ?_)
  · skip
    refine vx_catch (E := IOB) (name := IOB) hown [] ⟨0, 6, 7, 15⟩ [] htab (fun z hz => absurd hz List.not_mem_nil) (by decide) (by decide) (hts _ qK_L_15) (hv.w _ (by decide)) hce hcv hcl ?_
    refine lv_astore_n (lv' := [(3, .ref q9), (0, .ref (z + 0)), (1, .int (kI k)), (2, .int (kI y))]) hx hb dL_want_7 rfl hl (by decide) rfl (fun ls hl => ?_)
    refine r_ldc (n := -2000001) hx hb hts hown qCon_L_17 (by decide) dL_want_8 ?_
    exact r_wret hx hb hr hlk G ⟨Nat.le_of_ble_eq_true rfl, Nat.le_of_ble_eq_true rfl⟩ (thv_1 hno).symm (afv_n (fun z => hno z.1)).symm dL_want_10
  exact r_wret hx hb hr hlk G ⟨Nat.le_of_ble_eq_true rfl, Nat.le_of_ble_eq_true rfl⟩ (thv_y hok trivial).symm (afv_y hok trivial).symm dL_want_6
theorem k_L_want_y (l : Launch) (hst0 : l.stackTraces = false) {σ : Mem} {k y : Int} (hk0 : inR k) (hy0 : inR y) (hX : XC σ) (hz : 0 ≤ σ 15 1 ∧ σ 15 1 ≤ 6) (hS : IS σ) (hP : isY k y)  : CtW l yL_want (Cond.codeWith yL_want cL_want 4 (some .int) [(0, 6, 7, 15)]) 8 125 (fun z => [.ref (z + 0), .int (kI k), .int (kI y)]) σ (svwR (pus σ) k y) (svw (pus σ) k y) := by
  have h := k_L_want l hst0 (σ := σ) (k := k) (y := y) hk0 hy0 hX hz hS
  rw [thv_y hP trivial, afv_y hP trivial] at h
  exact h
theorem k_L_want_1 (l : Launch) (hst0 : l.stackTraces = false) {σ : Mem} {k y : Int} (hk0 : inR k) (hy0 : inR y) (hX : XC σ) (hz : 0 ≤ σ 15 1 ∧ σ 15 1 ≤ 6) (hS : IS σ) (hP : ¬ (isY k y)) : CtW l yL_want (Cond.codeWith yL_want cL_want 4 (some .int) [(0, 6, 7, 15)]) 8 125 (fun z => [.ref (z + 0), .int (kI k), .int (kI y)]) σ (-2000001) σ := by
  have h := k_L_want l hst0 (σ := σ) (k := k) (y := y) hk0 hy0 hX hz hS
  rw [thv_1 hP, afv_n (fun z => hP z.1)] at h
  exact h
set_option maxRecDepth 100000 in
set_option maxHeartbeats 4000000 in
theorem k_L_delete (l : Launch) (hst0 : l.stackTraces = false) {σ : Mem} {k y : Int} (hk0 : inR k) (hy0 : inR y) (hX : XC σ) (hz : 0 ≤ σ 15 1 ∧ σ 15 1 ≤ 6) (hS : IS σ) : CtW l yL_delete (Cond.codeWith yL_delete cL_delete 4 (some .int) [(0, 6, 7, 15), (0, 6, 11, 25)]) 8 125 (fun z => [.ref (z + 0), .int (kI k), .int (kI y)]) σ (thv (isY k y) (σ 4 (k * 16 + y) = 1) (bz ((pus σ) 14 1 ≤ (pus σ) 5 (k * 16 + y)))) (afv (isY k y) (σ 4 (k * 16 + y) = 1) (dlr (pus σ) k y) σ) := by
  intro D T z
  refine CtW_of (by decide) (Nat.le_of_ble_eq_true rfl) ?_
  intro p e s m below meth c ls hx hb hml hr hts hown hlk G hl hv htab
  have hown : s.vm.findClass RL = some m.cls := hown
  have hl : lv_has ls 4 [(0, .ref (z + 0)), (1, .int (kI k)), (2, .int (kI y))] := hl
  refine lv_aload_n hx hb dL_delete_0 rfl (lv_at hl 0 rfl) ?_
  refine lv_iload_n hx hb dL_delete_1 rfl (lv_at hl 1 rfl) ?_
  refine lv_iload_n hx hb dL_delete_2 rfl (lv_at hl 2 rfl) ?_
  refine r_tryI ⟨hx, hb, hml, hown, hts⟩ G hv (k_X5_delete l hst0 (σ := σ) (k := k) (y := y) hk0 hy0 hX hz hS) (kVx_X5_delete hts qM_L_22 ⟨Nat.le_of_ble_eq_true rfl, Nat.le_of_ble_eq_true rfl⟩) (rc_X5 G) rfl rfl hl.1 rfl (Nat.le_of_ble_eq_true rfl) dL_delete_3 ⟨Nat.le_of_ble_eq_true rfl, Nat.le_of_ble_eq_true rfl⟩ (fun hno ce q9 H locs G hce hcv hcl => ?_) (fun hok H locs G => ?_)
  · skip
    by_cases hp : isY k y
    · rw [if_pos hp] at hcl
      refine vx_catch (E := ISE) (name := ISE) hown [⟨0, 6, 7, 15⟩] ⟨0, 6, 11, 25⟩ [] htab (fun z hz => by rw [List.mem_singleton.mp hz]; exact Or.inr ⟨by decide, IOB, hts _ qK_L_15, hv.2.2 (ISE, IOB) (by decide)⟩) (by decide) (by decide) (hts _ qK_L_25) (hv.w _ (by decide)) hce hcv hcl ?_
      refine lv_astore_n (lv' := [(3, .ref q9), (0, .ref (z + 0)), (1, .int (kI k)), (2, .int (kI y))]) hx hb dL_delete_11 rfl hl (by decide) rfl (fun ls hl => ?_)
      refine r_ldc (n := -2000002) hx hb hts hown qCon_L_27 (by decide) dL_delete_12 ?_
      exact r_wret hx hb hr hlk G ⟨Nat.le_of_ble_eq_true rfl, Nat.le_of_ble_eq_true rfl⟩ (thv_2 hp (fun z => hno ⟨hp, z⟩)).symm (afv_n hno).symm dL_delete_14
    · rw [if_neg hp] at hcl
      refine vx_catch (E := IOB) (name := IOB) hown [] ⟨0, 6, 7, 15⟩ [⟨0, 6, 11, 25⟩] htab (fun z hz => absurd hz List.not_mem_nil) (by decide) (by decide) (hts _ qK_L_15) (hv.w _ (by decide)) hce hcv hcl ?_
      refine lv_astore_n (lv' := [(3, .ref q9), (0, .ref (z + 0)), (1, .int (kI k)), (2, .int (kI y))]) hx hb dL_delete_7 rfl hl (by decide) rfl (fun ls hl => ?_)
      refine r_ldc (n := -2000001) hx hb hts hown qCon_L_17 (by decide) dL_delete_8 ?_
      exact r_wret hx hb hr hlk G ⟨Nat.le_of_ble_eq_true rfl, Nat.le_of_ble_eq_true rfl⟩ (thv_1 hp).symm (afv_n hno).symm dL_delete_10
  exact r_wret hx hb hr hlk G ⟨Nat.le_of_ble_eq_true rfl, Nat.le_of_ble_eq_true rfl⟩ (thv_y hok.1 hok.2).symm (afv_y hok.1 hok.2).symm dL_delete_6
theorem k_L_delete_y (l : Launch) (hst0 : l.stackTraces = false) {σ : Mem} {k y : Int} (hk0 : inR k) (hy0 : inR y) (hX : XC σ) (hz : 0 ≤ σ 15 1 ∧ σ 15 1 ≤ 6) (hS : IS σ) (hP : isY k y) (hQ : σ 4 (k * 16 + y) = 1) : CtW l yL_delete (Cond.codeWith yL_delete cL_delete 4 (some .int) [(0, 6, 7, 15), (0, 6, 11, 25)]) 8 125 (fun z => [.ref (z + 0), .int (kI k), .int (kI y)]) σ (bz ((pus σ) 14 1 ≤ (pus σ) 5 (k * 16 + y))) (dlr (pus σ) k y) := by
  have h := k_L_delete l hst0 (σ := σ) (k := k) (y := y) hk0 hy0 hX hz hS
  rw [thv_y hP hQ, afv_y hP hQ] at h
  exact h
theorem k_L_delete_1 (l : Launch) (hst0 : l.stackTraces = false) {σ : Mem} {k y : Int} (hk0 : inR k) (hy0 : inR y) (hX : XC σ) (hz : 0 ≤ σ 15 1 ∧ σ 15 1 ≤ 6) (hS : IS σ) (hP : ¬ (isY k y)) : CtW l yL_delete (Cond.codeWith yL_delete cL_delete 4 (some .int) [(0, 6, 7, 15), (0, 6, 11, 25)]) 8 125 (fun z => [.ref (z + 0), .int (kI k), .int (kI y)]) σ (-2000001) σ := by
  have h := k_L_delete l hst0 (σ := σ) (k := k) (y := y) hk0 hy0 hX hz hS
  rw [thv_1 hP, afv_n (fun z => hP z.1)] at h
  exact h
theorem k_L_delete_2 (l : Launch) (hst0 : l.stackTraces = false) {σ : Mem} {k y : Int} (hk0 : inR k) (hy0 : inR y) (hX : XC σ) (hz : 0 ≤ σ 15 1 ∧ σ 15 1 ≤ 6) (hS : IS σ) (hP : isY k y) (hQ : ¬ (σ 4 (k * 16 + y) = 1)) : CtW l yL_delete (Cond.codeWith yL_delete cL_delete 4 (some .int) [(0, 6, 7, 15), (0, 6, 11, 25)]) 8 125 (fun z => [.ref (z + 0), .int (kI k), .int (kI y)]) σ (-2000002) σ := by
  have h := k_L_delete l hst0 (σ := σ) (k := k) (y := y) hk0 hy0 hX hz hS
  rw [thv_2 hP hQ, afv_n (fun z => hQ z.2)] at h
  exact h
set_option maxRecDepth 100000 in
set_option maxHeartbeats 4000000 in
theorem k_L_bringBack (l : Launch) (hst0 : l.stackTraces = false) {σ : Mem} {k y : Int} (hk0 : inR k) (hy0 : inR y) (hX : XC σ) (hz : 0 ≤ σ 15 1 ∧ σ 15 1 ≤ 6) (hS : IS σ) : CtW l yL_bringBack (Cond.codeWith yL_bringBack cL_bringBack 4 (some .int) [(0, 6, 7, 15), (0, 6, 11, 25)]) 8 125 (fun z => [.ref (z + 0), .int (kI k), .int (kI y)]) σ (thv (isY k y) (cbb σ k y) ((pus σ) 5 (k * 16 + y))) (afv (isY k y) (cbb σ k y) (brb (pus σ) k y) σ) := by
  intro D T z
  refine CtW_of (by decide) (Nat.le_of_ble_eq_true rfl) ?_
  intro p e s m below meth c ls hx hb hml hr hts hown hlk G hl hv htab
  have hown : s.vm.findClass RL = some m.cls := hown
  have hl : lv_has ls 4 [(0, .ref (z + 0)), (1, .int (kI k)), (2, .int (kI y))] := hl
  refine lv_aload_n hx hb dL_bringBack_0 rfl (lv_at hl 0 rfl) ?_
  refine lv_iload_n hx hb dL_bringBack_1 rfl (lv_at hl 1 rfl) ?_
  refine lv_iload_n hx hb dL_bringBack_2 rfl (lv_at hl 2 rfl) ?_
  refine r_tryI ⟨hx, hb, hml, hown, hts⟩ G hv (k_X5_bringBack l hst0 (σ := σ) (k := k) (y := y) hk0 hy0 hX hz hS) (kVx_X5_bringBack hts qM_L_28 ⟨Nat.le_of_ble_eq_true rfl, Nat.le_of_ble_eq_true rfl⟩) (rc_X5 G) rfl rfl hl.1 rfl (Nat.le_of_ble_eq_true rfl) dL_bringBack_3 ⟨Nat.le_of_ble_eq_true rfl, Nat.le_of_ble_eq_true rfl⟩ (fun hno ce q9 H locs G hce hcv hcl => ?_) (fun hok H locs G => ?_)
  · skip
    by_cases hp : isY k y
    · rw [if_pos hp] at hcl
      refine vx_catch (E := ISE) (name := ISE) hown [⟨0, 6, 7, 15⟩] ⟨0, 6, 11, 25⟩ [] htab (fun z hz => by rw [List.mem_singleton.mp hz]; exact Or.inr ⟨by decide, IOB, hts _ qK_L_15, hv.2.2 (ISE, IOB) (by decide)⟩) (by decide) (by decide) (hts _ qK_L_25) (hv.w _ (by decide)) hce hcv hcl ?_
      refine lv_astore_n (lv' := [(3, .ref q9), (0, .ref (z + 0)), (1, .int (kI k)), (2, .int (kI y))]) hx hb dL_bringBack_11 rfl hl (by decide) rfl (fun ls hl => ?_)
      refine r_ldc (n := -2000002) hx hb hts hown qCon_L_27 (by decide) dL_bringBack_12 ?_
      exact r_wret hx hb hr hlk G ⟨Nat.le_of_ble_eq_true rfl, Nat.le_of_ble_eq_true rfl⟩ (thv_2 hp (fun z => hno ⟨hp, z⟩)).symm (afv_n hno).symm dL_bringBack_14
    · rw [if_neg hp] at hcl
      refine vx_catch (E := IOB) (name := IOB) hown [] ⟨0, 6, 7, 15⟩ [⟨0, 6, 11, 25⟩] htab (fun z hz => absurd hz List.not_mem_nil) (by decide) (by decide) (hts _ qK_L_15) (hv.w _ (by decide)) hce hcv hcl ?_
      refine lv_astore_n (lv' := [(3, .ref q9), (0, .ref (z + 0)), (1, .int (kI k)), (2, .int (kI y))]) hx hb dL_bringBack_7 rfl hl (by decide) rfl (fun ls hl => ?_)
      refine r_ldc (n := -2000001) hx hb hts hown qCon_L_17 (by decide) dL_bringBack_8 ?_
      exact r_wret hx hb hr hlk G ⟨Nat.le_of_ble_eq_true rfl, Nat.le_of_ble_eq_true rfl⟩ (thv_1 hp).symm (afv_n hno).symm dL_bringBack_10
  exact r_wret hx hb hr hlk G ⟨Nat.le_of_ble_eq_true rfl, Nat.le_of_ble_eq_true rfl⟩ (thv_y hok.1 hok.2).symm (afv_y hok.1 hok.2).symm dL_bringBack_6
theorem k_L_bringBack_y (l : Launch) (hst0 : l.stackTraces = false) {σ : Mem} {k y : Int} (hk0 : inR k) (hy0 : inR y) (hX : XC σ) (hz : 0 ≤ σ 15 1 ∧ σ 15 1 ≤ 6) (hS : IS σ) (hP : isY k y) (hQ : cbb σ k y) : CtW l yL_bringBack (Cond.codeWith yL_bringBack cL_bringBack 4 (some .int) [(0, 6, 7, 15), (0, 6, 11, 25)]) 8 125 (fun z => [.ref (z + 0), .int (kI k), .int (kI y)]) σ ((pus σ) 5 (k * 16 + y)) (brb (pus σ) k y) := by
  have h := k_L_bringBack l hst0 (σ := σ) (k := k) (y := y) hk0 hy0 hX hz hS
  rw [thv_y hP hQ, afv_y hP hQ] at h
  exact h
theorem k_L_bringBack_1 (l : Launch) (hst0 : l.stackTraces = false) {σ : Mem} {k y : Int} (hk0 : inR k) (hy0 : inR y) (hX : XC σ) (hz : 0 ≤ σ 15 1 ∧ σ 15 1 ≤ 6) (hS : IS σ) (hP : ¬ (isY k y)) : CtW l yL_bringBack (Cond.codeWith yL_bringBack cL_bringBack 4 (some .int) [(0, 6, 7, 15), (0, 6, 11, 25)]) 8 125 (fun z => [.ref (z + 0), .int (kI k), .int (kI y)]) σ (-2000001) σ := by
  have h := k_L_bringBack l hst0 (σ := σ) (k := k) (y := y) hk0 hy0 hX hz hS
  rw [thv_1 hP, afv_n (fun z => hP z.1)] at h
  exact h
theorem k_L_bringBack_2 (l : Launch) (hst0 : l.stackTraces = false) {σ : Mem} {k y : Int} (hk0 : inR k) (hy0 : inR y) (hX : XC σ) (hz : 0 ≤ σ 15 1 ∧ σ 15 1 ≤ 6) (hS : IS σ) (hP : isY k y) (hQ : ¬ (cbb σ k y)) : CtW l yL_bringBack (Cond.codeWith yL_bringBack cL_bringBack 4 (some .int) [(0, 6, 7, 15), (0, 6, 11, 25)]) 8 125 (fun z => [.ref (z + 0), .int (kI k), .int (kI y)]) σ (-2000002) σ := by
  have h := k_L_bringBack l hst0 (σ := σ) (k := k) (y := y) hk0 hy0 hX hz hS
  rw [thv_2 hP hQ, afv_n (fun z => hQ z.2)] at h
  exact h
set_option maxRecDepth 100000 in
set_option maxHeartbeats 4000000 in
theorem k_L_turn (l : Launch) (hst0 : l.stackTraces = false) {σ : Mem} {k : Int} (hk0 : inR k) (hX : XC σ) (hz : 0 ≤ σ 15 1 ∧ σ 15 1 ≤ 6) (hS : IS σ) : CtW l yL_turn (Cond.codeWith yL_turn cL_turn 3 (some .int) [(0, 5, 6, 15)]) 8 123 (fun z => [.ref (z + 0), .int (kI k)]) σ (thv (isK k) (True) (kat (tup (pus σ) k) k 0)) (afv (isK k) (True) (tup (pus σ) k) σ) := by
  intro D T z
  refine CtW_of (by decide) (Nat.le_of_ble_eq_true rfl) ?_
  intro p e s m below meth c ls hx hb hml hr hts hown hlk G hl hv htab
  have hown : s.vm.findClass RL = some m.cls := hown
  have hl : lv_has ls 3 [(0, .ref (z + 0)), (1, .int (kI k))] := hl
  refine lv_aload_n hx hb dL_turn_0 rfl (lv_at hl 0 rfl) ?_
  refine lv_iload_n hx hb dL_turn_1 rfl (lv_at hl 1 rfl) ?_
  refine r_tryI ⟨hx, hb, hml, hown, hts⟩ G hv (k_X5_turn l hst0 (σ := σ) (k := k) hk0 hX hz hS) (kVx_X5_turn hts qM_L_31 ⟨Nat.le_of_ble_eq_true rfl, Nat.le_of_ble_eq_true rfl⟩) (rc_X5 G) rfl rfl hl.1 rfl (Nat.le_of_ble_eq_true rfl) dL_turn_2 ⟨Nat.le_of_ble_eq_true rfl, Nat.le_of_ble_eq_true rfl⟩ (fun hno ce q9 H locs G hce hcv hcl => ?_) (fun hok H locs G => ?_)
  · skip
    refine vx_catch (E := IOB) (name := IOB) hown [] ⟨0, 5, 6, 15⟩ [] htab (fun z hz => absurd hz List.not_mem_nil) (by decide) (by decide) (hts _ qK_L_15) (hv.w _ (by decide)) hce hcv hcl ?_
    refine lv_astore_n (lv' := [(2, .ref q9), (0, .ref (z + 0)), (1, .int (kI k))]) hx hb dL_turn_6 rfl hl (by decide) rfl (fun ls hl => ?_)
    refine r_ldc (n := -2000001) hx hb hts hown qCon_L_17 (by decide) dL_turn_7 ?_
    exact r_wret hx hb hr hlk G ⟨Nat.le_of_ble_eq_true rfl, Nat.le_of_ble_eq_true rfl⟩ (thv_1 hno).symm (afv_n (fun z => hno z.1)).symm dL_turn_9
  exact r_wret hx hb hr hlk G ⟨Nat.le_of_ble_eq_true rfl, Nat.le_of_ble_eq_true rfl⟩ (thv_y hok trivial).symm (afv_y hok trivial).symm dL_turn_5
theorem k_L_turn_y (l : Launch) (hst0 : l.stackTraces = false) {σ : Mem} {k : Int} (hk0 : inR k) (hX : XC σ) (hz : 0 ≤ σ 15 1 ∧ σ 15 1 ≤ 6) (hS : IS σ) (hP : isK k)  : CtW l yL_turn (Cond.codeWith yL_turn cL_turn 3 (some .int) [(0, 5, 6, 15)]) 8 123 (fun z => [.ref (z + 0), .int (kI k)]) σ (kat (tup (pus σ) k) k 0) (tup (pus σ) k) := by
  have h := k_L_turn l hst0 (σ := σ) (k := k) hk0 hX hz hS
  rw [thv_y hP trivial, afv_y hP trivial] at h
  exact h
theorem k_L_turn_1 (l : Launch) (hst0 : l.stackTraces = false) {σ : Mem} {k : Int} (hk0 : inR k) (hX : XC σ) (hz : 0 ≤ σ 15 1 ∧ σ 15 1 ≤ 6) (hS : IS σ) (hP : ¬ (isK k)) : CtW l yL_turn (Cond.codeWith yL_turn cL_turn 3 (some .int) [(0, 5, 6, 15)]) 8 123 (fun z => [.ref (z + 0), .int (kI k)]) σ (-2000001) σ := by
  have h := k_L_turn l hst0 (σ := σ) (k := k) hk0 hX hz hS
  rw [thv_1 hP, afv_n (fun z => hP z.1)] at h
  exact h
set_option maxRecDepth 100000 in
set_option maxHeartbeats 4000000 in
theorem k_L_follow (l : Launch) (hst0 : l.stackTraces = false) {σ : Mem} {k y q : Int} (hk0 : inR k) (hy0 : inR y) (hq0 : inR q) (hX : XC σ) (hz : 0 ≤ σ 15 1 ∧ σ 15 1 ≤ 6) (hS : IS σ) : CtW l yL_follow (Cond.codeWith yL_follow cL_follow 5 (some .int) [(0, 7, 8, 15), (0, 7, 13, 38)]) 8 126 (fun z => [.ref (z + 0), .int (kI k), .int (kI y), .int (kI q)]) σ (thv (isY k y) (1 ≤ q) (jud (pus σ) k y q)) (afv (isY k y) (1 ≤ q) (nfo (pus σ) (jud (pus σ) k y q)) σ) := by
  intro D T z
  refine CtW_of (by decide) (Nat.le_of_ble_eq_true rfl) ?_
  intro p e s m below meth c ls hx hb hml hr hts hown hlk G hl hv htab
  have hown : s.vm.findClass RL = some m.cls := hown
  have hl : lv_has ls 5 [(0, .ref (z + 0)), (1, .int (kI k)), (2, .int (kI y)), (3, .int (kI q))] := hl
  refine lv_aload_n hx hb dL_follow_0 rfl (lv_at hl 0 rfl) ?_
  refine lv_iload_n hx hb dL_follow_1 rfl (lv_at hl 1 rfl) ?_
  refine lv_iload_n hx hb dL_follow_2 rfl (lv_at hl 2 rfl) ?_
  refine lv_iload_n hx hb dL_follow_3 rfl (lv_at hl 3 rfl) ?_
  refine r_tryI ⟨hx, hb, hml, hown, hts⟩ G hv (k_X5_follow l hst0 (σ := σ) (k := k) (y := y) (q := q) hk0 hy0 hq0 hX hz hS) (kVx_X5_follow hts qM_L_34 ⟨Nat.le_of_ble_eq_true rfl, Nat.le_of_ble_eq_true rfl⟩) (rc_X5 G) rfl rfl hl.1 rfl (Nat.le_of_ble_eq_true rfl) dL_follow_4 ⟨Nat.le_of_ble_eq_true rfl, Nat.le_of_ble_eq_true rfl⟩ (fun hno ce q9 H locs G hce hcv hcl => ?_) (fun hok H locs G => ?_)
  · skip
    by_cases hp : isY k y
    · rw [if_pos hp] at hcl
      refine vx_catch (E := IAE) (name := IAE) hown [⟨0, 7, 8, 15⟩] ⟨0, 7, 13, 38⟩ [] htab (fun z hz => by rw [List.mem_singleton.mp hz]; exact Or.inr ⟨by decide, IOB, hts _ qK_L_15, hv.2.2 (IAE, IOB) (by decide)⟩) (by decide) (by decide) (hts _ qK_L_38) (hv.w _ (by decide)) hce hcv hcl ?_
      refine lv_astore (lv' := [(4, .ref q9), (0, .ref (z + 0)), (1, .int (kI k)), (2, .int (kI y)), (3, .int (kI q))]) hx hb dL_follow_13 hl (by decide) rfl (fun ls hl => ?_)
      refine r_ldc (n := -2000002) hx hb hts hown qCon_L_27 (by decide) dL_follow_15 ?_
      exact r_wret hx hb hr hlk G ⟨Nat.le_of_ble_eq_true rfl, Nat.le_of_ble_eq_true rfl⟩ (thv_2 hp (fun z => hno ⟨hp, z⟩)).symm (afv_n hno).symm dL_follow_17
    · rw [if_neg hp] at hcl
      refine vx_catch (E := IOB) (name := IOB) hown [] ⟨0, 7, 8, 15⟩ [⟨0, 7, 13, 38⟩] htab (fun z hz => absurd hz List.not_mem_nil) (by decide) (by decide) (hts _ qK_L_15) (hv.w _ (by decide)) hce hcv hcl ?_
      refine lv_astore (lv' := [(4, .ref q9), (0, .ref (z + 0)), (1, .int (kI k)), (2, .int (kI y)), (3, .int (kI q))]) hx hb dL_follow_8 hl (by decide) rfl (fun ls hl => ?_)
      refine r_ldc (n := -2000001) hx hb hts hown qCon_L_17 (by decide) dL_follow_10 ?_
      exact r_wret hx hb hr hlk G ⟨Nat.le_of_ble_eq_true rfl, Nat.le_of_ble_eq_true rfl⟩ (thv_1 hp).symm (afv_n hno).symm dL_follow_12
  exact r_wret hx hb hr hlk G ⟨Nat.le_of_ble_eq_true rfl, Nat.le_of_ble_eq_true rfl⟩ (thv_y hok.1 hok.2).symm (afv_y hok.1 hok.2).symm dL_follow_7
theorem k_L_follow_y (l : Launch) (hst0 : l.stackTraces = false) {σ : Mem} {k y q : Int} (hk0 : inR k) (hy0 : inR y) (hq0 : inR q) (hX : XC σ) (hz : 0 ≤ σ 15 1 ∧ σ 15 1 ≤ 6) (hS : IS σ) (hP : isY k y) (hQ : 1 ≤ q) : CtW l yL_follow (Cond.codeWith yL_follow cL_follow 5 (some .int) [(0, 7, 8, 15), (0, 7, 13, 38)]) 8 126 (fun z => [.ref (z + 0), .int (kI k), .int (kI y), .int (kI q)]) σ (jud (pus σ) k y q) (nfo (pus σ) (jud (pus σ) k y q)) := by
  have h := k_L_follow l hst0 (σ := σ) (k := k) (y := y) (q := q) hk0 hy0 hq0 hX hz hS
  rw [thv_y hP hQ, afv_y hP hQ] at h
  exact h
theorem k_L_follow_1 (l : Launch) (hst0 : l.stackTraces = false) {σ : Mem} {k y q : Int} (hk0 : inR k) (hy0 : inR y) (hq0 : inR q) (hX : XC σ) (hz : 0 ≤ σ 15 1 ∧ σ 15 1 ≤ 6) (hS : IS σ) (hP : ¬ (isY k y)) : CtW l yL_follow (Cond.codeWith yL_follow cL_follow 5 (some .int) [(0, 7, 8, 15), (0, 7, 13, 38)]) 8 126 (fun z => [.ref (z + 0), .int (kI k), .int (kI y), .int (kI q)]) σ (-2000001) σ := by
  have h := k_L_follow l hst0 (σ := σ) (k := k) (y := y) (q := q) hk0 hy0 hq0 hX hz hS
  rw [thv_1 hP, afv_n (fun z => hP z.1)] at h
  exact h
theorem k_L_follow_2 (l : Launch) (hst0 : l.stackTraces = false) {σ : Mem} {k y q : Int} (hk0 : inR k) (hy0 : inR y) (hq0 : inR q) (hX : XC σ) (hz : 0 ≤ σ 15 1 ∧ σ 15 1 ≤ 6) (hS : IS σ) (hP : isY k y) (hQ : ¬ (1 ≤ q)) : CtW l yL_follow (Cond.codeWith yL_follow cL_follow 5 (some .int) [(0, 7, 8, 15), (0, 7, 13, 38)]) 8 126 (fun z => [.ref (z + 0), .int (kI k), .int (kI y), .int (kI q)]) σ (-2000002) σ := by
  have h := k_L_follow l hst0 (σ := σ) (k := k) (y := y) (q := q) hk0 hy0 hq0 hX hz hS
  rw [thv_2 hP hQ, afv_n (fun z => hQ z.2)] at h
  exact h
set_option maxRecDepth 100000 in
set_option maxHeartbeats 4000000 in
theorem k_L_pass (l : Launch) (hst0 : l.stackTraces = false) {σ : Mem} {d : Int} (hd0 : inR d) (hX : XC σ) (hz : 0 ≤ σ 15 1 ∧ σ 15 1 ≤ 6) (hS : IS σ) : CtW l yL_pass (Cond.codeWith yL_pass cL_pass 3 (some .int) [(0, 5, 6, 38), (0, 5, 10, 25)]) 8 125 (fun z => [.ref (z + 0), .int (kI d)]) σ (thv (1 ≤ d ∧ d ≤ 99) (d ≤ 9999 - σ 2 0) (hra (up (pus σ) 2 0 ((pus σ) 2 0 + d)))) (afv (1 ≤ d ∧ d ≤ 99) (d ≤ 9999 - σ 2 0) (up (pus σ) 2 0 ((pus σ) 2 0 + d)) σ) := by
  intro D T z
  refine CtW_of (by decide) (Nat.le_of_ble_eq_true rfl) ?_
  intro p e s m below meth c ls hx hb hml hr hts hown hlk G hl hv htab
  have hown : s.vm.findClass RL = some m.cls := hown
  have hl : lv_has ls 3 [(0, .ref (z + 0)), (1, .int (kI d))] := hl
  refine lv_aload_n hx hb dL_pass_0 rfl (lv_at hl 0 rfl) ?_
  refine lv_iload_n hx hb dL_pass_1 rfl (lv_at hl 1 rfl) ?_
  refine r_tryI ⟨hx, hb, hml, hown, hts⟩ G hv (k_X5_pass l hst0 (σ := σ) (d := d) hd0 hX hz hS) (kVx_X5_pass hts qM_L_40 ⟨Nat.le_of_ble_eq_true rfl, Nat.le_of_ble_eq_true rfl⟩) (rc_X5 G) rfl rfl hl.1 rfl (Nat.le_of_ble_eq_true rfl) dL_pass_2 ⟨Nat.le_of_ble_eq_true rfl, Nat.le_of_ble_eq_true rfl⟩ (fun hno ce q9 H locs G hce hcv hcl => ?_) (fun hok H locs G => ?_)
  · skip
    by_cases hp : 1 ≤ d ∧ d ≤ 99
    · rw [if_pos hp] at hcl
      refine vx_catch (E := ISE) (name := ISE) hown [⟨0, 5, 6, 38⟩] ⟨0, 5, 10, 25⟩ [] htab (fun z hz => by rw [List.mem_singleton.mp hz]; exact Or.inr ⟨by decide, IAE, hts _ qK_L_38, hv.2.2 (ISE, IAE) (by decide)⟩) (by decide) (by decide) (hts _ qK_L_25) (hv.w _ (by decide)) hce hcv hcl ?_
      refine lv_astore_n (lv' := [(2, .ref q9), (0, .ref (z + 0)), (1, .int (kI d))]) hx hb dL_pass_10 rfl hl (by decide) rfl (fun ls hl => ?_)
      refine r_ldc (n := -2000002) hx hb hts hown qCon_L_27 (by decide) dL_pass_11 ?_
      exact r_wret hx hb hr hlk G ⟨Nat.le_of_ble_eq_true rfl, Nat.le_of_ble_eq_true rfl⟩ (thv_2 hp (fun z => hno ⟨hp, z⟩)).symm (afv_n hno).symm dL_pass_13
    · rw [if_neg hp] at hcl
      refine vx_catch (E := IAE) (name := IAE) hown [] ⟨0, 5, 6, 38⟩ [⟨0, 5, 10, 25⟩] htab (fun z hz => absurd hz List.not_mem_nil) (by decide) (by decide) (hts _ qK_L_38) (hv.w _ (by decide)) hce hcv hcl ?_
      refine lv_astore_n (lv' := [(2, .ref q9), (0, .ref (z + 0)), (1, .int (kI d))]) hx hb dL_pass_6 rfl hl (by decide) rfl (fun ls hl => ?_)
      refine r_ldc (n := -2000001) hx hb hts hown qCon_L_17 (by decide) dL_pass_7 ?_
      exact r_wret hx hb hr hlk G ⟨Nat.le_of_ble_eq_true rfl, Nat.le_of_ble_eq_true rfl⟩ (thv_1 hp).symm (afv_n hno).symm dL_pass_9
  exact r_wret hx hb hr hlk G ⟨Nat.le_of_ble_eq_true rfl, Nat.le_of_ble_eq_true rfl⟩ (thv_y hok.1 hok.2).symm (afv_y hok.1 hok.2).symm dL_pass_5
theorem k_L_pass_y (l : Launch) (hst0 : l.stackTraces = false) {σ : Mem} {d : Int} (hd0 : inR d) (hX : XC σ) (hz : 0 ≤ σ 15 1 ∧ σ 15 1 ≤ 6) (hS : IS σ) (hP : 1 ≤ d ∧ d ≤ 99) (hQ : d ≤ 9999 - σ 2 0) : CtW l yL_pass (Cond.codeWith yL_pass cL_pass 3 (some .int) [(0, 5, 6, 38), (0, 5, 10, 25)]) 8 125 (fun z => [.ref (z + 0), .int (kI d)]) σ (hra (up (pus σ) 2 0 ((pus σ) 2 0 + d))) (up (pus σ) 2 0 ((pus σ) 2 0 + d)) := by
  have h := k_L_pass l hst0 (σ := σ) (d := d) hd0 hX hz hS
  rw [thv_y hP hQ, afv_y hP hQ] at h
  exact h
theorem k_L_pass_1 (l : Launch) (hst0 : l.stackTraces = false) {σ : Mem} {d : Int} (hd0 : inR d) (hX : XC σ) (hz : 0 ≤ σ 15 1 ∧ σ 15 1 ≤ 6) (hS : IS σ) (hP : ¬ (1 ≤ d ∧ d ≤ 99)) : CtW l yL_pass (Cond.codeWith yL_pass cL_pass 3 (some .int) [(0, 5, 6, 38), (0, 5, 10, 25)]) 8 125 (fun z => [.ref (z + 0), .int (kI d)]) σ (-2000001) σ := by
  have h := k_L_pass l hst0 (σ := σ) (d := d) hd0 hX hz hS
  rw [thv_1 hP, afv_n (fun z => hP z.1)] at h
  exact h
theorem k_L_pass_2 (l : Launch) (hst0 : l.stackTraces = false) {σ : Mem} {d : Int} (hd0 : inR d) (hX : XC σ) (hz : 0 ≤ σ 15 1 ∧ σ 15 1 ≤ 6) (hS : IS σ) (hP : 1 ≤ d ∧ d ≤ 99) (hQ : ¬ (d ≤ 9999 - σ 2 0)) : CtW l yL_pass (Cond.codeWith yL_pass cL_pass 3 (some .int) [(0, 5, 6, 38), (0, 5, 10, 25)]) 8 125 (fun z => [.ref (z + 0), .int (kI d)]) σ (-2000002) σ := by
  have h := k_L_pass l hst0 (σ := σ) (d := d) hd0 hX hz hS
  rw [thv_2 hP hQ, afv_n (fun z => hQ z.2)] at h
  exact h
set_option maxRecDepth 100000 in
set_option maxHeartbeats 4000000 in
theorem k_L_season (l : Launch) (hst0 : l.stackTraces = false) {σ : Mem} {k d : Int} (hk0 : inR k) (hd0 : inR d) (hX : XC σ) (hz : 0 ≤ σ 15 1 ∧ σ 15 1 ≤ 6) (hS : IS σ) : CtW l yL_season (Cond.codeWith yL_season cL_season 4 (some .int) [(0, 6, 7, 15), (0, 6, 11, 38)]) 8 127 (fun z => [.ref (z + 0), .int (kI k), .int (kI d)]) σ (thv (isK k) (0 ≤ d ∧ d ≤ 99) ((pus σ) 3 k)) (afv (isK k) (0 ≤ d ∧ d ≤ 99) (up (pus σ) 3 k d) σ) := by
  intro D T z
  refine CtW_of (by decide) (Nat.le_of_ble_eq_true rfl) ?_
  intro p e s m below meth c ls hx hb hml hr hts hown hlk G hl hv htab
  have hown : s.vm.findClass RL = some m.cls := hown
  have hl : lv_has ls 4 [(0, .ref (z + 0)), (1, .int (kI k)), (2, .int (kI d))] := hl
  refine lv_aload_n hx hb dL_season_0 rfl (lv_at hl 0 rfl) ?_
  refine lv_iload_n hx hb dL_season_1 rfl (lv_at hl 1 rfl) ?_
  refine lv_iload_n hx hb dL_season_2 rfl (lv_at hl 2 rfl) ?_
  refine r_tryI ⟨hx, hb, hml, hown, hts⟩ G hv (k_X5_season l hst0 (σ := σ) (k := k) (d := d) hk0 hd0 hX hz hS) (kVx_X5_season hts qM_L_43 ⟨Nat.le_of_ble_eq_true rfl, Nat.le_of_ble_eq_true rfl⟩) (rc_X5 G) rfl rfl hl.1 rfl (Nat.le_of_ble_eq_true rfl) dL_season_3 ⟨Nat.le_of_ble_eq_true rfl, Nat.le_of_ble_eq_true rfl⟩ (fun hno ce q9 H locs G hce hcv hcl => ?_) (fun hok H locs G => ?_)
  · skip
    by_cases hp : isK k
    · rw [if_pos hp] at hcl
      refine vx_catch (E := IAE) (name := IAE) hown [⟨0, 6, 7, 15⟩] ⟨0, 6, 11, 38⟩ [] htab (fun z hz => by rw [List.mem_singleton.mp hz]; exact Or.inr ⟨by decide, IOB, hts _ qK_L_15, hv.2.2 (IAE, IOB) (by decide)⟩) (by decide) (by decide) (hts _ qK_L_38) (hv.w _ (by decide)) hce hcv hcl ?_
      refine lv_astore_n (lv' := [(3, .ref q9), (0, .ref (z + 0)), (1, .int (kI k)), (2, .int (kI d))]) hx hb dL_season_11 rfl hl (by decide) rfl (fun ls hl => ?_)
      refine r_ldc (n := -2000002) hx hb hts hown qCon_L_27 (by decide) dL_season_12 ?_
      exact r_wret hx hb hr hlk G ⟨Nat.le_of_ble_eq_true rfl, Nat.le_of_ble_eq_true rfl⟩ (thv_2 hp (fun z => hno ⟨hp, z⟩)).symm (afv_n hno).symm dL_season_14
    · rw [if_neg hp] at hcl
      refine vx_catch (E := IOB) (name := IOB) hown [] ⟨0, 6, 7, 15⟩ [⟨0, 6, 11, 38⟩] htab (fun z hz => absurd hz List.not_mem_nil) (by decide) (by decide) (hts _ qK_L_15) (hv.w _ (by decide)) hce hcv hcl ?_
      refine lv_astore_n (lv' := [(3, .ref q9), (0, .ref (z + 0)), (1, .int (kI k)), (2, .int (kI d))]) hx hb dL_season_7 rfl hl (by decide) rfl (fun ls hl => ?_)
      refine r_ldc (n := -2000001) hx hb hts hown qCon_L_17 (by decide) dL_season_8 ?_
      exact r_wret hx hb hr hlk G ⟨Nat.le_of_ble_eq_true rfl, Nat.le_of_ble_eq_true rfl⟩ (thv_1 hp).symm (afv_n hno).symm dL_season_10
  exact r_wret hx hb hr hlk G ⟨Nat.le_of_ble_eq_true rfl, Nat.le_of_ble_eq_true rfl⟩ (thv_y hok.1 hok.2).symm (afv_y hok.1 hok.2).symm dL_season_6
theorem k_L_season_y (l : Launch) (hst0 : l.stackTraces = false) {σ : Mem} {k d : Int} (hk0 : inR k) (hd0 : inR d) (hX : XC σ) (hz : 0 ≤ σ 15 1 ∧ σ 15 1 ≤ 6) (hS : IS σ) (hP : isK k) (hQ : 0 ≤ d ∧ d ≤ 99) : CtW l yL_season (Cond.codeWith yL_season cL_season 4 (some .int) [(0, 6, 7, 15), (0, 6, 11, 38)]) 8 127 (fun z => [.ref (z + 0), .int (kI k), .int (kI d)]) σ ((pus σ) 3 k) (up (pus σ) 3 k d) := by
  have h := k_L_season l hst0 (σ := σ) (k := k) (d := d) hk0 hd0 hX hz hS
  rw [thv_y hP hQ, afv_y hP hQ] at h
  exact h
theorem k_L_season_1 (l : Launch) (hst0 : l.stackTraces = false) {σ : Mem} {k d : Int} (hk0 : inR k) (hd0 : inR d) (hX : XC σ) (hz : 0 ≤ σ 15 1 ∧ σ 15 1 ≤ 6) (hS : IS σ) (hP : ¬ (isK k)) : CtW l yL_season (Cond.codeWith yL_season cL_season 4 (some .int) [(0, 6, 7, 15), (0, 6, 11, 38)]) 8 127 (fun z => [.ref (z + 0), .int (kI k), .int (kI d)]) σ (-2000001) σ := by
  have h := k_L_season l hst0 (σ := σ) (k := k) (d := d) hk0 hd0 hX hz hS
  rw [thv_1 hP, afv_n (fun z => hP z.1)] at h
  exact h
theorem k_L_season_2 (l : Launch) (hst0 : l.stackTraces = false) {σ : Mem} {k d : Int} (hk0 : inR k) (hd0 : inR d) (hX : XC σ) (hz : 0 ≤ σ 15 1 ∧ σ 15 1 ≤ 6) (hS : IS σ) (hP : isK k) (hQ : ¬ (0 ≤ d ∧ d ≤ 99)) : CtW l yL_season (Cond.codeWith yL_season cL_season 4 (some .int) [(0, 6, 7, 15), (0, 6, 11, 38)]) 8 127 (fun z => [.ref (z + 0), .int (kI k), .int (kI d)]) σ (-2000002) σ := by
  have h := k_L_season l hst0 (σ := σ) (k := k) (d := d) hk0 hd0 hX hz hS
  rw [thv_2 hP hQ, afv_n (fun z => hQ z.2)] at h
  exact h
set_option maxRecDepth 100000 in
set_option maxHeartbeats 4000000 in
theorem k_L_set (l : Launch) (hst0 : l.stackTraces = false) {σ : Mem} {k d : Int} (hk0 : inR k) (hd0 : inR d) (hX : XC σ) (hz : 0 ≤ σ 15 1 ∧ σ 15 1 ≤ 6) (hS : IS σ) : CtW l yL_set (Cond.codeWith yL_set cL_set 4 (some .int) [(0, 6, 7, 15), (0, 6, 11, 38)]) 8 127 (fun z => [.ref (z + 0), .int (kI k), .int (kI d)]) σ (thv (0 ≤ k ∧ k ≤ 2) ((if k = 1 then 1 else 0) ≤ d ∧ d ≤ (if k = 0 then 3 else if k = 1 then 9 else 20)) ((pus σ) 14 k)) (afv (0 ≤ k ∧ k ≤ 2) ((if k = 1 then 1 else 0) ≤ d ∧ d ≤ (if k = 0 then 3 else if k = 1 then 9 else 20)) (up (pus σ) 14 k d) σ) := by
  intro D T z
  refine CtW_of (by decide) (Nat.le_of_ble_eq_true rfl) ?_
  intro p e s m below meth c ls hx hb hml hr hts hown hlk G hl hv htab
  have hown : s.vm.findClass RL = some m.cls := hown
  have hl : lv_has ls 4 [(0, .ref (z + 0)), (1, .int (kI k)), (2, .int (kI d))] := hl
  refine lv_aload_n hx hb dL_set_0 rfl (lv_at hl 0 rfl) ?_
  refine lv_iload_n hx hb dL_set_1 rfl (lv_at hl 1 rfl) ?_
  refine lv_iload_n hx hb dL_set_2 rfl (lv_at hl 2 rfl) ?_
  refine r_tryI ⟨hx, hb, hml, hown, hts⟩ G hv (k_X5_set l hst0 (σ := σ) (k := k) (d := d) hk0 hd0 hX hz hS) (kVx_X5_set hts qM_L_46 ⟨Nat.le_of_ble_eq_true rfl, Nat.le_of_ble_eq_true rfl⟩) (rc_X5 G) rfl rfl hl.1 rfl (Nat.le_of_ble_eq_true rfl) dL_set_3 ⟨Nat.le_of_ble_eq_true rfl, Nat.le_of_ble_eq_true rfl⟩ (fun hno ce q9 H locs G hce hcv hcl => ?_) (fun hok H locs G => ?_)
  · skip
    by_cases hp : 0 ≤ k ∧ k ≤ 2
    · rw [if_pos hp] at hcl
      refine vx_catch (E := IAE) (name := IAE) hown [⟨0, 6, 7, 15⟩] ⟨0, 6, 11, 38⟩ [] htab (fun z hz => by rw [List.mem_singleton.mp hz]; exact Or.inr ⟨by decide, IOB, hts _ qK_L_15, hv.2.2 (IAE, IOB) (by decide)⟩) (by decide) (by decide) (hts _ qK_L_38) (hv.w _ (by decide)) hce hcv hcl ?_
      refine lv_astore_n (lv' := [(3, .ref q9), (0, .ref (z + 0)), (1, .int (kI k)), (2, .int (kI d))]) hx hb dL_set_11 rfl hl (by decide) rfl (fun ls hl => ?_)
      refine r_ldc (n := -2000002) hx hb hts hown qCon_L_27 (by decide) dL_set_12 ?_
      exact r_wret hx hb hr hlk G ⟨Nat.le_of_ble_eq_true rfl, Nat.le_of_ble_eq_true rfl⟩ (thv_2 hp (fun z => hno ⟨hp, z⟩)).symm (afv_n hno).symm dL_set_14
    · rw [if_neg hp] at hcl
      refine vx_catch (E := IOB) (name := IOB) hown [] ⟨0, 6, 7, 15⟩ [⟨0, 6, 11, 38⟩] htab (fun z hz => absurd hz List.not_mem_nil) (by decide) (by decide) (hts _ qK_L_15) (hv.w _ (by decide)) hce hcv hcl ?_
      refine lv_astore_n (lv' := [(3, .ref q9), (0, .ref (z + 0)), (1, .int (kI k)), (2, .int (kI d))]) hx hb dL_set_7 rfl hl (by decide) rfl (fun ls hl => ?_)
      refine r_ldc (n := -2000001) hx hb hts hown qCon_L_17 (by decide) dL_set_8 ?_
      exact r_wret hx hb hr hlk G ⟨Nat.le_of_ble_eq_true rfl, Nat.le_of_ble_eq_true rfl⟩ (thv_1 hp).symm (afv_n hno).symm dL_set_10
  exact r_wret hx hb hr hlk G ⟨Nat.le_of_ble_eq_true rfl, Nat.le_of_ble_eq_true rfl⟩ (thv_y hok.1 hok.2).symm (afv_y hok.1 hok.2).symm dL_set_6
theorem k_L_set_y (l : Launch) (hst0 : l.stackTraces = false) {σ : Mem} {k d : Int} (hk0 : inR k) (hd0 : inR d) (hX : XC σ) (hz : 0 ≤ σ 15 1 ∧ σ 15 1 ≤ 6) (hS : IS σ) (hP : 0 ≤ k ∧ k ≤ 2) (hQ : (if k = 1 then 1 else 0) ≤ d ∧ d ≤ (if k = 0 then 3 else if k = 1 then 9 else 20)) : CtW l yL_set (Cond.codeWith yL_set cL_set 4 (some .int) [(0, 6, 7, 15), (0, 6, 11, 38)]) 8 127 (fun z => [.ref (z + 0), .int (kI k), .int (kI d)]) σ ((pus σ) 14 k) (up (pus σ) 14 k d) := by
  have h := k_L_set l hst0 (σ := σ) (k := k) (d := d) hk0 hd0 hX hz hS
  rw [thv_y hP hQ, afv_y hP hQ] at h
  exact h
theorem k_L_set_1 (l : Launch) (hst0 : l.stackTraces = false) {σ : Mem} {k d : Int} (hk0 : inR k) (hd0 : inR d) (hX : XC σ) (hz : 0 ≤ σ 15 1 ∧ σ 15 1 ≤ 6) (hS : IS σ) (hP : ¬ (0 ≤ k ∧ k ≤ 2)) : CtW l yL_set (Cond.codeWith yL_set cL_set 4 (some .int) [(0, 6, 7, 15), (0, 6, 11, 38)]) 8 127 (fun z => [.ref (z + 0), .int (kI k), .int (kI d)]) σ (-2000001) σ := by
  have h := k_L_set l hst0 (σ := σ) (k := k) (d := d) hk0 hd0 hX hz hS
  rw [thv_1 hP, afv_n (fun z => hP z.1)] at h
  exact h
theorem k_L_set_2 (l : Launch) (hst0 : l.stackTraces = false) {σ : Mem} {k d : Int} (hk0 : inR k) (hd0 : inR d) (hX : XC σ) (hz : 0 ≤ σ 15 1 ∧ σ 15 1 ≤ 6) (hS : IS σ) (hP : 0 ≤ k ∧ k ≤ 2) (hQ : ¬ ((if k = 1 then 1 else 0) ≤ d ∧ d ≤ (if k = 0 then 3 else if k = 1 then 9 else 20))) : CtW l yL_set (Cond.codeWith yL_set cL_set 4 (some .int) [(0, 6, 7, 15), (0, 6, 11, 38)]) 8 127 (fun z => [.ref (z + 0), .int (kI k), .int (kI d)]) σ (-2000002) σ := by
  have h := k_L_set l hst0 (σ := σ) (k := k) (d := d) hk0 hd0 hX hz hS
  rw [thv_2 hP hQ, afv_n (fun z => hQ z.2)] at h
  exact h
set_option maxRecDepth 100000 in
set_option maxHeartbeats 4000000 in
theorem k_L_append (l : Launch) (hst0 : l.stackTraces = false) {σ : Mem} {v : Int} (hv0 : inR v) (hT : IT σ) : CtW l yL_append (Cond.codeWith yL_append cL_append 3 (some .int) [(0, 5, 6, 38), (0, 5, 10, 25)]) 8 125 (fun z => [.ref (z + 0), .int (kI v)]) σ (thv (33 ≤ v ∧ v ≤ 126) (¬ 60 ≤ σ 131 1) (σ 131 1 + 1)) (afv (33 ≤ v ∧ v ≤ 126) (¬ 60 ≤ σ 131 1) (up (up σ 132 (σ 131 1) v) 131 1 (σ 131 1 + 1)) σ) := by
  intro D T z
  refine CtW_of (by decide) (Nat.le_of_ble_eq_true rfl) ?_
  intro p e s m below meth c ls hx hb hml hr hts hown hlk G hl hv htab
  have hown : s.vm.findClass RL = some m.cls := hown
  have hl : lv_has ls 3 [(0, .ref (z + 0)), (1, .int (kI v))] := hl
  refine lv_aload_n hx hb dL_append_0 rfl (lv_at hl 0 rfl) ?_
  refine lv_iload_n hx hb dL_append_1 rfl (lv_at hl 1 rfl) ?_
  refine r_tryI ⟨hx, hb, hml, hown, hts⟩ G hv (k_X5_append l hst0 (σ := σ) (v := v) hv0 hT) (kVx_X5_append hts qM_L_49 ⟨Nat.le_of_ble_eq_true rfl, Nat.le_of_ble_eq_true rfl⟩) (rc_X5 G) rfl rfl hl.1 rfl (Nat.le_of_ble_eq_true rfl) dL_append_2 ⟨Nat.le_of_ble_eq_true rfl, Nat.le_of_ble_eq_true rfl⟩ (fun hno ce q9 H locs G hce hcv hcl => ?_) (fun hok H locs G => ?_)
  · skip
    by_cases hp : 33 ≤ v ∧ v ≤ 126
    · rw [if_pos hp] at hcl
      refine vx_catch (E := ISE) (name := ISE) hown [⟨0, 5, 6, 38⟩] ⟨0, 5, 10, 25⟩ [] htab (fun z hz => by rw [List.mem_singleton.mp hz]; exact Or.inr ⟨by decide, IAE, hts _ qK_L_38, hv.2.2 (ISE, IAE) (by decide)⟩) (by decide) (by decide) (hts _ qK_L_25) (hv.w _ (by decide)) hce hcv hcl ?_
      refine lv_astore_n (lv' := [(2, .ref q9), (0, .ref (z + 0)), (1, .int (kI v))]) hx hb dL_append_10 rfl hl (by decide) rfl (fun ls hl => ?_)
      refine r_ldc (n := -2000002) hx hb hts hown qCon_L_27 (by decide) dL_append_11 ?_
      exact r_wret hx hb hr hlk G ⟨Nat.le_of_ble_eq_true rfl, Nat.le_of_ble_eq_true rfl⟩ (thv_2 hp (fun z => hno ⟨hp, z⟩)).symm (afv_n hno).symm dL_append_13
    · rw [if_neg hp] at hcl
      refine vx_catch (E := IAE) (name := IAE) hown [] ⟨0, 5, 6, 38⟩ [⟨0, 5, 10, 25⟩] htab (fun z hz => absurd hz List.not_mem_nil) (by decide) (by decide) (hts _ qK_L_38) (hv.w _ (by decide)) hce hcv hcl ?_
      refine lv_astore_n (lv' := [(2, .ref q9), (0, .ref (z + 0)), (1, .int (kI v))]) hx hb dL_append_6 rfl hl (by decide) rfl (fun ls hl => ?_)
      refine r_ldc (n := -2000001) hx hb hts hown qCon_L_17 (by decide) dL_append_7 ?_
      exact r_wret hx hb hr hlk G ⟨Nat.le_of_ble_eq_true rfl, Nat.le_of_ble_eq_true rfl⟩ (thv_1 hp).symm (afv_n hno).symm dL_append_9
  exact r_wret hx hb hr hlk G ⟨Nat.le_of_ble_eq_true rfl, Nat.le_of_ble_eq_true rfl⟩ (thv_y hok.1 hok.2).symm (afv_y hok.1 hok.2).symm dL_append_5
theorem k_L_append_y (l : Launch) (hst0 : l.stackTraces = false) {σ : Mem} {v : Int} (hv0 : inR v) (hT : IT σ) (hP : 33 ≤ v ∧ v ≤ 126) (hQ : ¬ 60 ≤ σ 131 1) : CtW l yL_append (Cond.codeWith yL_append cL_append 3 (some .int) [(0, 5, 6, 38), (0, 5, 10, 25)]) 8 125 (fun z => [.ref (z + 0), .int (kI v)]) σ (σ 131 1 + 1) (up (up σ 132 (σ 131 1) v) 131 1 (σ 131 1 + 1)) := by
  have h := k_L_append l hst0 (σ := σ) (v := v) hv0 hT
  rw [thv_y hP hQ, afv_y hP hQ] at h
  exact h
theorem k_L_append_1 (l : Launch) (hst0 : l.stackTraces = false) {σ : Mem} {v : Int} (hv0 : inR v) (hT : IT σ) (hP : ¬ (33 ≤ v ∧ v ≤ 126)) : CtW l yL_append (Cond.codeWith yL_append cL_append 3 (some .int) [(0, 5, 6, 38), (0, 5, 10, 25)]) 8 125 (fun z => [.ref (z + 0), .int (kI v)]) σ (-2000001) σ := by
  have h := k_L_append l hst0 (σ := σ) (v := v) hv0 hT
  rw [thv_1 hP, afv_n (fun z => hP z.1)] at h
  exact h
theorem k_L_append_2 (l : Launch) (hst0 : l.stackTraces = false) {σ : Mem} {v : Int} (hv0 : inR v) (hT : IT σ) (hP : 33 ≤ v ∧ v ≤ 126) (hQ : ¬ (¬ 60 ≤ σ 131 1)) : CtW l yL_append (Cond.codeWith yL_append cL_append 3 (some .int) [(0, 5, 6, 38), (0, 5, 10, 25)]) 8 125 (fun z => [.ref (z + 0), .int (kI v)]) σ (-2000002) σ := by
  have h := k_L_append l hst0 (σ := σ) (v := v) hv0 hT
  rw [thv_2 hP hQ, afv_n (fun z => hQ z.2)] at h
  exact h
set_option maxRecDepth 100000 in
set_option maxHeartbeats 4000000 in
theorem k_L_run (l : Launch) (hst0 : l.stackTraces = false) {σ : Mem} (hT : IT σ) (hX : XC σ) (hz : 0 ≤ σ 15 1 ∧ σ 15 1 ≤ 6) (hS : IS σ) (hR0 : mayE (ast σ (σ 131 1)) → ∀ i, 0 ≤ i → i < σ 131 1 → (crI σ i).2.2 = 1 → IS (crI σ i).1 ∧ (bgn σ i → inR (num σ (i + 1)) ∧ inR (num σ (i + 3)))) : CtW l yL_run (Cond.codeWith yL_run cL_run 2 (some .int) [(0, 4, 5, 38)]) 7 161 (fun z => [.ref (z + 0)]) σ (thv (mayE (ast σ (σ 131 1))) (True) ((crI σ (σ 131 1)).2.1)) (afv (mayE (ast σ (σ 131 1))) (True) (up (crI σ (σ 131 1)).1 131 1 0) σ) := by
  intro D T z
  refine CtW_of (by decide) (Nat.le_of_ble_eq_true rfl) ?_
  intro p e s m below meth c ls hx hb hml hr hts hown hlk G hl hv htab
  have hown : s.vm.findClass RL = some m.cls := hown
  have hl : lv_has ls 2 [(0, .ref (z + 0))] := hl
  refine lv_aload_n hx hb dL_run_0 rfl (lv_at hl 0 rfl) ?_
  refine r_tryI ⟨hx, hb, hml, hown, hts⟩ G hv (k_X5_run l hst0 (σ := σ) hT hX hz hS hR0) (kVx_X5_run hts qM_L_52 ⟨Nat.le_of_ble_eq_true rfl, Nat.le_of_ble_eq_true rfl⟩) (rc_X5 G) rfl rfl hl.1 rfl (Nat.le_of_ble_eq_true rfl) dL_run_1 ⟨Nat.le_of_ble_eq_true rfl, Nat.le_of_ble_eq_true rfl⟩ (fun hno ce q9 H locs G hce hcv hcl => ?_) (fun hok H locs G => ?_)
  · skip
    refine vx_catch (E := IAE) (name := IAE) hown [] ⟨0, 4, 5, 38⟩ [] htab (fun z hz => absurd hz List.not_mem_nil) (by decide) (by decide) (hts _ qK_L_38) (hv.w _ (by decide)) hce hcv hcl ?_
    refine lv_astore_n (lv' := [(1, .ref q9), (0, .ref (z + 0))]) hx hb dL_run_5 rfl hl (by decide) rfl (fun ls hl => ?_)
    refine r_ldc (n := -2000001) hx hb hts hown qCon_L_17 (by decide) dL_run_6 ?_
    exact r_wret hx hb hr hlk G ⟨Nat.le_of_ble_eq_true rfl, Nat.le_of_ble_eq_true rfl⟩ (thv_1 hno).symm (afv_n (fun z => hno z.1)).symm dL_run_8
  exact r_wret hx hb hr hlk G ⟨Nat.le_of_ble_eq_true rfl, Nat.le_of_ble_eq_true rfl⟩ (thv_y hok trivial).symm (afv_y hok trivial).symm dL_run_4
theorem k_L_run_y (l : Launch) (hst0 : l.stackTraces = false) {σ : Mem} (hT : IT σ) (hX : XC σ) (hz : 0 ≤ σ 15 1 ∧ σ 15 1 ≤ 6) (hS : IS σ) (hR0 : mayE (ast σ (σ 131 1)) → ∀ i, 0 ≤ i → i < σ 131 1 → (crI σ i).2.2 = 1 → IS (crI σ i).1 ∧ (bgn σ i → inR (num σ (i + 1)) ∧ inR (num σ (i + 3)))) (hP : mayE (ast σ (σ 131 1)))  : CtW l yL_run (Cond.codeWith yL_run cL_run 2 (some .int) [(0, 4, 5, 38)]) 7 161 (fun z => [.ref (z + 0)]) σ ((crI σ (σ 131 1)).2.1) (up (crI σ (σ 131 1)).1 131 1 0) := by
  have h := k_L_run l hst0 (σ := σ) hT hX hz hS hR0
  rw [thv_y hP trivial, afv_y hP trivial] at h
  exact h
theorem k_L_run_1 (l : Launch) (hst0 : l.stackTraces = false) {σ : Mem} (hT : IT σ) (hX : XC σ) (hz : 0 ≤ σ 15 1 ∧ σ 15 1 ≤ 6) (hS : IS σ) (hR0 : mayE (ast σ (σ 131 1)) → ∀ i, 0 ≤ i → i < σ 131 1 → (crI σ i).2.2 = 1 → IS (crI σ i).1 ∧ (bgn σ i → inR (num σ (i + 1)) ∧ inR (num σ (i + 3)))) (hP : ¬ (mayE (ast σ (σ 131 1)))) : CtW l yL_run (Cond.codeWith yL_run cL_run 2 (some .int) [(0, 4, 5, 38)]) 7 161 (fun z => [.ref (z + 0)]) σ (-2000001) σ := by
  have h := k_L_run l hst0 (σ := σ) hT hX hz hS hR0
  rw [thv_1 hP, afv_n (fun z => hP z.1)] at h
  exact h
set_option maxRecDepth 100000 in
set_option maxHeartbeats 4000000 in
theorem k_L_keep (l : Launch) (hst0 : l.stackTraces = false) {σ : Mem} {q : Int} (hq0 : inR q) : CtW l yL_keep (Cond.codeWith yL_keep cL_keep 3 (some .int) [(0, 5, 6, 38)]) 8 125 (fun z => [.ref (z + 0), .int (kI q)]) σ (thv (0 ≤ q ∧ q ≤ 1) (True) (σ 2 0)) (afv (0 ≤ q ∧ q ≤ 1) (True) (up (csp σ 1 (102 + 14 * q.toNat)) 130 q 1) σ) := by
  intro D T z
  refine CtW_of (by decide) (Nat.le_of_ble_eq_true rfl) ?_
  intro p e s m below meth c ls hx hb hml hr hts hown hlk G hl hv htab
  have hown : s.vm.findClass RL = some m.cls := hown
  have hl : lv_has ls 3 [(0, .ref (z + 0)), (1, .int (kI q))] := hl
  refine lv_aload_n hx hb dL_keep_0 rfl (lv_at hl 0 rfl) ?_
  refine lv_iload_n hx hb dL_keep_1 rfl (lv_at hl 1 rfl) ?_
  refine r_tryI ⟨hx, hb, hml, hown, hts⟩ G hv (k_X5_keep l hst0 (σ := σ) (q := q) hq0) (kVx_X5_keep hts qM_L_56 ⟨Nat.le_of_ble_eq_true rfl, Nat.le_of_ble_eq_true rfl⟩) (rc_X5 G) rfl rfl hl.1 rfl (Nat.le_of_ble_eq_true rfl) dL_keep_2 ⟨Nat.le_of_ble_eq_true rfl, Nat.le_of_ble_eq_true rfl⟩ (fun hno ce q9 H locs G hce hcv hcl => ?_) (fun hok H locs G => ?_)
  · skip
    refine vx_catch (E := IAE) (name := IAE) hown [] ⟨0, 5, 6, 38⟩ [] htab (fun z hz => absurd hz List.not_mem_nil) (by decide) (by decide) (hts _ qK_L_38) (hv.w _ (by decide)) hce hcv hcl ?_
    refine lv_astore_n (lv' := [(2, .ref q9), (0, .ref (z + 0)), (1, .int (kI q))]) hx hb dL_keep_6 rfl hl (by decide) rfl (fun ls hl => ?_)
    refine r_ldc (n := -2000001) hx hb hts hown qCon_L_17 (by decide) dL_keep_7 ?_
    exact r_wret hx hb hr hlk G ⟨Nat.le_of_ble_eq_true rfl, Nat.le_of_ble_eq_true rfl⟩ (thv_1 hno).symm (afv_n (fun z => hno z.1)).symm dL_keep_9
  exact r_wret hx hb hr hlk G ⟨Nat.le_of_ble_eq_true rfl, Nat.le_of_ble_eq_true rfl⟩ (thv_y hok trivial).symm (afv_y hok trivial).symm dL_keep_5
theorem k_L_keep_y (l : Launch) (hst0 : l.stackTraces = false) {σ : Mem} {q : Int} (hq0 : inR q) (hP : 0 ≤ q ∧ q ≤ 1)  : CtW l yL_keep (Cond.codeWith yL_keep cL_keep 3 (some .int) [(0, 5, 6, 38)]) 8 125 (fun z => [.ref (z + 0), .int (kI q)]) σ (σ 2 0) (up (csp σ 1 (102 + 14 * q.toNat)) 130 q 1) := by
  have h := k_L_keep l hst0 (σ := σ) (q := q) hq0
  rw [thv_y hP trivial, afv_y hP trivial] at h
  exact h
theorem k_L_keep_1 (l : Launch) (hst0 : l.stackTraces = false) {σ : Mem} {q : Int} (hq0 : inR q) (hP : ¬ (0 ≤ q ∧ q ≤ 1)) : CtW l yL_keep (Cond.codeWith yL_keep cL_keep 3 (some .int) [(0, 5, 6, 38)]) 8 125 (fun z => [.ref (z + 0), .int (kI q)]) σ (-2000001) σ := by
  have h := k_L_keep l hst0 (σ := σ) (q := q) hq0
  rw [thv_1 hP, afv_n (fun z => hP z.1)] at h
  exact h
set_option maxRecDepth 100000 in
set_option maxHeartbeats 4000000 in
theorem k_L_goBack (l : Launch) (hst0 : l.stackTraces = false) {σ : Mem} {q : Int} (hq0 : inR q) (hKc : ∀ q, 0 ≤ q → q ≤ 1 → σ 130 q = 0 ∨ σ 130 q = 1) (hX : XC σ) (hz : 0 ≤ σ 15 1 ∧ σ 15 1 ≤ 6) (hS : IS σ) : CtW l yL_goBack (Cond.codeWith yL_goBack cL_goBack 3 (some .int) [(0, 5, 6, 38), (0, 5, 10, 25)]) 8 125 (fun z => [.ref (z + 0), .int (kI q)]) σ (thv (0 ≤ q ∧ q ≤ 1) (σ 130 q = 1) ((pus σ) (102 + 14 * q.toNat + 1) 0)) (afv (0 ≤ q ∧ q ≤ 1) (σ 130 q = 1) (csp (pus σ) (102 + 14 * q.toNat) 1) σ) := by
  intro D T z
  refine CtW_of (by decide) (Nat.le_of_ble_eq_true rfl) ?_
  intro p e s m below meth c ls hx hb hml hr hts hown hlk G hl hv htab
  have hown : s.vm.findClass RL = some m.cls := hown
  have hl : lv_has ls 3 [(0, .ref (z + 0)), (1, .int (kI q))] := hl
  refine lv_aload_n hx hb dL_goBack_0 rfl (lv_at hl 0 rfl) ?_
  refine lv_iload_n hx hb dL_goBack_1 rfl (lv_at hl 1 rfl) ?_
  refine r_tryI ⟨hx, hb, hml, hown, hts⟩ G hv (k_X5_goBack l hst0 (σ := σ) (q := q) hq0 hKc hX hz hS) (kVx_X5_goBack hts qM_L_59 ⟨Nat.le_of_ble_eq_true rfl, Nat.le_of_ble_eq_true rfl⟩) (rc_X5 G) rfl rfl hl.1 rfl (Nat.le_of_ble_eq_true rfl) dL_goBack_2 ⟨Nat.le_of_ble_eq_true rfl, Nat.le_of_ble_eq_true rfl⟩ (fun hno ce q9 H locs G hce hcv hcl => ?_) (fun hok H locs G => ?_)
  · skip
    by_cases hp : 0 ≤ q ∧ q ≤ 1
    · rw [if_pos hp] at hcl
      refine vx_catch (E := ISE) (name := ISE) hown [⟨0, 5, 6, 38⟩] ⟨0, 5, 10, 25⟩ [] htab (fun z hz => by rw [List.mem_singleton.mp hz]; exact Or.inr ⟨by decide, IAE, hts _ qK_L_38, hv.2.2 (ISE, IAE) (by decide)⟩) (by decide) (by decide) (hts _ qK_L_25) (hv.w _ (by decide)) hce hcv hcl ?_
      refine lv_astore_n (lv' := [(2, .ref q9), (0, .ref (z + 0)), (1, .int (kI q))]) hx hb dL_goBack_10 rfl hl (by decide) rfl (fun ls hl => ?_)
      refine r_ldc (n := -2000002) hx hb hts hown qCon_L_27 (by decide) dL_goBack_11 ?_
      exact r_wret hx hb hr hlk G ⟨Nat.le_of_ble_eq_true rfl, Nat.le_of_ble_eq_true rfl⟩ (thv_2 hp (fun z => hno ⟨hp, z⟩)).symm (afv_n hno).symm dL_goBack_13
    · rw [if_neg hp] at hcl
      refine vx_catch (E := IAE) (name := IAE) hown [] ⟨0, 5, 6, 38⟩ [⟨0, 5, 10, 25⟩] htab (fun z hz => absurd hz List.not_mem_nil) (by decide) (by decide) (hts _ qK_L_38) (hv.w _ (by decide)) hce hcv hcl ?_
      refine lv_astore_n (lv' := [(2, .ref q9), (0, .ref (z + 0)), (1, .int (kI q))]) hx hb dL_goBack_6 rfl hl (by decide) rfl (fun ls hl => ?_)
      refine r_ldc (n := -2000001) hx hb hts hown qCon_L_17 (by decide) dL_goBack_7 ?_
      exact r_wret hx hb hr hlk G ⟨Nat.le_of_ble_eq_true rfl, Nat.le_of_ble_eq_true rfl⟩ (thv_1 hp).symm (afv_n hno).symm dL_goBack_9
  exact r_wret hx hb hr hlk G ⟨Nat.le_of_ble_eq_true rfl, Nat.le_of_ble_eq_true rfl⟩ (thv_y hok.1 hok.2).symm (afv_y hok.1 hok.2).symm dL_goBack_5
theorem k_L_goBack_y (l : Launch) (hst0 : l.stackTraces = false) {σ : Mem} {q : Int} (hq0 : inR q) (hKc : ∀ q, 0 ≤ q → q ≤ 1 → σ 130 q = 0 ∨ σ 130 q = 1) (hX : XC σ) (hz : 0 ≤ σ 15 1 ∧ σ 15 1 ≤ 6) (hS : IS σ) (hP : 0 ≤ q ∧ q ≤ 1) (hQ : σ 130 q = 1) : CtW l yL_goBack (Cond.codeWith yL_goBack cL_goBack 3 (some .int) [(0, 5, 6, 38), (0, 5, 10, 25)]) 8 125 (fun z => [.ref (z + 0), .int (kI q)]) σ ((pus σ) (102 + 14 * q.toNat + 1) 0) (csp (pus σ) (102 + 14 * q.toNat) 1) := by
  have h := k_L_goBack l hst0 (σ := σ) (q := q) hq0 hKc hX hz hS
  rw [thv_y hP hQ, afv_y hP hQ] at h
  exact h
theorem k_L_goBack_1 (l : Launch) (hst0 : l.stackTraces = false) {σ : Mem} {q : Int} (hq0 : inR q) (hKc : ∀ q, 0 ≤ q → q ≤ 1 → σ 130 q = 0 ∨ σ 130 q = 1) (hX : XC σ) (hz : 0 ≤ σ 15 1 ∧ σ 15 1 ≤ 6) (hS : IS σ) (hP : ¬ (0 ≤ q ∧ q ≤ 1)) : CtW l yL_goBack (Cond.codeWith yL_goBack cL_goBack 3 (some .int) [(0, 5, 6, 38), (0, 5, 10, 25)]) 8 125 (fun z => [.ref (z + 0), .int (kI q)]) σ (-2000001) σ := by
  have h := k_L_goBack l hst0 (σ := σ) (q := q) hq0 hKc hX hz hS
  rw [thv_1 hP, afv_n (fun z => hP z.1)] at h
  exact h
theorem k_L_goBack_2 (l : Launch) (hst0 : l.stackTraces = false) {σ : Mem} {q : Int} (hq0 : inR q) (hKc : ∀ q, 0 ≤ q → q ≤ 1 → σ 130 q = 0 ∨ σ 130 q = 1) (hX : XC σ) (hz : 0 ≤ σ 15 1 ∧ σ 15 1 ≤ 6) (hS : IS σ) (hP : 0 ≤ q ∧ q ≤ 1) (hQ : ¬ (σ 130 q = 1)) : CtW l yL_goBack (Cond.codeWith yL_goBack cL_goBack 3 (some .int) [(0, 5, 6, 38), (0, 5, 10, 25)]) 8 125 (fun z => [.ref (z + 0), .int (kI q)]) σ (-2000002) σ := by
  have h := k_L_goBack l hst0 (σ := σ) (q := q) hq0 hKc hX hz hS
  rw [thv_2 hP hQ, afv_n (fun z => hQ z.2)] at h
  exact h
set_option maxRecDepth 100000 in
set_option maxHeartbeats 4000000 in
theorem k_L_undo (l : Launch) (hst0 : l.stackTraces = false) {σ : Mem} (hX : XC σ) (hz : 0 ≤ σ 15 1 ∧ σ 15 1 ≤ 6) : CtW l yL_undo (Cond.codeWith yL_undo cL_undo 2 (some .int) [(0, 4, 5, 25)]) 7 102 (fun z => [.ref (z + 0)]) σ (thv (¬ σ 15 1 = 0) (True) (σ 15 1 - 1)) (afv (¬ σ 15 1 = 0) (True) (pop σ) σ) := by
  intro D T z
  refine CtW_of (by decide) (Nat.le_of_ble_eq_true rfl) ?_
  intro p e s m below meth c ls hx hb hml hr hts hown hlk G hl hv htab
  have hown : s.vm.findClass RL = some m.cls := hown
  have hl : lv_has ls 2 [(0, .ref (z + 0))] := hl
  refine lv_aload_n hx hb dL_undo_0 rfl (lv_at hl 0 rfl) ?_
  refine r_tryI ⟨hx, hb, hml, hown, hts⟩ G hv (k_X5_undo l hst0 (σ := σ) hX hz) (kVx_X5_undo hts qM_L_62 ⟨Nat.le_of_ble_eq_true rfl, Nat.le_of_ble_eq_true rfl⟩) (rc_X5 G) rfl rfl hl.1 rfl (Nat.le_of_ble_eq_true rfl) dL_undo_1 ⟨Nat.le_of_ble_eq_true rfl, Nat.le_of_ble_eq_true rfl⟩ (fun hno ce q9 H locs G hce hcv hcl => ?_) (fun hok H locs G => ?_)
  · skip
    refine vx_catch (E := ISE) (name := ISE) hown [] ⟨0, 4, 5, 25⟩ [] htab (fun z hz => absurd hz List.not_mem_nil) (by decide) (by decide) (hts _ qK_L_25) (hv.w _ (by decide)) hce hcv hcl ?_
    refine lv_astore_n (lv' := [(1, .ref q9), (0, .ref (z + 0))]) hx hb dL_undo_5 rfl hl (by decide) rfl (fun ls hl => ?_)
    refine r_ldc (n := -2000001) hx hb hts hown qCon_L_17 (by decide) dL_undo_6 ?_
    exact r_wret hx hb hr hlk G ⟨Nat.le_of_ble_eq_true rfl, Nat.le_of_ble_eq_true rfl⟩ (thv_1 hno).symm (afv_n (fun z => hno z.1)).symm dL_undo_8
  exact r_wret hx hb hr hlk G ⟨Nat.le_of_ble_eq_true rfl, Nat.le_of_ble_eq_true rfl⟩ (thv_y hok trivial).symm (afv_y hok trivial).symm dL_undo_4
theorem k_L_undo_y (l : Launch) (hst0 : l.stackTraces = false) {σ : Mem} (hX : XC σ) (hz : 0 ≤ σ 15 1 ∧ σ 15 1 ≤ 6) (hP : ¬ σ 15 1 = 0)  : CtW l yL_undo (Cond.codeWith yL_undo cL_undo 2 (some .int) [(0, 4, 5, 25)]) 7 102 (fun z => [.ref (z + 0)]) σ (σ 15 1 - 1) (pop σ) := by
  have h := k_L_undo l hst0 (σ := σ) hX hz
  rw [thv_y hP trivial, afv_y hP trivial] at h
  exact h
theorem k_L_undo_1 (l : Launch) (hst0 : l.stackTraces = false) {σ : Mem} (hX : XC σ) (hz : 0 ≤ σ 15 1 ∧ σ 15 1 ≤ 6) (hP : ¬ (¬ σ 15 1 = 0)) : CtW l yL_undo (Cond.codeWith yL_undo cL_undo 2 (some .int) [(0, 4, 5, 25)]) 7 102 (fun z => [.ref (z + 0)]) σ (-2000001) σ := by
  have h := k_L_undo l hst0 (σ := σ) hX hz
  rw [thv_1 hP, afv_n (fun z => hP z.1)] at h
  exact h
set_option maxRecDepth 100000 in
set_option maxHeartbeats 4000000 in
theorem k_L_keyOf (l : Launch) (hst0 : l.stackTraces = false) {σ : Mem} {k y w : Int} (hk0 : inR k) (hy0 : inR y) (hw0 : inR w) (hS : IS σ) : CtW l yL_keyOf (Cond.codeWith yL_keyOf cL_keyOf 5 (some .int) [(0, 7, 8, 15), (0, 7, 13, 38)]) 8 127 (fun z => [.ref (z + 0), .int (kI k), .int (kI y), .int (kI w)]) σ (thv (isY k y) (0 ≤ w ∧ w ≤ 4) (pok σ k y w)) (σ) := by
  intro D T z
  refine CtW_of (by decide) (Nat.le_of_ble_eq_true rfl) ?_
  intro p e s m below meth c ls hx hb hml hr hts hown hlk G hl hv htab
  have hown : s.vm.findClass RL = some m.cls := hown
  have hl : lv_has ls 5 [(0, .ref (z + 0)), (1, .int (kI k)), (2, .int (kI y)), (3, .int (kI w))] := hl
  refine lv_aload_n hx hb dL_keyOf_0 rfl (lv_at hl 0 rfl) ?_
  refine lv_iload_n hx hb dL_keyOf_1 rfl (lv_at hl 1 rfl) ?_
  refine lv_iload_n hx hb dL_keyOf_2 rfl (lv_at hl 2 rfl) ?_
  refine lv_iload_n hx hb dL_keyOf_3 rfl (lv_at hl 3 rfl) ?_
  refine r_tryI ⟨hx, hb, hml, hown, hts⟩ G hv (k_X5_keyOf l hst0 (σ := σ) (k := k) (y := y) (w := w) hk0 hy0 hw0 hS) (kVx_X5_keyOf hts qM_L_65 ⟨Nat.le_of_ble_eq_true rfl, Nat.le_of_ble_eq_true rfl⟩) (rc_X5 G) rfl rfl hl.1 rfl (Nat.le_of_ble_eq_true rfl) dL_keyOf_4 ⟨Nat.le_of_ble_eq_true rfl, Nat.le_of_ble_eq_true rfl⟩ (fun hno ce q9 H locs G hce hcv hcl => ?_) (fun hok H locs G => ?_)
  · skip
    by_cases hp : isY k y
    · rw [if_pos hp] at hcl
      refine vx_catch (E := IAE) (name := IAE) hown [⟨0, 7, 8, 15⟩] ⟨0, 7, 13, 38⟩ [] htab (fun z hz => by rw [List.mem_singleton.mp hz]; exact Or.inr ⟨by decide, IOB, hts _ qK_L_15, hv.2.2 (IAE, IOB) (by decide)⟩) (by decide) (by decide) (hts _ qK_L_38) (hv.w _ (by decide)) hce hcv hcl ?_
      refine lv_astore (lv' := [(4, .ref q9), (0, .ref (z + 0)), (1, .int (kI k)), (2, .int (kI y)), (3, .int (kI w))]) hx hb dL_keyOf_13 hl (by decide) rfl (fun ls hl => ?_)
      refine r_ldc (n := -2000002) hx hb hts hown qCon_L_27 (by decide) dL_keyOf_15 ?_
      exact r_wret hx hb hr hlk G ⟨Nat.le_of_ble_eq_true rfl, Nat.le_of_ble_eq_true rfl⟩ (thv_2 hp (fun z => hno ⟨hp, z⟩)).symm rfl dL_keyOf_17
    · rw [if_neg hp] at hcl
      refine vx_catch (E := IOB) (name := IOB) hown [] ⟨0, 7, 8, 15⟩ [⟨0, 7, 13, 38⟩] htab (fun z hz => absurd hz List.not_mem_nil) (by decide) (by decide) (hts _ qK_L_15) (hv.w _ (by decide)) hce hcv hcl ?_
      refine lv_astore (lv' := [(4, .ref q9), (0, .ref (z + 0)), (1, .int (kI k)), (2, .int (kI y)), (3, .int (kI w))]) hx hb dL_keyOf_8 hl (by decide) rfl (fun ls hl => ?_)
      refine r_ldc (n := -2000001) hx hb hts hown qCon_L_17 (by decide) dL_keyOf_10 ?_
      exact r_wret hx hb hr hlk G ⟨Nat.le_of_ble_eq_true rfl, Nat.le_of_ble_eq_true rfl⟩ (thv_1 hp).symm rfl dL_keyOf_12
  exact r_wret hx hb hr hlk G ⟨Nat.le_of_ble_eq_true rfl, Nat.le_of_ble_eq_true rfl⟩ (thv_y hok.1 hok.2).symm rfl dL_keyOf_7
theorem k_L_keyOf_y (l : Launch) (hst0 : l.stackTraces = false) {σ : Mem} {k y w : Int} (hk0 : inR k) (hy0 : inR y) (hw0 : inR w) (hS : IS σ) (hP : isY k y) (hQ : 0 ≤ w ∧ w ≤ 4) : CtW l yL_keyOf (Cond.codeWith yL_keyOf cL_keyOf 5 (some .int) [(0, 7, 8, 15), (0, 7, 13, 38)]) 8 127 (fun z => [.ref (z + 0), .int (kI k), .int (kI y), .int (kI w)]) σ (pok σ k y w) (σ) := by
  have h := k_L_keyOf l hst0 (σ := σ) (k := k) (y := y) (w := w) hk0 hy0 hw0 hS
  rw [thv_y hP hQ] at h
  exact h
theorem k_L_keyOf_1 (l : Launch) (hst0 : l.stackTraces = false) {σ : Mem} {k y w : Int} (hk0 : inR k) (hy0 : inR y) (hw0 : inR w) (hS : IS σ) (hP : ¬ (isY k y)) : CtW l yL_keyOf (Cond.codeWith yL_keyOf cL_keyOf 5 (some .int) [(0, 7, 8, 15), (0, 7, 13, 38)]) 8 127 (fun z => [.ref (z + 0), .int (kI k), .int (kI y), .int (kI w)]) σ (-2000001) σ := by
  have h := k_L_keyOf l hst0 (σ := σ) (k := k) (y := y) (w := w) hk0 hy0 hw0 hS
  rw [thv_1 hP] at h
  exact h
theorem k_L_keyOf_2 (l : Launch) (hst0 : l.stackTraces = false) {σ : Mem} {k y w : Int} (hk0 : inR k) (hy0 : inR y) (hw0 : inR w) (hS : IS σ) (hP : isY k y) (hQ : ¬ (0 ≤ w ∧ w ≤ 4)) : CtW l yL_keyOf (Cond.codeWith yL_keyOf cL_keyOf 5 (some .int) [(0, 7, 8, 15), (0, 7, 13, 38)]) 8 127 (fun z => [.ref (z + 0), .int (kI k), .int (kI y), .int (kI w)]) σ (-2000002) σ := by
  have h := k_L_keyOf l hst0 (σ := σ) (k := k) (y := y) (w := w) hk0 hy0 hw0 hS
  rw [thv_2 hP hQ] at h
  exact h
set_option maxRecDepth 100000 in
set_option maxHeartbeats 4000000 in
theorem k_L_kindOf (l : Launch) (hst0 : l.stackTraces = false) {σ : Mem} {k w : Int} (hk0 : inR k) (hw0 : inR w) (hS : IS σ) : CtW l yL_kindOf (Cond.codeWith yL_kindOf cL_kindOf 4 (some .int) [(0, 6, 7, 15), (0, 6, 11, 38)]) 8 126 (fun z => [.ref (z + 0), .int (kI k), .int (kI w)]) σ (thv (isK k) (0 ≤ w ∧ w ≤ 10) (pkd σ k w)) (σ) := by
  intro D T z
  refine CtW_of (by decide) (Nat.le_of_ble_eq_true rfl) ?_
  intro p e s m below meth c ls hx hb hml hr hts hown hlk G hl hv htab
  have hown : s.vm.findClass RL = some m.cls := hown
  have hl : lv_has ls 4 [(0, .ref (z + 0)), (1, .int (kI k)), (2, .int (kI w))] := hl
  refine lv_aload_n hx hb dL_kindOf_0 rfl (lv_at hl 0 rfl) ?_
  refine lv_iload_n hx hb dL_kindOf_1 rfl (lv_at hl 1 rfl) ?_
  refine lv_iload_n hx hb dL_kindOf_2 rfl (lv_at hl 2 rfl) ?_
  refine r_tryI ⟨hx, hb, hml, hown, hts⟩ G hv (k_X5_kindOf l hst0 (σ := σ) (k := k) (w := w) hk0 hw0 hS) (kVx_X5_kindOf hts qM_L_68 ⟨Nat.le_of_ble_eq_true rfl, Nat.le_of_ble_eq_true rfl⟩) (rc_X5 G) rfl rfl hl.1 rfl (Nat.le_of_ble_eq_true rfl) dL_kindOf_3 ⟨Nat.le_of_ble_eq_true rfl, Nat.le_of_ble_eq_true rfl⟩ (fun hno ce q9 H locs G hce hcv hcl => ?_) (fun hok H locs G => ?_)
  · skip
    by_cases hp : isK k
    · rw [if_pos hp] at hcl
      refine vx_catch (E := IAE) (name := IAE) hown [⟨0, 6, 7, 15⟩] ⟨0, 6, 11, 38⟩ [] htab (fun z hz => by rw [List.mem_singleton.mp hz]; exact Or.inr ⟨by decide, IOB, hts _ qK_L_15, hv.2.2 (IAE, IOB) (by decide)⟩) (by decide) (by decide) (hts _ qK_L_38) (hv.w _ (by decide)) hce hcv hcl ?_
      refine lv_astore_n (lv' := [(3, .ref q9), (0, .ref (z + 0)), (1, .int (kI k)), (2, .int (kI w))]) hx hb dL_kindOf_11 rfl hl (by decide) rfl (fun ls hl => ?_)
      refine r_ldc (n := -2000002) hx hb hts hown qCon_L_27 (by decide) dL_kindOf_12 ?_
      exact r_wret hx hb hr hlk G ⟨Nat.le_of_ble_eq_true rfl, Nat.le_of_ble_eq_true rfl⟩ (thv_2 hp (fun z => hno ⟨hp, z⟩)).symm rfl dL_kindOf_14
    · rw [if_neg hp] at hcl
      refine vx_catch (E := IOB) (name := IOB) hown [] ⟨0, 6, 7, 15⟩ [⟨0, 6, 11, 38⟩] htab (fun z hz => absurd hz List.not_mem_nil) (by decide) (by decide) (hts _ qK_L_15) (hv.w _ (by decide)) hce hcv hcl ?_
      refine lv_astore_n (lv' := [(3, .ref q9), (0, .ref (z + 0)), (1, .int (kI k)), (2, .int (kI w))]) hx hb dL_kindOf_7 rfl hl (by decide) rfl (fun ls hl => ?_)
      refine r_ldc (n := -2000001) hx hb hts hown qCon_L_17 (by decide) dL_kindOf_8 ?_
      exact r_wret hx hb hr hlk G ⟨Nat.le_of_ble_eq_true rfl, Nat.le_of_ble_eq_true rfl⟩ (thv_1 hp).symm rfl dL_kindOf_10
  exact r_wret hx hb hr hlk G ⟨Nat.le_of_ble_eq_true rfl, Nat.le_of_ble_eq_true rfl⟩ (thv_y hok.1 hok.2).symm rfl dL_kindOf_6
theorem k_L_kindOf_y (l : Launch) (hst0 : l.stackTraces = false) {σ : Mem} {k w : Int} (hk0 : inR k) (hw0 : inR w) (hS : IS σ) (hP : isK k) (hQ : 0 ≤ w ∧ w ≤ 10) : CtW l yL_kindOf (Cond.codeWith yL_kindOf cL_kindOf 4 (some .int) [(0, 6, 7, 15), (0, 6, 11, 38)]) 8 126 (fun z => [.ref (z + 0), .int (kI k), .int (kI w)]) σ (pkd σ k w) (σ) := by
  have h := k_L_kindOf l hst0 (σ := σ) (k := k) (w := w) hk0 hw0 hS
  rw [thv_y hP hQ] at h
  exact h
theorem k_L_kindOf_1 (l : Launch) (hst0 : l.stackTraces = false) {σ : Mem} {k w : Int} (hk0 : inR k) (hw0 : inR w) (hS : IS σ) (hP : ¬ (isK k)) : CtW l yL_kindOf (Cond.codeWith yL_kindOf cL_kindOf 4 (some .int) [(0, 6, 7, 15), (0, 6, 11, 38)]) 8 126 (fun z => [.ref (z + 0), .int (kI k), .int (kI w)]) σ (-2000001) σ := by
  have h := k_L_kindOf l hst0 (σ := σ) (k := k) (w := w) hk0 hw0 hS
  rw [thv_1 hP] at h
  exact h
theorem k_L_kindOf_2 (l : Launch) (hst0 : l.stackTraces = false) {σ : Mem} {k w : Int} (hk0 : inR k) (hw0 : inR w) (hS : IS σ) (hP : isK k) (hQ : ¬ (0 ≤ w ∧ w ≤ 10)) : CtW l yL_kindOf (Cond.codeWith yL_kindOf cL_kindOf 4 (some .int) [(0, 6, 7, 15), (0, 6, 11, 38)]) 8 126 (fun z => [.ref (z + 0), .int (kI k), .int (kI w)]) σ (-2000002) σ := by
  have h := k_L_kindOf l hst0 (σ := σ) (k := k) (w := w) hk0 hw0 hS
  rw [thv_2 hP hQ] at h
  exact h
set_option maxRecDepth 100000 in
set_option maxHeartbeats 4000000 in
theorem k_L_pile (l : Launch) (hst0 : l.stackTraces = false) {σ : Mem} {k q : Int} (hk0 : inR k) (hq0 : inR q) (hS : IS σ) : CtW l yL_pile (Cond.codeWith yL_pile cL_pile 4 (some .int) [(0, 6, 7, 15), (0, 6, 11, 38)]) 8 125 (fun z => [.ref (z + 0), .int (kI k), .int (kI q)]) σ (thv (isK k) (0 ≤ q) (kat σ k q)) (σ) := by
  intro D T z
  refine CtW_of (by decide) (Nat.le_of_ble_eq_true rfl) ?_
  intro p e s m below meth c ls hx hb hml hr hts hown hlk G hl hv htab
  have hown : s.vm.findClass RL = some m.cls := hown
  have hl : lv_has ls 4 [(0, .ref (z + 0)), (1, .int (kI k)), (2, .int (kI q))] := hl
  refine lv_aload_n hx hb dL_pile_0 rfl (lv_at hl 0 rfl) ?_
  refine lv_iload_n hx hb dL_pile_1 rfl (lv_at hl 1 rfl) ?_
  refine lv_iload_n hx hb dL_pile_2 rfl (lv_at hl 2 rfl) ?_
  refine r_tryI ⟨hx, hb, hml, hown, hts⟩ G hv (k_X5_pile l hst0 (σ := σ) (k := k) (q := q) hk0 hq0 hS) (kVx_X5_pile hts qM_L_71 ⟨Nat.le_of_ble_eq_true rfl, Nat.le_of_ble_eq_true rfl⟩) (rc_X5 G) rfl rfl hl.1 rfl (Nat.le_of_ble_eq_true rfl) dL_pile_3 ⟨Nat.le_of_ble_eq_true rfl, Nat.le_of_ble_eq_true rfl⟩ (fun hno ce q9 H locs G hce hcv hcl => ?_) (fun hok H locs G => ?_)
  · skip
    by_cases hp : isK k
    · rw [if_pos hp] at hcl
      refine vx_catch (E := IAE) (name := IAE) hown [⟨0, 6, 7, 15⟩] ⟨0, 6, 11, 38⟩ [] htab (fun z hz => by rw [List.mem_singleton.mp hz]; exact Or.inr ⟨by decide, IOB, hts _ qK_L_15, hv.2.2 (IAE, IOB) (by decide)⟩) (by decide) (by decide) (hts _ qK_L_38) (hv.w _ (by decide)) hce hcv hcl ?_
      refine lv_astore_n (lv' := [(3, .ref q9), (0, .ref (z + 0)), (1, .int (kI k)), (2, .int (kI q))]) hx hb dL_pile_11 rfl hl (by decide) rfl (fun ls hl => ?_)
      refine r_ldc (n := -2000002) hx hb hts hown qCon_L_27 (by decide) dL_pile_12 ?_
      exact r_wret hx hb hr hlk G ⟨Nat.le_of_ble_eq_true rfl, Nat.le_of_ble_eq_true rfl⟩ (thv_2 hp (fun z => hno ⟨hp, z⟩)).symm rfl dL_pile_14
    · rw [if_neg hp] at hcl
      refine vx_catch (E := IOB) (name := IOB) hown [] ⟨0, 6, 7, 15⟩ [⟨0, 6, 11, 38⟩] htab (fun z hz => absurd hz List.not_mem_nil) (by decide) (by decide) (hts _ qK_L_15) (hv.w _ (by decide)) hce hcv hcl ?_
      refine lv_astore_n (lv' := [(3, .ref q9), (0, .ref (z + 0)), (1, .int (kI k)), (2, .int (kI q))]) hx hb dL_pile_7 rfl hl (by decide) rfl (fun ls hl => ?_)
      refine r_ldc (n := -2000001) hx hb hts hown qCon_L_17 (by decide) dL_pile_8 ?_
      exact r_wret hx hb hr hlk G ⟨Nat.le_of_ble_eq_true rfl, Nat.le_of_ble_eq_true rfl⟩ (thv_1 hp).symm rfl dL_pile_10
  exact r_wret hx hb hr hlk G ⟨Nat.le_of_ble_eq_true rfl, Nat.le_of_ble_eq_true rfl⟩ (thv_y hok.1 hok.2).symm rfl dL_pile_6
theorem k_L_pile_y (l : Launch) (hst0 : l.stackTraces = false) {σ : Mem} {k q : Int} (hk0 : inR k) (hq0 : inR q) (hS : IS σ) (hP : isK k) (hQ : 0 ≤ q) : CtW l yL_pile (Cond.codeWith yL_pile cL_pile 4 (some .int) [(0, 6, 7, 15), (0, 6, 11, 38)]) 8 125 (fun z => [.ref (z + 0), .int (kI k), .int (kI q)]) σ (kat σ k q) (σ) := by
  have h := k_L_pile l hst0 (σ := σ) (k := k) (q := q) hk0 hq0 hS
  rw [thv_y hP hQ] at h
  exact h
theorem k_L_pile_1 (l : Launch) (hst0 : l.stackTraces = false) {σ : Mem} {k q : Int} (hk0 : inR k) (hq0 : inR q) (hS : IS σ) (hP : ¬ (isK k)) : CtW l yL_pile (Cond.codeWith yL_pile cL_pile 4 (some .int) [(0, 6, 7, 15), (0, 6, 11, 38)]) 8 125 (fun z => [.ref (z + 0), .int (kI k), .int (kI q)]) σ (-2000001) σ := by
  have h := k_L_pile l hst0 (σ := σ) (k := k) (q := q) hk0 hq0 hS
  rw [thv_1 hP] at h
  exact h
theorem k_L_pile_2 (l : Launch) (hst0 : l.stackTraces = false) {σ : Mem} {k q : Int} (hk0 : inR k) (hq0 : inR q) (hS : IS σ) (hP : isK k) (hQ : ¬ (0 ≤ q)) : CtW l yL_pile (Cond.codeWith yL_pile cL_pile 4 (some .int) [(0, 6, 7, 15), (0, 6, 11, 38)]) 8 125 (fun z => [.ref (z + 0), .int (kI k), .int (kI q)]) σ (-2000002) σ := by
  have h := k_L_pile l hst0 (σ := σ) (k := k) (q := q) hk0 hq0 hS
  rw [thv_2 hP hQ] at h
  exact h
set_option maxRecDepth 100000 in
set_option maxHeartbeats 4000000 in
theorem k_L_count (l : Launch) (hst0 : l.stackTraces = false) {σ : Mem} {w : Int} (hw0 : inR w) (hS : IS σ) : CtW l yL_count (Cond.codeWith yL_count cL_count 3 (some .int) [(0, 5, 6, 38)]) 8 125 (fun z => [.ref (z + 0), .int (kI w)]) σ (thv (0 ≤ w ∧ w ≤ 9) (True) (nof σ w)) (σ) := by
  intro D T z
  refine CtW_of (by decide) (Nat.le_of_ble_eq_true rfl) ?_
  intro p e s m below meth c ls hx hb hml hr hts hown hlk G hl hv htab
  have hown : s.vm.findClass RL = some m.cls := hown
  have hl : lv_has ls 3 [(0, .ref (z + 0)), (1, .int (kI w))] := hl
  refine lv_aload_n hx hb dL_count_0 rfl (lv_at hl 0 rfl) ?_
  refine lv_iload_n hx hb dL_count_1 rfl (lv_at hl 1 rfl) ?_
  refine r_tryI ⟨hx, hb, hml, hown, hts⟩ G hv (k_X5_count l hst0 (σ := σ) (w := w) hw0 hS) (kVx_X5_count hts qM_L_74 ⟨Nat.le_of_ble_eq_true rfl, Nat.le_of_ble_eq_true rfl⟩) (rc_X5 G) rfl rfl hl.1 rfl (Nat.le_of_ble_eq_true rfl) dL_count_2 ⟨Nat.le_of_ble_eq_true rfl, Nat.le_of_ble_eq_true rfl⟩ (fun hno ce q9 H locs G hce hcv hcl => ?_) (fun hok H locs G => ?_)
  · skip
    refine vx_catch (E := IAE) (name := IAE) hown [] ⟨0, 5, 6, 38⟩ [] htab (fun z hz => absurd hz List.not_mem_nil) (by decide) (by decide) (hts _ qK_L_38) (hv.w _ (by decide)) hce hcv hcl ?_
    refine lv_astore_n (lv' := [(2, .ref q9), (0, .ref (z + 0)), (1, .int (kI w))]) hx hb dL_count_6 rfl hl (by decide) rfl (fun ls hl => ?_)
    refine r_ldc (n := -2000001) hx hb hts hown qCon_L_17 (by decide) dL_count_7 ?_
    exact r_wret hx hb hr hlk G ⟨Nat.le_of_ble_eq_true rfl, Nat.le_of_ble_eq_true rfl⟩ (thv_1 hno).symm rfl dL_count_9
  exact r_wret hx hb hr hlk G ⟨Nat.le_of_ble_eq_true rfl, Nat.le_of_ble_eq_true rfl⟩ (thv_y hok trivial).symm rfl dL_count_5
theorem k_L_count_y (l : Launch) (hst0 : l.stackTraces = false) {σ : Mem} {w : Int} (hw0 : inR w) (hS : IS σ) (hP : 0 ≤ w ∧ w ≤ 9)  : CtW l yL_count (Cond.codeWith yL_count cL_count 3 (some .int) [(0, 5, 6, 38)]) 8 125 (fun z => [.ref (z + 0), .int (kI w)]) σ (nof σ w) (σ) := by
  have h := k_L_count l hst0 (σ := σ) (w := w) hw0 hS
  rw [thv_y hP trivial] at h
  exact h
theorem k_L_count_1 (l : Launch) (hst0 : l.stackTraces = false) {σ : Mem} {w : Int} (hw0 : inR w) (hS : IS σ) (hP : ¬ (0 ≤ w ∧ w ≤ 9)) : CtW l yL_count (Cond.codeWith yL_count cL_count 3 (some .int) [(0, 5, 6, 38)]) 8 125 (fun z => [.ref (z + 0), .int (kI w)]) σ (-2000001) σ := by
  have h := k_L_count l hst0 (σ := σ) (w := w) hw0 hS
  rw [thv_1 hP] at h
  exact h
set_option maxRecDepth 100000 in
set_option maxHeartbeats 4000000 in
theorem k_L_setting (l : Launch) (hst0 : l.stackTraces = false) {σ : Mem} {k : Int} (hk0 : inR k) : CtW l yL_setting (Cond.codeWith yL_setting cL_setting 3 (some .int) [(0, 5, 6, 15)]) 8 123 (fun z => [.ref (z + 0), .int (kI k)]) σ (thv (0 ≤ k ∧ k ≤ 2) (True) (σ 14 k)) (σ) := by
  intro D T z
  refine CtW_of (by decide) (Nat.le_of_ble_eq_true rfl) ?_
  intro p e s m below meth c ls hx hb hml hr hts hown hlk G hl hv htab
  have hown : s.vm.findClass RL = some m.cls := hown
  have hl : lv_has ls 3 [(0, .ref (z + 0)), (1, .int (kI k))] := hl
  refine lv_aload_n hx hb dL_setting_0 rfl (lv_at hl 0 rfl) ?_
  refine lv_iload_n hx hb dL_setting_1 rfl (lv_at hl 1 rfl) ?_
  refine r_tryI ⟨hx, hb, hml, hown, hts⟩ G hv (k_X5_setting l hst0 (σ := σ) (k := k) hk0) (kVx_X5_setting hts qM_L_77 ⟨Nat.le_of_ble_eq_true rfl, Nat.le_of_ble_eq_true rfl⟩) (rc_X5 G) rfl rfl hl.1 rfl (Nat.le_of_ble_eq_true rfl) dL_setting_2 ⟨Nat.le_of_ble_eq_true rfl, Nat.le_of_ble_eq_true rfl⟩ (fun hno ce q9 H locs G hce hcv hcl => ?_) (fun hok H locs G => ?_)
  · skip
    refine vx_catch (E := IOB) (name := IOB) hown [] ⟨0, 5, 6, 15⟩ [] htab (fun z hz => absurd hz List.not_mem_nil) (by decide) (by decide) (hts _ qK_L_15) (hv.w _ (by decide)) hce hcv hcl ?_
    refine lv_astore_n (lv' := [(2, .ref q9), (0, .ref (z + 0)), (1, .int (kI k))]) hx hb dL_setting_6 rfl hl (by decide) rfl (fun ls hl => ?_)
    refine r_ldc (n := -2000001) hx hb hts hown qCon_L_17 (by decide) dL_setting_7 ?_
    exact r_wret hx hb hr hlk G ⟨Nat.le_of_ble_eq_true rfl, Nat.le_of_ble_eq_true rfl⟩ (thv_1 hno).symm rfl dL_setting_9
  exact r_wret hx hb hr hlk G ⟨Nat.le_of_ble_eq_true rfl, Nat.le_of_ble_eq_true rfl⟩ (thv_y hok trivial).symm rfl dL_setting_5
theorem k_L_setting_y (l : Launch) (hst0 : l.stackTraces = false) {σ : Mem} {k : Int} (hk0 : inR k) (hP : 0 ≤ k ∧ k ≤ 2)  : CtW l yL_setting (Cond.codeWith yL_setting cL_setting 3 (some .int) [(0, 5, 6, 15)]) 8 123 (fun z => [.ref (z + 0), .int (kI k)]) σ (σ 14 k) (σ) := by
  have h := k_L_setting l hst0 (σ := σ) (k := k) hk0
  rw [thv_y hP trivial] at h
  exact h
theorem k_L_setting_1 (l : Launch) (hst0 : l.stackTraces = false) {σ : Mem} {k : Int} (hk0 : inR k) (hP : ¬ (0 ≤ k ∧ k ≤ 2)) : CtW l yL_setting (Cond.codeWith yL_setting cL_setting 3 (some .int) [(0, 5, 6, 15)]) 8 123 (fun z => [.ref (z + 0), .int (kI k)]) σ (-2000001) σ := by
  have h := k_L_setting l hst0 (σ := σ) (k := k) hk0
  rw [thv_1 hP] at h
  exact h
set_option maxRecDepth 100000 in
set_option maxHeartbeats 4000000 in
theorem k_L_ifAsked (l : Launch) (hst0 : l.stackTraces = false) {σ : Mem} {k : Int} (hk0 : inR k) (hS : IS σ) : CtW l yL_ifAsked (Cond.codeWith yL_ifAsked cL_ifAsked 3 (some .int) [(0, 5, 6, 15)]) 8 123 (fun z => [.ref (z + 0), .int (kI k)]) σ (thv (isK k) (True) (atr σ k)) (σ) := by
  intro D T z
  refine CtW_of (by decide) (Nat.le_of_ble_eq_true rfl) ?_
  intro p e s m below meth c ls hx hb hml hr hts hown hlk G hl hv htab
  have hown : s.vm.findClass RL = some m.cls := hown
  have hl : lv_has ls 3 [(0, .ref (z + 0)), (1, .int (kI k))] := hl
  refine lv_aload_n hx hb dL_ifAsked_0 rfl (lv_at hl 0 rfl) ?_
  refine lv_iload_n hx hb dL_ifAsked_1 rfl (lv_at hl 1 rfl) ?_
  refine r_tryI ⟨hx, hb, hml, hown, hts⟩ G hv (k_X5_ifAsked l hst0 (σ := σ) (k := k) hk0 hS) (kVx_X5_ifAsked hts qM_L_80 ⟨Nat.le_of_ble_eq_true rfl, Nat.le_of_ble_eq_true rfl⟩) (rc_X5 G) rfl rfl hl.1 rfl (Nat.le_of_ble_eq_true rfl) dL_ifAsked_2 ⟨Nat.le_of_ble_eq_true rfl, Nat.le_of_ble_eq_true rfl⟩ (fun hno ce q9 H locs G hce hcv hcl => ?_) (fun hok H locs G => ?_)
  · skip
    refine vx_catch (E := IOB) (name := IOB) hown [] ⟨0, 5, 6, 15⟩ [] htab (fun z hz => absurd hz List.not_mem_nil) (by decide) (by decide) (hts _ qK_L_15) (hv.w _ (by decide)) hce hcv hcl ?_
    refine lv_astore_n (lv' := [(2, .ref q9), (0, .ref (z + 0)), (1, .int (kI k))]) hx hb dL_ifAsked_6 rfl hl (by decide) rfl (fun ls hl => ?_)
    refine r_ldc (n := -2000001) hx hb hts hown qCon_L_17 (by decide) dL_ifAsked_7 ?_
    exact r_wret hx hb hr hlk G ⟨Nat.le_of_ble_eq_true rfl, Nat.le_of_ble_eq_true rfl⟩ (thv_1 hno).symm rfl dL_ifAsked_9
  exact r_wret hx hb hr hlk G ⟨Nat.le_of_ble_eq_true rfl, Nat.le_of_ble_eq_true rfl⟩ (thv_y hok trivial).symm rfl dL_ifAsked_5
theorem k_L_ifAsked_y (l : Launch) (hst0 : l.stackTraces = false) {σ : Mem} {k : Int} (hk0 : inR k) (hS : IS σ) (hP : isK k)  : CtW l yL_ifAsked (Cond.codeWith yL_ifAsked cL_ifAsked 3 (some .int) [(0, 5, 6, 15)]) 8 123 (fun z => [.ref (z + 0), .int (kI k)]) σ (atr σ k) (σ) := by
  have h := k_L_ifAsked l hst0 (σ := σ) (k := k) hk0 hS
  rw [thv_y hP trivial] at h
  exact h
theorem k_L_ifAsked_1 (l : Launch) (hst0 : l.stackTraces = false) {σ : Mem} {k : Int} (hk0 : inR k) (hS : IS σ) (hP : ¬ (isK k)) : CtW l yL_ifAsked (Cond.codeWith yL_ifAsked cL_ifAsked 3 (some .int) [(0, 5, 6, 15)]) 8 123 (fun z => [.ref (z + 0), .int (kI k)]) σ (-2000001) σ := by
  have h := k_L_ifAsked l hst0 (σ := σ) (k := k) hk0 hS
  rw [thv_1 hP] at h
  exact h
set_option maxRecDepth 100000 in
set_option maxHeartbeats 4000000 in
theorem k_L_keyIn (l : Launch) (hst0 : l.stackTraces = false) {σ : Mem} {k : Int} (hk0 : inR k) (hS : IS σ) : CtW l yL_keyIn (Cond.codeWith yL_keyIn cL_keyIn 3 (some .int) [(0, 5, 6, 15)]) 8 123 (fun z => [.ref (z + 0), .int (kI k)]) σ (thv (isK k) (True) (dtk σ k)) (σ) := by
  intro D T z
  refine CtW_of (by decide) (Nat.le_of_ble_eq_true rfl) ?_
  intro p e s m below meth c ls hx hb hml hr hts hown hlk G hl hv htab
  have hown : s.vm.findClass RL = some m.cls := hown
  have hl : lv_has ls 3 [(0, .ref (z + 0)), (1, .int (kI k))] := hl
  refine lv_aload_n hx hb dL_keyIn_0 rfl (lv_at hl 0 rfl) ?_
  refine lv_iload_n hx hb dL_keyIn_1 rfl (lv_at hl 1 rfl) ?_
  refine r_tryI ⟨hx, hb, hml, hown, hts⟩ G hv (k_X5_keyIn l hst0 (σ := σ) (k := k) hk0 hS) (kVx_X5_keyIn hts qM_L_83 ⟨Nat.le_of_ble_eq_true rfl, Nat.le_of_ble_eq_true rfl⟩) (rc_X5 G) rfl rfl hl.1 rfl (Nat.le_of_ble_eq_true rfl) dL_keyIn_2 ⟨Nat.le_of_ble_eq_true rfl, Nat.le_of_ble_eq_true rfl⟩ (fun hno ce q9 H locs G hce hcv hcl => ?_) (fun hok H locs G => ?_)
  · skip
    refine vx_catch (E := IOB) (name := IOB) hown [] ⟨0, 5, 6, 15⟩ [] htab (fun z hz => absurd hz List.not_mem_nil) (by decide) (by decide) (hts _ qK_L_15) (hv.w _ (by decide)) hce hcv hcl ?_
    refine lv_astore_n (lv' := [(2, .ref q9), (0, .ref (z + 0)), (1, .int (kI k))]) hx hb dL_keyIn_6 rfl hl (by decide) rfl (fun ls hl => ?_)
    refine r_ldc (n := -2000001) hx hb hts hown qCon_L_17 (by decide) dL_keyIn_7 ?_
    exact r_wret hx hb hr hlk G ⟨Nat.le_of_ble_eq_true rfl, Nat.le_of_ble_eq_true rfl⟩ (thv_1 hno).symm rfl dL_keyIn_9
  exact r_wret hx hb hr hlk G ⟨Nat.le_of_ble_eq_true rfl, Nat.le_of_ble_eq_true rfl⟩ (thv_y hok trivial).symm rfl dL_keyIn_5
theorem k_L_keyIn_y (l : Launch) (hst0 : l.stackTraces = false) {σ : Mem} {k : Int} (hk0 : inR k) (hS : IS σ) (hP : isK k)  : CtW l yL_keyIn (Cond.codeWith yL_keyIn cL_keyIn 3 (some .int) [(0, 5, 6, 15)]) 8 123 (fun z => [.ref (z + 0), .int (kI k)]) σ (dtk σ k) (σ) := by
  have h := k_L_keyIn l hst0 (σ := σ) (k := k) hk0 hS
  rw [thv_y hP trivial] at h
  exact h
theorem k_L_keyIn_1 (l : Launch) (hst0 : l.stackTraces = false) {σ : Mem} {k : Int} (hk0 : inR k) (hS : IS σ) (hP : ¬ (isK k)) : CtW l yL_keyIn (Cond.codeWith yL_keyIn cL_keyIn 3 (some .int) [(0, 5, 6, 15)]) 8 123 (fun z => [.ref (z + 0), .int (kI k)]) σ (-2000001) σ := by
  have h := k_L_keyIn l hst0 (σ := σ) (k := k) hk0 hS
  rw [thv_1 hP] at h
  exact h
set_option maxRecDepth 100000 in
set_option maxHeartbeats 4000000 in
theorem k_L_coming (l : Launch) (hst0 : l.stackTraces = false) {σ : Mem} {k n : Int} (hk0 : inR k) (hn0 : inR n) (hS : IS σ) : CtW l yL_coming (Cond.codeWith yL_coming cL_coming 4 (some .int) [(0, 6, 7, 15), (0, 6, 11, 38)]) 8 126 (fun z => [.ref (z + 0), .int (kI k), .int (kI n)]) σ (thv (isK k) (1 ≤ n ∧ n ≤ 16) (kor σ k n)) (σ) := by
  intro D T z
  refine CtW_of (by decide) (Nat.le_of_ble_eq_true rfl) ?_
  intro p e s m below meth c ls hx hb hml hr hts hown hlk G hl hv htab
  have hown : s.vm.findClass RL = some m.cls := hown
  have hl : lv_has ls 4 [(0, .ref (z + 0)), (1, .int (kI k)), (2, .int (kI n))] := hl
  refine lv_aload_n hx hb dL_coming_0 rfl (lv_at hl 0 rfl) ?_
  refine lv_iload_n hx hb dL_coming_1 rfl (lv_at hl 1 rfl) ?_
  refine lv_iload_n hx hb dL_coming_2 rfl (lv_at hl 2 rfl) ?_
  refine r_tryI ⟨hx, hb, hml, hown, hts⟩ G hv (k_X5_coming l hst0 (σ := σ) (k := k) (n := n) hk0 hn0 hS) (kVx_X5_coming hts qM_L_86 ⟨Nat.le_of_ble_eq_true rfl, Nat.le_of_ble_eq_true rfl⟩) (rc_X5 G) rfl rfl hl.1 rfl (Nat.le_of_ble_eq_true rfl) dL_coming_3 ⟨Nat.le_of_ble_eq_true rfl, Nat.le_of_ble_eq_true rfl⟩ (fun hno ce q9 H locs G hce hcv hcl => ?_) (fun hok H locs G => ?_)
  · skip
    by_cases hp : isK k
    · rw [if_pos hp] at hcl
      refine vx_catch (E := IAE) (name := IAE) hown [⟨0, 6, 7, 15⟩] ⟨0, 6, 11, 38⟩ [] htab (fun z hz => by rw [List.mem_singleton.mp hz]; exact Or.inr ⟨by decide, IOB, hts _ qK_L_15, hv.2.2 (IAE, IOB) (by decide)⟩) (by decide) (by decide) (hts _ qK_L_38) (hv.w _ (by decide)) hce hcv hcl ?_
      refine lv_astore_n (lv' := [(3, .ref q9), (0, .ref (z + 0)), (1, .int (kI k)), (2, .int (kI n))]) hx hb dL_coming_11 rfl hl (by decide) rfl (fun ls hl => ?_)
      refine r_ldc (n := -2000002) hx hb hts hown qCon_L_27 (by decide) dL_coming_12 ?_
      exact r_wret hx hb hr hlk G ⟨Nat.le_of_ble_eq_true rfl, Nat.le_of_ble_eq_true rfl⟩ (thv_2 hp (fun z => hno ⟨hp, z⟩)).symm rfl dL_coming_14
    · rw [if_neg hp] at hcl
      refine vx_catch (E := IOB) (name := IOB) hown [] ⟨0, 6, 7, 15⟩ [⟨0, 6, 11, 38⟩] htab (fun z hz => absurd hz List.not_mem_nil) (by decide) (by decide) (hts _ qK_L_15) (hv.w _ (by decide)) hce hcv hcl ?_
      refine lv_astore_n (lv' := [(3, .ref q9), (0, .ref (z + 0)), (1, .int (kI k)), (2, .int (kI n))]) hx hb dL_coming_7 rfl hl (by decide) rfl (fun ls hl => ?_)
      refine r_ldc (n := -2000001) hx hb hts hown qCon_L_17 (by decide) dL_coming_8 ?_
      exact r_wret hx hb hr hlk G ⟨Nat.le_of_ble_eq_true rfl, Nat.le_of_ble_eq_true rfl⟩ (thv_1 hp).symm rfl dL_coming_10
  exact r_wret hx hb hr hlk G ⟨Nat.le_of_ble_eq_true rfl, Nat.le_of_ble_eq_true rfl⟩ (thv_y hok.1 hok.2).symm rfl dL_coming_6
theorem k_L_coming_y (l : Launch) (hst0 : l.stackTraces = false) {σ : Mem} {k n : Int} (hk0 : inR k) (hn0 : inR n) (hS : IS σ) (hP : isK k) (hQ : 1 ≤ n ∧ n ≤ 16) : CtW l yL_coming (Cond.codeWith yL_coming cL_coming 4 (some .int) [(0, 6, 7, 15), (0, 6, 11, 38)]) 8 126 (fun z => [.ref (z + 0), .int (kI k), .int (kI n)]) σ (kor σ k n) (σ) := by
  have h := k_L_coming l hst0 (σ := σ) (k := k) (n := n) hk0 hn0 hS
  rw [thv_y hP hQ] at h
  exact h
theorem k_L_coming_1 (l : Launch) (hst0 : l.stackTraces = false) {σ : Mem} {k n : Int} (hk0 : inR k) (hn0 : inR n) (hS : IS σ) (hP : ¬ (isK k)) : CtW l yL_coming (Cond.codeWith yL_coming cL_coming 4 (some .int) [(0, 6, 7, 15), (0, 6, 11, 38)]) 8 126 (fun z => [.ref (z + 0), .int (kI k), .int (kI n)]) σ (-2000001) σ := by
  have h := k_L_coming l hst0 (σ := σ) (k := k) (n := n) hk0 hn0 hS
  rw [thv_1 hP] at h
  exact h
theorem k_L_coming_2 (l : Launch) (hst0 : l.stackTraces = false) {σ : Mem} {k n : Int} (hk0 : inR k) (hn0 : inR n) (hS : IS σ) (hP : isK k) (hQ : ¬ (1 ≤ n ∧ n ≤ 16)) : CtW l yL_coming (Cond.codeWith yL_coming cL_coming 4 (some .int) [(0, 6, 7, 15), (0, 6, 11, 38)]) 8 126 (fun z => [.ref (z + 0), .int (kI k), .int (kI n)]) σ (-2000002) σ := by
  have h := k_L_coming l hst0 (σ := σ) (k := k) (n := n) hk0 hn0 hS
  rw [thv_2 hP hQ] at h
  exact h
set_option maxRecDepth 100000 in
set_option maxHeartbeats 4000000 in
theorem k_L_longest (l : Launch) (hst0 : l.stackTraces = false) {σ : Mem} {k : Int} (hk0 : inR k) (hS : IS σ) : CtW l yL_longest (Cond.codeWith yL_longest cL_longest 3 (some .int) [(0, 5, 6, 15)]) 8 123 (fun z => [.ref (z + 0), .int (kI k)]) σ (thv (isK k) (True) (lgs σ k)) (σ) := by
  intro D T z
  refine CtW_of (by decide) (Nat.le_of_ble_eq_true rfl) ?_
  intro p e s m below meth c ls hx hb hml hr hts hown hlk G hl hv htab
  have hown : s.vm.findClass RL = some m.cls := hown
  have hl : lv_has ls 3 [(0, .ref (z + 0)), (1, .int (kI k))] := hl
  refine lv_aload_n hx hb dL_longest_0 rfl (lv_at hl 0 rfl) ?_
  refine lv_iload_n hx hb dL_longest_1 rfl (lv_at hl 1 rfl) ?_
  refine r_tryI ⟨hx, hb, hml, hown, hts⟩ G hv (k_X5_longest l hst0 (σ := σ) (k := k) hk0 hS) (kVx_X5_longest hts qM_L_89 ⟨Nat.le_of_ble_eq_true rfl, Nat.le_of_ble_eq_true rfl⟩) (rc_X5 G) rfl rfl hl.1 rfl (Nat.le_of_ble_eq_true rfl) dL_longest_2 ⟨Nat.le_of_ble_eq_true rfl, Nat.le_of_ble_eq_true rfl⟩ (fun hno ce q9 H locs G hce hcv hcl => ?_) (fun hok H locs G => ?_)
  · skip
    refine vx_catch (E := IOB) (name := IOB) hown [] ⟨0, 5, 6, 15⟩ [] htab (fun z hz => absurd hz List.not_mem_nil) (by decide) (by decide) (hts _ qK_L_15) (hv.w _ (by decide)) hce hcv hcl ?_
    refine lv_astore_n (lv' := [(2, .ref q9), (0, .ref (z + 0)), (1, .int (kI k))]) hx hb dL_longest_6 rfl hl (by decide) rfl (fun ls hl => ?_)
    refine r_ldc (n := -2000001) hx hb hts hown qCon_L_17 (by decide) dL_longest_7 ?_
    exact r_wret hx hb hr hlk G ⟨Nat.le_of_ble_eq_true rfl, Nat.le_of_ble_eq_true rfl⟩ (thv_1 hno).symm rfl dL_longest_9
  exact r_wret hx hb hr hlk G ⟨Nat.le_of_ble_eq_true rfl, Nat.le_of_ble_eq_true rfl⟩ (thv_y hok trivial).symm rfl dL_longest_5
theorem k_L_longest_y (l : Launch) (hst0 : l.stackTraces = false) {σ : Mem} {k : Int} (hk0 : inR k) (hS : IS σ) (hP : isK k)  : CtW l yL_longest (Cond.codeWith yL_longest cL_longest 3 (some .int) [(0, 5, 6, 15)]) 8 123 (fun z => [.ref (z + 0), .int (kI k)]) σ (lgs σ k) (σ) := by
  have h := k_L_longest l hst0 (σ := σ) (k := k) hk0 hS
  rw [thv_y hP trivial] at h
  exact h
theorem k_L_longest_1 (l : Launch) (hst0 : l.stackTraces = false) {σ : Mem} {k : Int} (hk0 : inR k) (hS : IS σ) (hP : ¬ (isK k)) : CtW l yL_longest (Cond.codeWith yL_longest cL_longest 3 (some .int) [(0, 5, 6, 15)]) 8 123 (fun z => [.ref (z + 0), .int (kI k)]) σ (-2000001) σ := by
  have h := k_L_longest l hst0 (σ := σ) (k := k) hk0 hS
  rw [thv_1 hP] at h
  exact h
set_option maxRecDepth 100000 in
set_option maxHeartbeats 4000000 in
theorem k_L_ifFollowed (l : Launch) (hst0 : l.stackTraces = false) {σ : Mem} {k y q : Int} (hk0 : inR k) (hy0 : inR y) (hq0 : inR q) (hS : IS σ) : CtW l yL_ifFollowed (Cond.codeWith yL_ifFollowed cL_ifFollowed 5 (some .int) [(0, 7, 8, 15), (0, 7, 13, 38)]) 8 126 (fun z => [.ref (z + 0), .int (kI k), .int (kI y), .int (kI q)]) σ (thv (isY k y) (1 ≤ q) (jud σ k y q)) (σ) := by
  intro D T z
  refine CtW_of (by decide) (Nat.le_of_ble_eq_true rfl) ?_
  intro p e s m below meth c ls hx hb hml hr hts hown hlk G hl hv htab
  have hown : s.vm.findClass RL = some m.cls := hown
  have hl : lv_has ls 5 [(0, .ref (z + 0)), (1, .int (kI k)), (2, .int (kI y)), (3, .int (kI q))] := hl
  refine lv_aload_n hx hb dL_ifFollowed_0 rfl (lv_at hl 0 rfl) ?_
  refine lv_iload_n hx hb dL_ifFollowed_1 rfl (lv_at hl 1 rfl) ?_
  refine lv_iload_n hx hb dL_ifFollowed_2 rfl (lv_at hl 2 rfl) ?_
  refine lv_iload_n hx hb dL_ifFollowed_3 rfl (lv_at hl 3 rfl) ?_
  refine r_tryI ⟨hx, hb, hml, hown, hts⟩ G hv (k_X5_ifFollowed l hst0 (σ := σ) (k := k) (y := y) (q := q) hk0 hy0 hq0 hS) (kVx_X5_ifFollowed hts qM_L_92 ⟨Nat.le_of_ble_eq_true rfl, Nat.le_of_ble_eq_true rfl⟩) (rc_X5 G) rfl rfl hl.1 rfl (Nat.le_of_ble_eq_true rfl) dL_ifFollowed_4 ⟨Nat.le_of_ble_eq_true rfl, Nat.le_of_ble_eq_true rfl⟩ (fun hno ce q9 H locs G hce hcv hcl => ?_) (fun hok H locs G => ?_)
  · skip
    by_cases hp : isY k y
    · rw [if_pos hp] at hcl
      refine vx_catch (E := IAE) (name := IAE) hown [⟨0, 7, 8, 15⟩] ⟨0, 7, 13, 38⟩ [] htab (fun z hz => by rw [List.mem_singleton.mp hz]; exact Or.inr ⟨by decide, IOB, hts _ qK_L_15, hv.2.2 (IAE, IOB) (by decide)⟩) (by decide) (by decide) (hts _ qK_L_38) (hv.w _ (by decide)) hce hcv hcl ?_
      refine lv_astore (lv' := [(4, .ref q9), (0, .ref (z + 0)), (1, .int (kI k)), (2, .int (kI y)), (3, .int (kI q))]) hx hb dL_ifFollowed_13 hl (by decide) rfl (fun ls hl => ?_)
      refine r_ldc (n := -2000002) hx hb hts hown qCon_L_27 (by decide) dL_ifFollowed_15 ?_
      exact r_wret hx hb hr hlk G ⟨Nat.le_of_ble_eq_true rfl, Nat.le_of_ble_eq_true rfl⟩ (thv_2 hp (fun z => hno ⟨hp, z⟩)).symm rfl dL_ifFollowed_17
    · rw [if_neg hp] at hcl
      refine vx_catch (E := IOB) (name := IOB) hown [] ⟨0, 7, 8, 15⟩ [⟨0, 7, 13, 38⟩] htab (fun z hz => absurd hz List.not_mem_nil) (by decide) (by decide) (hts _ qK_L_15) (hv.w _ (by decide)) hce hcv hcl ?_
      refine lv_astore (lv' := [(4, .ref q9), (0, .ref (z + 0)), (1, .int (kI k)), (2, .int (kI y)), (3, .int (kI q))]) hx hb dL_ifFollowed_8 hl (by decide) rfl (fun ls hl => ?_)
      refine r_ldc (n := -2000001) hx hb hts hown qCon_L_17 (by decide) dL_ifFollowed_10 ?_
      exact r_wret hx hb hr hlk G ⟨Nat.le_of_ble_eq_true rfl, Nat.le_of_ble_eq_true rfl⟩ (thv_1 hp).symm rfl dL_ifFollowed_12
  exact r_wret hx hb hr hlk G ⟨Nat.le_of_ble_eq_true rfl, Nat.le_of_ble_eq_true rfl⟩ (thv_y hok.1 hok.2).symm rfl dL_ifFollowed_7
theorem k_L_ifFollowed_y (l : Launch) (hst0 : l.stackTraces = false) {σ : Mem} {k y q : Int} (hk0 : inR k) (hy0 : inR y) (hq0 : inR q) (hS : IS σ) (hP : isY k y) (hQ : 1 ≤ q) : CtW l yL_ifFollowed (Cond.codeWith yL_ifFollowed cL_ifFollowed 5 (some .int) [(0, 7, 8, 15), (0, 7, 13, 38)]) 8 126 (fun z => [.ref (z + 0), .int (kI k), .int (kI y), .int (kI q)]) σ (jud σ k y q) (σ) := by
  have h := k_L_ifFollowed l hst0 (σ := σ) (k := k) (y := y) (q := q) hk0 hy0 hq0 hS
  rw [thv_y hP hQ] at h
  exact h
theorem k_L_ifFollowed_1 (l : Launch) (hst0 : l.stackTraces = false) {σ : Mem} {k y q : Int} (hk0 : inR k) (hy0 : inR y) (hq0 : inR q) (hS : IS σ) (hP : ¬ (isY k y)) : CtW l yL_ifFollowed (Cond.codeWith yL_ifFollowed cL_ifFollowed 5 (some .int) [(0, 7, 8, 15), (0, 7, 13, 38)]) 8 126 (fun z => [.ref (z + 0), .int (kI k), .int (kI y), .int (kI q)]) σ (-2000001) σ := by
  have h := k_L_ifFollowed l hst0 (σ := σ) (k := k) (y := y) (q := q) hk0 hy0 hq0 hS
  rw [thv_1 hP] at h
  exact h
theorem k_L_ifFollowed_2 (l : Launch) (hst0 : l.stackTraces = false) {σ : Mem} {k y q : Int} (hk0 : inR k) (hy0 : inR y) (hq0 : inR q) (hS : IS σ) (hP : isY k y) (hQ : ¬ (1 ≤ q)) : CtW l yL_ifFollowed (Cond.codeWith yL_ifFollowed cL_ifFollowed 5 (some .int) [(0, 7, 8, 15), (0, 7, 13, 38)]) 8 126 (fun z => [.ref (z + 0), .int (kI k), .int (kI y), .int (kI q)]) σ (-2000002) σ := by
  have h := k_L_ifFollowed l hst0 (σ := σ) (k := k) (y := y) (q := q) hk0 hy0 hq0 hS
  rw [thv_2 hP hQ] at h
  exact h
theorem kVp_X5_scarcest {R : Room} {s : State} {args : Array Value} {own : String} {idx fr lo : Nat} (hts : ∀ w ∈ Gw, w.before args s = true) (h1 : Cond.methodLink own idx yX5_scarcest ∈ Gw) (hR : fr + 1 ≤ R.frames ∧ 8 + (1 + 11) + lo ≤ R.locals) : CallW R s args own RX5 idx yX5_scarcest cX5_scarcest 1 (some .int) (Cond.code yX5_scarcest cX5_scarcest 1 (some .int) :: Gw) (rmN fr lo) 0 0 0 := cV hts h1 qI_X5_scarcest qV_X5_scarcest qN_X5 qC_X5_scarcest (by decide +kernel) hR
theorem kVp_X5_ripeShare {R : Room} {s : State} {args : Array Value} {own : String} {idx fr lo : Nat} (hts : ∀ w ∈ Gw, w.before args s = true) (h1 : Cond.methodLink own idx yX5_ripeShare ∈ Gw) (hR : fr + 1 ≤ R.frames ∧ 8 + (1 + 11) + lo ≤ R.locals) : CallW R s args own RX5 idx yX5_ripeShare cX5_ripeShare 1 (some .double) (Cond.code yX5_ripeShare cX5_ripeShare 1 (some .double) :: Gw) (rmN fr lo) 0 0 0 := cV hts h1 qI_X5_ripeShare qV_X5_ripeShare qN_X5 qC_X5_ripeShare (by decide +kernel) hR
