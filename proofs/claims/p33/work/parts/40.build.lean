/-! THE CELLS WHILE THEY ARE MADE: any shapes, in the order in which they are made -/
theorem W.top {p : Program} {l : Launch} {e : Env} {R : Room} {s : State} {m : MethodId} {args : Array Value} {below : List Frame} {meth : Method} {c : Code} {H : Heap} {locs : List Loc} {cells slots : Nat} {Q : State → Prop} {g : JFrame} (h : H.size ≤ s.heap.size + cells → W p l e R s m args below meth c H locs cells slots Q g) : W p l e R s m args below meth c H locs cells slots Q g :=
  fun T hT X => h (by have h1 := X.same.2.2.1; rw [← hT]; exact h1) T hT X
def gW (z : Nat) (E : Nat → va_E) (n : Nat) : va_W := (List.range n).map (fun c => (z + c, E c))
def upE (E : Nat → va_E) (c : Nat) (e : va_E) : Nat → va_E := fun c' => if c' = c then e else E c'
def ext (E : Nat → va_E) (k : Nat) (F : Nat → va_E) : Nat → va_E := fun c => if c < k then E c else F (c - k)
theorem upE_s {E : Nat → va_E} {c : Nat} {e : va_E} : upE E c e c = e := if_pos rfl
theorem upE_o {E : Nat → va_E} {c c' : Nat} {e : va_E} (h : c' ≠ c) : upE E c e c' = E c' := if_neg h
theorem ext_lt {E F : Nat → va_E} {k c : Nat} (h : c < k) : ext E k F c = E c := if_pos h
theorem ext_ge {E F : Nat → va_E} {k i : Nat} : ext E k F (k + i) = F i := by unfold ext; rw [if_neg (by omega), Nat.add_sub_cancel_left]
theorem ext_at {E F : Nat → va_E} {k c i : Nat} (h : c = k + i) : ext E k F c = F i := by rw [h]; exact ext_ge
theorem gW_get {z n c : Nat} {E : Nat → va_E} (h : c < n) : (gW z E n)[c]? = some (z + c, E c) := by simp [gW, h]
theorem gW_at {z n c : Nat} {E : Nat → va_E} {q : Nat × va_E} (h : (gW z E n)[c]? = some q) : c < n ∧ q = (z + c, E c) := by
  have hl := (List.getElem?_eq_some_iff.mp h).1
  have hc : c < n := by simpa [gW] using hl
  rw [gW_get hc] at h
  exact ⟨hc, (Option.some.inj h).symm⟩
theorem gW_set {z n c : Nat} {E : Nat → va_E} {e : va_E} : (gW z E n).set c (z + c, e) = gW z (upE E c e) n := by
  apply List.ext_getElem?
  intro j
  by_cases hj : j < n
  · by_cases hc : j = c
    · subst hc
      rw [List.getElem?_set_self (by simpa [gW] using hj), gW_get hj, upE_s]
    · rw [List.getElem?_set_ne (Ne.symm hc), gW_get hj, gW_get hj, upE_o hc]
  · have h1 : (gW z (upE E c e) n)[j]? = none := by simp [gW]; omega
    have h2 : ((gW z E n).set c (z + c, e))[j]? = none := by simp [gW]; omega
    rw [h1, h2]
theorem gW_congr {z n : Nat} {E F : Nat → va_E} (h : ∀ c, c < n → E c = F c) : gW z E n = gW z F n := by
  unfold gW
  apply List.map_congr_left
  intro c hc
  rw [h c (List.mem_range.mp hc)]
theorem gW_push {z n : Nat} {E : Nat → va_E} {e : va_E} : gW z E n ++ [(z + n, e)] = gW z (upE E n e) (n + 1) := by
  have h1 : gW z E n = gW z (upE E n e) n := gW_congr (fun c hc => (upE_o (by omega)).symm)
  rw [h1]
  simp [gW, List.range_succ, upE_s]
theorem gW_D {T : Nat → ClassId} {z n : Nat} {E : Nat → va_E} (hz : hol T < z) : va_D (Own T z) (gW z E n) := by
  refine ⟨fun i j p q hi hj hpq => ?_, fun k q hk => ?_⟩
  · obtain ⟨-, rfl⟩ := gW_at hi
    obtain ⟨-, rfl⟩ := gW_at hj
    have h : z + i = z + j := hpq
    omega
  · obtain ⟨-, rfl⟩ := gW_at hk
    exact ⟨Nat.le_add_right _ _, by omega⟩
theorem gW_W {T : Nat → ClassId} {z n : Nat} {σ : Mem} : gW z (fun c => shp T z c (σ c)) n = World T z σ n := rfl
/-- the next cell's place -/
theorem gq {T : Nat → ClassId} {z n q : Nat} {E : Nat → va_E} {e : va_E} {H : Heap} {D : va_G} (hD : va_D (Own T z) (gW z E n ++ [(q, e)])) (hP : va_P D vwCl (gW z E n ++ [(q, e)]) H) (hH : H.size ≤ z + n + 1) : q = z + n := by
  have hlen : (gW z E n).length = n := by simp [gW]
  have hq : (gW z E n ++ [(q, e)])[n]? = some (q, e) := by rw [List.getElem?_append_right (by omega), hlen]; simp
  have hl : q < H.size := (hP n _ hq).lt
  have h0 : z ≤ q := (hD.2 n _ hq).1
  by_cases h : q = z + n
  · exact h
  · exfalso
    have hi : (gW z E n ++ [(q, e)])[q - z]? = some (z + (q - z), E (q - z)) := by rw [List.getElem?_append_left (by omega)]; exact gW_get (by omega)
    have := hD.1 (q - z) n _ _ hi hq (show z + (q - z) = q by omega)
    omega
theorem gH {D : va_G} {z n : Nat} {E : Nat → va_E} {H : Heap} (hP : va_P D vwCl (gW z E n) H) (hz : z ≤ H.size) : z + n ≤ H.size := by
  cases n with
  | zero => exact hz
  | succ n => have := (hP n _ (gW_get (Nat.lt_succ_self n))).lt; have h : z + n < H.size := this; omega
def Gd (D : va_G) (T : Nat → ClassId) (z n : Nat) (E : Nat → va_E) (s : State) (H : Heap) (locs : List Loc) : Prop := va_P D vwCl (gW z E n) H ∧ va_K D vwCl (tysOf T) s ∧ va_S (Own T z) s.heap H locs ∧ Ev T z s s.heap ∧ z ≤ s.heap.size ∧ hol T < z
def GP (D : va_G) (T : Nat → ClassId) (z n : Nat) (E : Nat → va_E) (U : State) : Prop := va_P D vwCl (gW z E n) U.heap ∧ va_K D vwCl (tysOf T) U ∧ Ev T z U U.heap ∧ z ≤ U.heap.size ∧ hol T < z
abbrev NF : Cond := .fieldLinkNest RX1 29 "CompostKeys" "SETTING_AT_FIRST" "[I" "CompostKeys"
def XG (U : State) : Prop := va_AO RX1 U ∧ va_Nw NF U
theorem XG.warm {s U : State} (hW : s.WarmedH U.vm) (h : XG s) : XG U := ⟨va_AO.moved hW.alike h.1, va_Nw.warmF hW h.2⟩
def GS (D : va_G) (T : Nat → ClassId) (z n : Nat) (E : Nat → va_E) (U : State) : Prop := GP D T z n E U ∧ U.heap.size = z + n ∧ XG U
theorem Gd.gp {D : va_G} {T : Nat → ClassId} {z n : Nat} {E : Nat → va_E} {s : State} {H : Heap} {locs : List Loc} (h : Gd D T z n E s H locs) {U : State} (hU : U.heap = H) (hvm : s.vm.Alike U.vm) : GP D T z n E U := by
  obtain ⟨h1, h2, h3, h4, h5⟩ := h
  exact ⟨by rw [hU]; exact h1, va_K.moved hvm h2, by rw [hU]; exact h4.use (fun a ha hn => h3.2.1 a ha hn) hvm, by rw [hU]; exact Nat.le_trans h5.1 h3.1, h5.2⟩
theorem Gd.of {D : va_G} {T : Nat → ClassId} {z n : Nat} {E : Nat → va_E} {s : State} (h : GP D T z n E s) : Gd D T z n E s s.heap [] := ⟨h.1, h.2.1, va_S.rf, h.2.2.1, h.2.2.2⟩
theorem Gd.cong {D : va_G} {T : Nat → ClassId} {z n : Nat} {E F : Nat → va_E} {s : State} {H : Heap} {locs : List Loc} (h : Gd D T z n E s H locs) (e : ∀ c, c < n → E c = F c) : Gd D T z n F s H locs := ⟨by rw [← gW_congr e]; exact h.1, h.2⟩
theorem Gd.hA {D : va_G} {T : Nat → ClassId} {z n : Nat} {E : Nat → va_E} {s : State} {H : Heap} {locs : List Loc} (h : Gd D T z n E s H locs) : ∀ q, s.heap.size ≤ q → Own T z q := fun _ hq => ⟨Nat.le_trans h.2.2.2.2.1 hq, by have h1 := h.2.2.2.2; omega⟩
theorem GS_blind {As : List Value} {D : va_G} {T : Nat → ClassId} {z n : Nat} {E : Nat → va_E} : FrameBlind (va_Pc As (GS D T z n E)) := fun a U g mk h => by
  obtain ⟨h1, ⟨g1, g2, g3, g4⟩, h3, h4, h5⟩ := h
  exact ⟨h1, ⟨g1, va_K.moved (Vm.Alike.refl U.vm) g2, g3.use (fun _ _ _ => rfl) (Vm.Alike.refl U.vm), g4⟩, h3, va_AO.moved (Vm.Alike.refl U.vm) h4, va_Nw.same rfl rfl h5⟩
/-- a maker's contract -/
def CtG (l : Launch) (y : MethodName) (cw : Cond) (fr lo mc ms : Nat) (As : List Value) (D : va_G) (T : Nat → ClassId) (z n n' : Nat) (E E' : Nat → va_E) : Prop := Met l y (cw :: Gw) { frames := fr, cells := mc, slots := ms, locals := lo } (va_Pc As (GS D T z n E)) (va_Qv (fun (_ : Unit) => True) (fun (_ : Unit) U => GP D T z n' E' U) (Own T z)) mc ms (Own T z)
theorem CtG_of {l : Launch} {y : MethodName} {cc : ByteArray} {maxL fr lo mc ms : Nat} {As : List Value} {n n' : Nat} {D : va_G} {T : Nat → ClassId} {z : Nat} {E E' : Nat → va_E} (hy : plainName y.cls = true) (hn : y.name = "<init>") (hA : (lg_sl As).length ≤ maxL)
    (body : ∀ (p : Program) (e : Env) (s : State) (m : MethodId) (below : List Frame) (meth : Method) (c : Code) (ls : Array Slot), p.tables.exec = Jvm.exec → c.code = cc → c.maxLocals = maxL → meth.sig.returnType = none → (∀ w ∈ Gw, w.before As.toArray s = true) → s.vm.findClass y.cls = some m.cls → meth.locks = false → meth.name = "<init>" → Gd D T z n E s s.heap [] → s.heap.size = z + n → XG s → lv_has ls maxL (lv_args 0 As) →
      W p l e { frames := fr, cells := mc, slots := ms, locals := lo } s m As.toArray below meth c s.heap [] 0 0 (MQ below (va_Qv (fun (_ : Unit) => True) (fun (_ : Unit) U => GP D T z n' E' U) (Own T z)) As.toArray s mc ms (Own T z)) (F0 m 0 ls [])) :
    CtG l y (Cond.code y cc maxL none) fr lo mc ms As D T z n n' E E' := by
  refine Met.ofW (cc := cc) (maxL := maxL) (ret := none) hy rfl ?_
  intro p e s m args below meth c s₁ B hml hv
  obtain ⟨rfl, hst, hsz, hxg⟩ := hv
  have hts := atoms_spec (ws := Cond.code y cc maxL none :: Gw) B.pre
  have hl := lv_entry As (n := maxL) hA
  have hin : meth.name = "<init>" := by rw [(name_of_methodNamed B.named B.method).1]; exact hn
  rw [lg_entry_eq]
  exact body p e s m below meth c _ B.exec B.bytes hml B.returns (fun w h => hts w (List.mem_cons_of_mem _ h)) (findClass_of_methodNamed B.named) B.notSynchronized hin (Gd.of hst) hsz hxg hl
section GROWS
variable {p : Program} {l : Launch} {e : Env} {R : Room} {s : State} {m : MethodId} {args : Array Value} {below : List Frame} {meth : Method} {c : Code} {H : Heap} {locs : List Loc} {cells slots : Nat} {Q : State → Prop}
variable {cc : ByteArray} {pc : Nat} {ls : Array Slot} {rest : List Value} {D : va_G} {T : Nat → ClassId} {z n : Nat} {E : Nat → va_E} {own : String} {idx : Nat}
theorem g_obj (hx : p.tables.exec = Jvm.exec) (hb : c.code = cc) (hts : ∀ w ∈ Gw, w.before args s = true) (hown : s.vm.findClass own = some m.cls) (hml : c.maxLocals = ls.size) (hl : Cond.methodLink own idx (⟨"java/lang/Object", "<init>", "()V"⟩ : MethodName) ∈ Gw) {a : Nat} (hW : (rest.map fun v => v.category).sum = 0) (hR : 1 ≤ R.frames ∧ 12 ≤ R.locals) (hdg : decode cc pc = .ok (.invokespecial idx, 3)) (kk : W p l e R s m args below meth c H locs cells slots Q (F0 m (pc + 3) ls rest)) : W p l e R s m args below meth c H locs cells slots Q (F0 m pc ls (.ref a :: rest)) :=
  W.objInit hx hb hown (hts _ hl) (hts _ qI_Object_init_V) (hts _ qC_Object_init_V) rfl hml.symm rfl hdg hR.1 (by show 2 * 0 + _ + 12 ≤ _; rw [hW]; exact hR.2) (W.eq (g2 := F0 m (pc + 3) ls rest) rfl kk)
theorem g_new (hx : p.tables.exec = Jvm.exec) (hb : c.code = cc) (hts : ∀ w ∈ Gw, w.before args s = true) (hown : s.vm.findClass own = some m.cls) (G : Gd D T z n E s H locs) (hn : z + n = s.heap.size + cells) {C : String} {Tx : u_T} {N ci : Nat} (hu : ∀ w ∈ u_ws C Tx N, w ∈ Gw) (ty : Nat → FieldType) (hty : ∀ k, k < N → parseFieldDescriptor (Tx k).2.2.1 = some (ty k)) (hcl : Cond.classLink own idx C ∈ Gw) (hin : Cond.instantiable C N ∈ Gw) (hini : Cond.initialized C ∈ Gw) (hc : vwCl[ci]? = some (C, Tx, N)) {fs : List Value} (hfs : ∀ j, j < N → defaultValue (ty j) = vp_V fs j) (hR : cells + 1 ≤ R.cells ∧ slots + N ≤ R.slots) (hdg : decode cc pc = .ok (.new idx, 3))
    (kk : ∀ H1 : Heap, Gd D T z (n + 1) (upE E n (.inr (ci, fs))) s H1 locs → W p l e R s m args below meth c H1 locs (cells + 1) (slots + N) Q (F0 m (pc + 3) ls (.ref (z + n) :: rest))) : W p l e R s m args below meth c H locs cells slots Q (F0 m pc ls rest) := by
  refine va_new hx hb hts hu ty hty hown (hts _ hcl) (hts _ hin) (hts _ hini) G.2.1 G.1 (gW_D G.2.2.2.2.2) G.2.2.1 G.hA hc hfs hR.1 hR.2 hdg (fun q H1 hP hD hS => W.top fun hle => ?_)
  have e : q = z + n := gq hD hP (by omega)
  subst e
  exact kk H1 ⟨by rw [← gW_push]; exact hP, G.2.1, hS, G.2.2.2⟩
theorem g_newa (hx : p.tables.exec = Jvm.exec) (hb : c.code = cc) (hts : ∀ w ∈ Gw, w.before args s = true) (G : Gd D T z n E s H locs) (hn : z + n = s.heap.size + cells) {atype : ArrayType} {i : Nat} (hi : (tysOf T)[i]? = some (T i, newarray.typeOf atype)) (hra : ∀ cA, va_RA s cA (newarray.typeOf atype) → s.vm.findClass ("[" ++ (newarray.typeOf atype).toString) = some cA) (harr : Cond.arrayClass (newarray.typeOf atype) ∈ Gw) {N' : Nat} {v : Int} {a0 : vp_A} (ha : ∀ cA : ClassId, vp_cell cA a0 = arrV cA N' (fun _ => defaultValue (newarray.typeOf atype))) (hv : v = (N' : Int) ∧ N' < 100000) (hbytes : N' * componentBytes (newarray.typeOf atype) ≤ 536870912) (hR : cells + 1 ≤ R.cells ∧ slots + N' ≤ R.slots) (hdg : decode cc pc = .ok (.newarray atype, 2))
    (kk : ∀ H1 : Heap, Gd D T z (n + 1) (upE E n (.inl (T i, a0))) s H1 locs → W p l e R s m args below meth c H1 locs (cells + 1) (slots + N') Q (F0 m (pc + 2) ls (.ref (z + n) :: rest))) : W p l e R s m args below meth c H locs cells slots Q (F0 m pc ls (.int (kI v) :: rest)) := by
  have h0 : ¬ kI v < 0 := fun h => absurd ((kI_lt (b := 0) ⟨by omega, by omega⟩ ⟨by decide, by decide⟩).mp h) (by omega)
  have h1 : (kI v).toNatClampNeg = N' := by have := kI_cl (i := v) (by omega) (by omega); omega
  refine va_newa (atype := atype) hx hb (hts _ harr) rfl G.2.1 G.1 (gW_D G.2.2.2.2.2) G.2.2.1 G.hA ha h0 h1 hbytes hR.1 hR.2 hdg (fun q cA H1 hK hP hD hS => W.top fun hle => ?_)
  have e : q = z + n := gq hD hP (by omega)
  subst e
  have ec : cA = T i := by
    have g1 := hra _ (hK.2 6 (cA, newarray.typeOf atype) rfl).2
    have g2 := hra _ (G.2.1.2 i _ hi).2
    exact Option.some.inj (g1.symm.trans g2)
  subst ec
  exact kk H1 ⟨by rw [← gW_push]; exact hP, G.2.1, hS, G.2.2.2⟩
theorem g_newq (hx : p.tables.exec = Jvm.exec) (hb : c.code = cc) (hts : ∀ w ∈ Gw, w.before args s = true) (hown : s.vm.findClass own = some m.cls) (hxg : XG s) (G : Gd D T z n E s H locs) (hn : z + n = s.heap.size + cells) (hcl : Cond.classLink own idx RX1 ∈ Gw) {N' : Nat} {v : Int} (hv : v = (N' : Int) ∧ N' < 1000) (hR : cells + 1 ≤ R.cells ∧ slots + N' ≤ R.slots) (hdg : decode cc pc = .ok (.anewarray idx, 3))
    (kk : ∀ H1 : Heap, Gd D T z (n + 1) (upE E n (.inl (T 5, N', .inr (.inr (.inr (.inr (fun _ => none))))))) s H1 locs → W p l e R s m args below meth c H1 locs (cells + 1) (slots + N') Q (F0 m (pc + 3) ls (.ref (z + n) :: rest))) : W p l e R s m args below meth c H locs cells slots Q (F0 m pc ls (.int (kI v) :: rest)) := by
  have h0 : ¬ kI v < 0 := fun h => absurd ((kI_lt (b := 0) ⟨by omega, by omega⟩ ⟨by decide, by decide⟩).mp h) (by omega)
  have h1 : (kI v).toNatClampNeg = N' := by have := kI_cl (i := v) (by omega) (by omega); omega
  refine va_newq hx hb hown (hts _ hcl) hxg.1 G.2.1 G.1 (gW_D G.2.2.2.2.2) G.2.2.1 G.hA h0 h1 (by omega) hR.1 hR.2 hdg (fun q cA H1 hK hP hD hS => W.top fun hle => ?_)
  have e : q = z + n := gq hD hP (by omega)
  subst e
  have ec : cA = T 5 := by
    obtain ⟨_, _, _, _, _, g1⟩ := (hK.2 6 (cA, .object RX1) rfl).2
    obtain ⟨_, _, _, _, _, g2⟩ := (G.2.1.2 5 (T 5, .object RX1) rfl).2
    exact Option.some.inj (g1.symm.trans g2)
  subst ec
  exact kk H1 ⟨by rw [← gW_push]; exact hP, G.2.1, hS, G.2.2.2⟩
theorem g_putF (hx : p.tables.exec = Jvm.exec) (hb : c.code = cc) (hts : ∀ w ∈ Gw, w.before args s = true) {Tx : u_T} {N ci : Nat} (hown : s.vm.findClass own = some m.cls) (hin2 : meth.name = "<init>") (G : Gd D T z n E s H locs) (hu : ∀ w ∈ u_ws own Tx N, w ∈ Gw) (ty0 : Nat → FieldType) (hty : ∀ k, k < N → parseFieldDescriptor (Tx k).2.2.1 = some (ty0 k)) (hnm : ∀ a, a < N → ∀ b, b < N → a ≠ b → (Tx a).2.1 ≠ (Tx b).2.1) (hc : vwCl[ci]? = some (own, Tx, N)) (k j : Nat) (hk : k < n) {fs : List Value} (he : E k = .inr (ci, fs)) (hj : j < N) (hlink : Cond.fieldLink own idx own (Tx j).2.1 (Tx j).2.2.1 ∈ Gw) (hdc : (Tx j).1 = own) (hfin : (Tx j).2.2.2 = true) {ty : FieldType} {q : Nat} (hd : parseFieldDescriptor (Tx j).2.2.1 = some ty) (hnr : narrow ty (.ref q) = .ref q) (hfit : fits ty (.ref q) = true) (hlen : j < fs.length) (hdg : decode cc pc = .ok (.putfield idx, 3))
    (kk : ∀ (H1 : Heap) (locs1 : List Loc), Gd D T z n (upE E k (.inr (ci, fs.set j (.ref q)))) s H1 locs1 → W p l e R s m args below meth c H1 locs1 cells slots Q (F0 m (pc + 3) ls rest)) : W p l e R s m args below meth c H locs cells slots Q (F0 m pc ls (.ref q :: .ref (z + k) :: rest)) := by
  have hg := gW_get (z := z) (E := E) hk
  rw [he] at hg
  exact va_putF hx hb hts hu ty0 hty hnm hown G.2.1 G.1 (gW_D G.2.2.2.2.2) G.2.2.1 k hg hc j hj (hts _ hlink) (fun _ h => by rw [hdc] at h; exact h) hfin hin2 hdc hd hnr hfit hlen hdg (fun H1 locs1 hP _ hS => kk H1 locs1 ⟨by rw [← gW_set]; exact hP, G.2.1, hS, G.2.2.2⟩)
theorem g_get (hx : p.tables.exec = Jvm.exec) (hb : c.code = cc) (hts : ∀ w ∈ Gw, w.before args s = true) {Tx : u_T} {N ci : Nat} (hown : s.vm.findClass own = some m.cls) (G : Gd D T z n E s H locs) (hu : ∀ w ∈ u_ws own Tx N, w ∈ Gw) (hc : vwCl[ci]? = some (own, Tx, N)) (k j : Nat) (hk : k < n) {fs : List Value} (he : E k = .inr (ci, fs)) (hj : j < N) (hdc : (Tx j).1 = own) (hlink : Cond.fieldLink own idx own (Tx j).2.1 (Tx j).2.2.1 ∈ Gw) {v : Value} (hv : fs[j]? = some v) (hdg : decode cc pc = .ok (.getfield idx, 3))
    (kk : W p l e R s m args below meth c H locs cells slots Q (F0 m (pc + 3) ls (v :: rest))) : W p l e R s m args below meth c H locs cells slots Q (F0 m pc ls (.ref (z + k) :: rest)) := by
  have hg := gW_get (z := z) (E := E) hk
  rw [he] at hg
  exact va_get hx hb hts hu hown G.2.1 G.1 k hg hc j hj (hts _ hlink) (fun _ h => by rw [hdc] at h; exact h) hv hdg kk
theorem g_iast (hx : p.tables.exec = Jvm.exec) (hb : c.code = cc) (G : Gd D T z n E s H locs) (k : Nat) (hk : k < n) {N : Nat} {f : Nat → Int32} (he : E k = .inl (T 0, N, .inl f)) {i v : Int} (hi : 0 ≤ i ∧ i < (N : Int) ∧ N < 2147483648) (hdg : decode cc pc = .ok (.iastore, 1))
    (kk : ∀ (H1 : Heap) (locs1 : List Loc), Gd D T z n (upE E k (.inl (T 0, N, .inl (upd f i.toNat (kI v))))) s H1 locs1 → W p l e R s m args below meth c H1 locs1 cells slots Q (F0 m (pc + 1) ls rest)) : W p l e R s m args below meth c H locs cells slots Q (F0 m pc ls (.int (kI v) :: .int (kI i) :: .ref (z + k) :: rest)) := by
  have hg := gW_get (z := z) (E := E) hk
  rw [he] at hg
  have ec := kI_cn hi.1 (show i ≤ 2147483647 by omega)
  refine va_iast hx hb G.2.1 G.1 (gW_D G.2.2.2.2.2) G.2.2.1 k 0 hg rfl (kI_in hi.1 hi.2.1 hi.2.2) hdg (fun H1 locs1 hP _ hS => kk H1 locs1 ⟨by rw [← gW_set, ← ec]; exact hP, G.2.1, hS, G.2.2.2⟩)
theorem g_astq (hx : p.tables.exec = Jvm.exec) (hb : c.code = cc) (G : Gd D T z n E s H locs) (k kv : Nat) (hk : k < n ∧ kv < n) {N : Nat} {f : Nat → Option Nat} (he : E k = .inl (T 5, N, .inr (.inr (.inr (.inr f))))) {vs : List Value} (hev : E kv = .inr (1, vs)) {i : Int} (hi : 0 ≤ i ∧ i < (N : Int) ∧ N < 2147483648) (hdg : decode cc pc = .ok (.aastore, 1))
    (kk : ∀ (H1 : Heap) (locs1 : List Loc), Gd D T z n (upE E k (.inl (T 5, N, .inr (.inr (.inr (.inr (va_up f i.toNat (some (z + kv)))))) ))) s H1 locs1 → W p l e R s m args below meth c H1 locs1 cells slots Q (F0 m (pc + 1) ls rest)) : W p l e R s m args below meth c H locs cells slots Q (F0 m pc ls (.ref (z + kv) :: .int (kI i) :: .ref (z + k) :: rest)) := by
  have hg := gW_get (z := z) (E := E) hk.1
  have hg2 := gW_get (z := z) (E := E) hk.2
  rw [he] at hg
  rw [hev] at hg2
  have ec := kI_cn hi.1 (show i ≤ 2147483647 by omega)
  refine va_astq hx hb G.2.1 G.1 (gW_D G.2.2.2.2.2) G.2.2.1 k 5 kv 1 hg rfl hg2 rfl (kI_in hi.1 hi.2.1 hi.2.2) hdg (fun H1 locs1 hP _ hS => kk H1 locs1 ⟨by rw [← gW_set, ← ec]; exact hP, G.2.1, hS, G.2.2.2⟩)
/-- a maker called -/
theorem g_init {nL n' fr lo mc ms maxL a0 : Nat} {y : MethodName} {bytes : ByteArray} {E' : Nat → va_E} (S : CallFix p m c cc nL s args Gw own) (hxg : XG s) (G : Gd D T z n E s H locs) (hn : z + n = s.heap.size + cells) (hM : CtG l y (Cond.code y bytes maxL none) fr lo mc ms [.ref a0] D T z n n' E E') (hk : Cond.methodLink own idx y ∈ Gw) (hi : Cond.instanceMethod y ∈ Gw) (hini : Cond.initialized y.cls ∈ Gw) (hcw : Cond.code y bytes maxL none ∈ Gw) (hy : y.name = "<init>") (hd : y.cls ≠ "java/lang/invoke/MethodHandle" ∧ y.cls ≠ "java/lang/invoke/VarHandle" ∧ (parseMethodDescriptor y.desc).map (fun d => d.parameters.length) = some 0) (hR : fr + 1 ≤ R.frames ∧ 8 + (maxL + 11) + lo ≤ R.locals) (hsz : ls.size = nL) (hW : (rest.map fun v => v.category).sum ≤ 8) (hdg : decode cc pc = .ok (.invokespecial idx, 3)) (hf : cells + mc ≤ R.cells ∧ slots + ms ≤ R.slots)
    (kk : ∀ (H1 : Heap) (locs1 : List Loc), Gd D T z n' E' s H1 locs1 → W p l e R s m args below meth c H1 locs1 (cells + mc) (slots + ms) Q (F0 m (pc + 3) ls rest)) : W p l e R s m args below meth c H locs cells slots Q (F0 m pc ls (.ref a0 :: rest)) := by
  refine W.top fun hle => ?_
  have hlo := gH G.1 (Nat.le_trans G.2.2.2.2.1 G.2.2.1.1)
  have hts := S.2.2.2.2
  have hgw : GoodIn Gw (Cond.code y bytes maxL none :: Gw) := fun w h => by
    rcases List.mem_cons.mp h with rfl | h
    · exact ⟨hcw, good_of_word (Gw_good hcw)⟩
    · exact ⟨h, good_of_word (Gw_good h)⟩
  refine va_callv (va_runI (As := []) (rest := rest) (g := F0 m pc ls (.ref a0 :: rest)) S hM (cwI 0 hts hgw rfl rfl rfl (hts _ hini) (hts _ hk) (hts _ hi) hy hd hR) ⟨GS_blind, fun U hU hWm => ⟨rfl, G.gp hU hWm.alike, by rw [hU]; omega, hxg.warm hWm⟩⟩ rfl rfl hsz rfl (lv_room (pc := pc) (ls := ls) (rest := .ref a0 :: rest) hW) hdg hf) G.2.2.1 (fun q _ h => h) (fun q h => h) (fun u t H1 locs1 ht hvm hw hB hz1 hk1 hS => ?_)
  exact kk H1 locs1 ⟨by rw [← ht]; exact hB.1, G.2.1, hS, G.2.2.2⟩
/-- the end of a maker -/
theorem g_ret {n' mc ms : Nat} {F : Nat → va_E} {a : Array Value} (hx : p.tables.exec = Jvm.exec) (hb : c.code = cc) (hr : meth.sig.returnType = none) (hlk : meth.locks = false) (G : Gd D T z n' F s H locs) (he : ∀ c, c < n' → F c = E c) (hm : cells ≤ mc ∧ slots ≤ ms) (hdg : decode cc pc = .ok (.return_, 1)) : W p l e R s m a below meth c H locs cells slots (MQ below (va_Qv (fun (_ : Unit) => True) (fun (_ : Unit) U => GP D T z n' E U) (Own T z)) a s mc ms (Own T z)) (F0 m pc ls []) := by
  refine W.widen hm.1 hm.2 ?_
  have G := G.cong he
  exact W.vret hx hb hr (fun t ht hW => ⟨⟨(), rfl, trivial, G.gp ht hW.alike⟩, G.2.2.1.F ht⟩) G.2.2.1.2.2 hdg hlk
end GROWS
/-- what the makers leave -/
def io (k : Nat) (j : Int) : Int := if k = 2 ∧ j < 4 then 5 else if k = 13 ∧ j < 3 then sFirst j.toNat else 0
