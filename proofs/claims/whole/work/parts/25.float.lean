/-! answers that are longs, doubles, floats -/
section LDF
variable {p : Program} {l : Launch} {e : Env} {R : Room} {s : State} {m : MethodId} {args : Array Value} {below : List Frame} {meth : Method} {c : Code} {H : Heap} {locs : List Loc} {cells slots : Nat} {Q : State → Prop}
variable {cc : ByteArray} {pc : Nat} {ls : Array Slot} {rest st : List Value} {D : va_G} {T : Nat → ClassId} {z n : Nat} {σ τ τ' : Mem}
abbrev QL (D : va_G) (T : Nat → ClassId) (z n : Nat) (ret : Int64) (τ : Mem) : Array Value → State → Outcome → State → Prop := va_Ql (fun (r : Int64) (u : Mem) => r = ret ∧ u = τ) (fun u => St D T z n u) (Own z)
def CtL (l : Launch) (y : MethodName) (cw : Cond) (fr lo : Nat) (As : Nat → List Value) (σ : Mem) (ret : Int64) (τ : Mem) : Prop := ∀ (D : va_G) (T : Nat → ClassId) (z : Nat), Met l y (cw :: Gw) (rmN fr lo) (va_Pc (As z) (St D T z 139 σ)) (QL D T z 139 ret τ) 0 0 (Own z)
theorem r_lret (hx : p.tables.exec = Jvm.exec) (hb : c.code = cc) (hr : meth.sig.returnType = some .long) (hlk : meth.locks = false) (G : Wd D T z n τ' s H locs) {v ret : Int64} (hv : v = ret) (hτ : τ' = τ) (hdg : decode cc pc = .ok (.lreturn, 1)) : W p l e R s m args below meth c H locs cells slots (MQ below (QL D T z n ret τ) args s cells slots (Own z)) (F0 m pc ls [.long v]) := by
  subst hv; subst hτ
  exact W.lret hx hb hr (fun t ht hW => ⟨⟨v, τ', rfl, ⟨rfl, rfl⟩, G.st ht hW.alike⟩, G.2.2.1.F ht⟩) G.2.2.1.2.2 hdg hlk
section CALLS
variable {own C : String} {idx na maxL nL fr lo a0 : Nat} {y : MethodName} {bytes : ByteArray} {rt : Option FieldType} {As As' : List Value} {ret : Int64}
theorem r_callVL (S : CallFix p m c cc nL s args Gw own) (G : Wd D T z 139 σ s H locs) {Az : Nat → List Value} (hM : CtL l y (Cond.code y bytes maxL rt) fr lo Az σ ret τ) (cw : CallW R s args own C idx y bytes maxL rt (Cond.code y bytes maxL rt :: Gw) (rmN fr lo) 0 0 na) (hrv : ∃ cell : Cell, H[a0]? = some cell ∧ cell.vm.isStatics = false ∧ s.vm.findClass C = some cell.cls)
    (hAs : Az z = .ref a0 :: As') (hn : As'.length = na) (hsz : ls.size = nL) (hst : st = As'.reverse ++ .ref a0 :: rest) (hW : (rest.map fun v => v.category).sum ≤ 8) (hdg : decode cc pc = .ok (.invokevirtual idx, 3)) (hf : cells ≤ R.cells ∧ slots ≤ R.slots)
    (kk : ∀ (H1 : Heap) (locs1 : List Loc), Wd D T z 139 τ s H1 locs1 → W p l e R s m args below meth c H1 locs1 cells slots Q (F0 m (pc + 3) ls (.long ret :: rest))) : W p l e R s m args below meth c H locs cells slots Q (F0 m pc ls st) := by
  refine va_calll (va_runV (As := As') (rest := rest) (g := F0 m pc ls st) S (hM D T z) cw ⟨St_blind, hrv, fun U hU hWm => ⟨by rw [hAs], G.st hU hWm.alike⟩⟩ rfl hn hsz hst (lv_room (pc := pc) (ls := ls) (rest := st) hW) hdg hf) G.2.2.1 (fun q _ h => h) (fun q h => h) (fun r u t H1 locs1 ht hvm hw hB hz1 hk1 hS => ?_)
  obtain ⟨rfl, rfl⟩ := hw
  exact kk H1 locs1 (G.next hB ht hS)
theorem r_callSL (S : CallFix p m c cc nL s args Gw own) (G : Wd D T z 139 σ s H locs) {Az : Nat → List Value} (hM : CtL l y (Cond.code y bytes maxL rt) fr lo Az σ ret τ) (cw : CallB R s args own idx y bytes maxL rt (Cond.code y bytes maxL rt :: Gw) (rmN fr lo) 0 0 na ∧ (Cond.static y).before args s = true)
    (hAs : Az z = As') (hn : As'.length = na) (hsz : ls.size = nL) (hst : st = As'.reverse ++ rest) (hW : (rest.map fun v => v.category).sum ≤ 8) (hdg : decode cc pc = .ok (.invokestatic idx, 3)) (hf : cells ≤ R.cells ∧ slots ≤ R.slots)
    (kk : ∀ (H1 : Heap) (locs1 : List Loc), Wd D T z 139 τ s H1 locs1 → W p l e R s m args below meth c H1 locs1 cells slots Q (F0 m (pc + 3) ls (.long ret :: rest))) : W p l e R s m args below meth c H locs cells slots Q (F0 m pc ls st) := by
  refine va_calll (va_runS (As := As') (rest := rest) (g := F0 m pc ls st) S (hM D T z) cw ⟨St_blind, fun U hU hWm => ⟨by rw [hAs], G.st hU hWm.alike⟩⟩ rfl hn hsz hst (lv_room (pc := pc) (ls := ls) (rest := st) hW) hdg hf) G.2.2.1 (fun q _ h => h) (fun q h => h) (fun r u t H1 locs1 ht hvm hw hB hz1 hk1 hS => ?_)
  obtain ⟨rfl, rfl⟩ := hw
  exact kk H1 locs1 (G.next hB ht hS)
end CALLS
abbrev QD (D : va_G) (T : Nat → ClassId) (z n : Nat) (ret : UInt64) (τ : Mem) : Array Value → State → Outcome → State → Prop := va_Qd (fun (r : UInt64) (u : Mem) => r = ret ∧ u = τ) (fun u => St D T z n u) (Own z)
def CtD (l : Launch) (y : MethodName) (cw : Cond) (fr lo : Nat) (As : Nat → List Value) (σ : Mem) (ret : UInt64) (τ : Mem) : Prop := ∀ (D : va_G) (T : Nat → ClassId) (z : Nat), Met l y (cw :: Gw) (rmN fr lo) (va_Pc (As z) (St D T z 139 σ)) (QD D T z 139 ret τ) 0 0 (Own z)
theorem r_dret (hx : p.tables.exec = Jvm.exec) (hb : c.code = cc) (hr : meth.sig.returnType = some .double) (hlk : meth.locks = false) (G : Wd D T z n τ' s H locs) {v ret : UInt64} (hv : v = ret) (hτ : τ' = τ) (hdg : decode cc pc = .ok (.dreturn, 1)) : W p l e R s m args below meth c H locs cells slots (MQ below (QD D T z n ret τ) args s cells slots (Own z)) (F0 m pc ls [.double v]) := by
  subst hv; subst hτ
  exact W.dret hx hb hr (fun t ht hW => ⟨⟨v, τ', rfl, ⟨rfl, rfl⟩, G.st ht hW.alike⟩, G.2.2.1.F ht⟩) G.2.2.1.2.2 hdg hlk
section CALLS
variable {own C : String} {idx na maxL nL fr lo a0 : Nat} {y : MethodName} {bytes : ByteArray} {rt : Option FieldType} {As As' : List Value} {ret : UInt64}
theorem r_callVD (S : CallFix p m c cc nL s args Gw own) (G : Wd D T z 139 σ s H locs) {Az : Nat → List Value} (hM : CtD l y (Cond.code y bytes maxL rt) fr lo Az σ ret τ) (cw : CallW R s args own C idx y bytes maxL rt (Cond.code y bytes maxL rt :: Gw) (rmN fr lo) 0 0 na) (hrv : ∃ cell : Cell, H[a0]? = some cell ∧ cell.vm.isStatics = false ∧ s.vm.findClass C = some cell.cls)
    (hAs : Az z = .ref a0 :: As') (hn : As'.length = na) (hsz : ls.size = nL) (hst : st = As'.reverse ++ .ref a0 :: rest) (hW : (rest.map fun v => v.category).sum ≤ 8) (hdg : decode cc pc = .ok (.invokevirtual idx, 3)) (hf : cells ≤ R.cells ∧ slots ≤ R.slots)
    (kk : ∀ (H1 : Heap) (locs1 : List Loc), Wd D T z 139 τ s H1 locs1 → W p l e R s m args below meth c H1 locs1 cells slots Q (F0 m (pc + 3) ls (.double ret :: rest))) : W p l e R s m args below meth c H locs cells slots Q (F0 m pc ls st) := by
  refine va_calld (va_runV (As := As') (rest := rest) (g := F0 m pc ls st) S (hM D T z) cw ⟨St_blind, hrv, fun U hU hWm => ⟨by rw [hAs], G.st hU hWm.alike⟩⟩ rfl hn hsz hst (lv_room (pc := pc) (ls := ls) (rest := st) hW) hdg hf) G.2.2.1 (fun q _ h => h) (fun q h => h) (fun r u t H1 locs1 ht hvm hw hB hz1 hk1 hS => ?_)
  obtain ⟨rfl, rfl⟩ := hw
  exact kk H1 locs1 (G.next hB ht hS)
theorem r_callSD (S : CallFix p m c cc nL s args Gw own) (G : Wd D T z 139 σ s H locs) {Az : Nat → List Value} (hM : CtD l y (Cond.code y bytes maxL rt) fr lo Az σ ret τ) (cw : CallB R s args own idx y bytes maxL rt (Cond.code y bytes maxL rt :: Gw) (rmN fr lo) 0 0 na ∧ (Cond.static y).before args s = true)
    (hAs : Az z = As') (hn : As'.length = na) (hsz : ls.size = nL) (hst : st = As'.reverse ++ rest) (hW : (rest.map fun v => v.category).sum ≤ 8) (hdg : decode cc pc = .ok (.invokestatic idx, 3)) (hf : cells ≤ R.cells ∧ slots ≤ R.slots)
    (kk : ∀ (H1 : Heap) (locs1 : List Loc), Wd D T z 139 τ s H1 locs1 → W p l e R s m args below meth c H1 locs1 cells slots Q (F0 m (pc + 3) ls (.double ret :: rest))) : W p l e R s m args below meth c H locs cells slots Q (F0 m pc ls st) := by
  refine va_calld (va_runS (As := As') (rest := rest) (g := F0 m pc ls st) S (hM D T z) cw ⟨St_blind, fun U hU hWm => ⟨by rw [hAs], G.st hU hWm.alike⟩⟩ rfl hn hsz hst (lv_room (pc := pc) (ls := ls) (rest := st) hW) hdg hf) G.2.2.1 (fun q _ h => h) (fun q h => h) (fun r u t H1 locs1 ht hvm hw hB hz1 hk1 hS => ?_)
  obtain ⟨rfl, rfl⟩ := hw
  exact kk H1 locs1 (G.next hB ht hS)
end CALLS
abbrev QF (D : va_G) (T : Nat → ClassId) (z n : Nat) (ret : UInt32) (τ : Mem) : Array Value → State → Outcome → State → Prop := va_Qf (fun (r : UInt32) (u : Mem) => r = ret ∧ u = τ) (fun u => St D T z n u) (Own z)
def CtF (l : Launch) (y : MethodName) (cw : Cond) (fr lo : Nat) (As : Nat → List Value) (σ : Mem) (ret : UInt32) (τ : Mem) : Prop := ∀ (D : va_G) (T : Nat → ClassId) (z : Nat), Met l y (cw :: Gw) (rmN fr lo) (va_Pc (As z) (St D T z 139 σ)) (QF D T z 139 ret τ) 0 0 (Own z)
theorem r_fret (hx : p.tables.exec = Jvm.exec) (hb : c.code = cc) (hr : meth.sig.returnType = some .float) (hlk : meth.locks = false) (G : Wd D T z n τ' s H locs) {v ret : UInt32} (hv : v = ret) (hτ : τ' = τ) (hdg : decode cc pc = .ok (.freturn, 1)) : W p l e R s m args below meth c H locs cells slots (MQ below (QF D T z n ret τ) args s cells slots (Own z)) (F0 m pc ls [.float v]) := by
  subst hv; subst hτ
  exact W.fret hx hb hr (fun t ht hW => ⟨⟨v, τ', rfl, ⟨rfl, rfl⟩, G.st ht hW.alike⟩, G.2.2.1.F ht⟩) G.2.2.1.2.2 hdg hlk
section CALLS
variable {own C : String} {idx na maxL nL fr lo a0 : Nat} {y : MethodName} {bytes : ByteArray} {rt : Option FieldType} {As As' : List Value} {ret : UInt32}
theorem r_callVF (S : CallFix p m c cc nL s args Gw own) (G : Wd D T z 139 σ s H locs) {Az : Nat → List Value} (hM : CtF l y (Cond.code y bytes maxL rt) fr lo Az σ ret τ) (cw : CallW R s args own C idx y bytes maxL rt (Cond.code y bytes maxL rt :: Gw) (rmN fr lo) 0 0 na) (hrv : ∃ cell : Cell, H[a0]? = some cell ∧ cell.vm.isStatics = false ∧ s.vm.findClass C = some cell.cls)
    (hAs : Az z = .ref a0 :: As') (hn : As'.length = na) (hsz : ls.size = nL) (hst : st = As'.reverse ++ .ref a0 :: rest) (hW : (rest.map fun v => v.category).sum ≤ 8) (hdg : decode cc pc = .ok (.invokevirtual idx, 3)) (hf : cells ≤ R.cells ∧ slots ≤ R.slots)
    (kk : ∀ (H1 : Heap) (locs1 : List Loc), Wd D T z 139 τ s H1 locs1 → W p l e R s m args below meth c H1 locs1 cells slots Q (F0 m (pc + 3) ls (.float ret :: rest))) : W p l e R s m args below meth c H locs cells slots Q (F0 m pc ls st) := by
  refine va_callf (va_runV (As := As') (rest := rest) (g := F0 m pc ls st) S (hM D T z) cw ⟨St_blind, hrv, fun U hU hWm => ⟨by rw [hAs], G.st hU hWm.alike⟩⟩ rfl hn hsz hst (lv_room (pc := pc) (ls := ls) (rest := st) hW) hdg hf) G.2.2.1 (fun q _ h => h) (fun q h => h) (fun r u t H1 locs1 ht hvm hw hB hz1 hk1 hS => ?_)
  obtain ⟨rfl, rfl⟩ := hw
  exact kk H1 locs1 (G.next hB ht hS)
theorem r_callSF (S : CallFix p m c cc nL s args Gw own) (G : Wd D T z 139 σ s H locs) {Az : Nat → List Value} (hM : CtF l y (Cond.code y bytes maxL rt) fr lo Az σ ret τ) (cw : CallB R s args own idx y bytes maxL rt (Cond.code y bytes maxL rt :: Gw) (rmN fr lo) 0 0 na ∧ (Cond.static y).before args s = true)
    (hAs : Az z = As') (hn : As'.length = na) (hsz : ls.size = nL) (hst : st = As'.reverse ++ rest) (hW : (rest.map fun v => v.category).sum ≤ 8) (hdg : decode cc pc = .ok (.invokestatic idx, 3)) (hf : cells ≤ R.cells ∧ slots ≤ R.slots)
    (kk : ∀ (H1 : Heap) (locs1 : List Loc), Wd D T z 139 τ s H1 locs1 → W p l e R s m args below meth c H1 locs1 cells slots Q (F0 m (pc + 3) ls (.float ret :: rest))) : W p l e R s m args below meth c H locs cells slots Q (F0 m pc ls st) := by
  refine va_callf (va_runS (As := As') (rest := rest) (g := F0 m pc ls st) S (hM D T z) cw ⟨St_blind, fun U hU hWm => ⟨by rw [hAs], G.st hU hWm.alike⟩⟩ rfl hn hsz hst (lv_room (pc := pc) (ls := ls) (rest := st) hW) hdg hf) G.2.2.1 (fun q _ h => h) (fun q h => h) (fun r u t H1 locs1 ht hvm hw hB hz1 hk1 hS => ?_)
  obtain ⟨rfl, rfl⟩ := hw
  exact kk H1 locs1 (G.next hB ht hS)
end CALLS
theorem r_topL {a b : Int64} (h : a = b) (k : W p l e R s m args below meth c H locs cells slots Q (F0 m pc ls (.long b :: rest))) : W p l e R s m args below meth c H locs cells slots Q (F0 m pc ls (.long a :: rest)) := h ▸ k
theorem r_topD {a b : UInt64} (h : a = b) (k : W p l e R s m args below meth c H locs cells slots Q (F0 m pc ls (.double b :: rest))) : W p l e R s m args below meth c H locs cells slots Q (F0 m pc ls (.double a :: rest)) := h ▸ k
/-- compared doubles, compared longs, and the branch -/
theorem r_dlt {E U K : Nat} {off : Int} {tgt : Nat} {op : CmpOp} (h1 : 1 ≤ E ∧ E ≤ 2046) (hU : U < 4503599627370496) (hK : 1 ≤ K ∧ K ≤ 2046) (hx : p.tables.exec = Jvm.exec) (hb : c.code = cc) (d1 : decode cc pc = .ok (.dcmp op, 1)) (d2 : decode cc (pc + 1) = .ok (.ifCond .lt off, 3)) (ht : ((pc + 1 : Nat) : Int) + off = (tgt : Int)) (kt : E < K → W p l e R s m args below meth c H locs cells slots Q (F0 m tgt ls rest)) (kf : K ≤ E → W p l e R s m args below meth c H locs cells slots Q (F0 m (pc + 1 + 3) ls rest)) : W p l e R s m args below meth c H locs cells slots Q (F0 m pc ls (.double (dw K 0) :: .double (dw E U) :: rest)) := by
  refine lv_dcmp hx hb d1 (lv_if_lt hx hb d2 ht (fun h => kt ((cv_neg h1.1 h1.2 hU hK.1 hK.2).mp h)) (fun h => kf ?_))
  have := mt (cv_neg (op := op) h1.1 h1.2 hU hK.1 hK.2).mpr h
  omega
theorem r_dge {E U K : Nat} {off : Int} {tgt : Nat} {op : CmpOp} (h1 : 1 ≤ E ∧ E ≤ 2046) (hU : U < 4503599627370496) (hK : 1 ≤ K ∧ K ≤ 2046) (hx : p.tables.exec = Jvm.exec) (hb : c.code = cc) (d1 : decode cc pc = .ok (.dcmp op, 1)) (d2 : decode cc (pc + 1) = .ok (.ifCond .ge off, 3)) (ht : ((pc + 1 : Nat) : Int) + off = (tgt : Int)) (kt : K ≤ E → W p l e R s m args below meth c H locs cells slots Q (F0 m tgt ls rest)) (kf : E < K → W p l e R s m args below meth c H locs cells slots Q (F0 m (pc + 1 + 3) ls rest)) : W p l e R s m args below meth c H locs cells slots Q (F0 m pc ls (.double (dw K 0) :: .double (dw E U) :: rest)) := by
  refine lv_dcmp hx hb d1 (lv_if_ge hx hb d2 ht (fun h => kt ((cv_nn h1.1 h1.2 hU hK.1 hK.2).mp h)) (fun h => kf ?_))
  have := mt (cv_nn (op := op) h1.1 h1.2 hU hK.1 hK.2).mpr h
  omega
theorem kL_toInt {a : Int} (h : -4611686018427387904 ≤ a ∧ a ≤ 4611686018427387904) : (Int64.ofInt a).toInt = a := Int64.toInt_ofInt_of_le (by omega) (by omega)
theorem kL_lt {a b : Int} (ha : -4611686018427387904 ≤ a ∧ a ≤ 4611686018427387904) (hb : -4611686018427387904 ≤ b ∧ b ≤ 4611686018427387904) : Int64.ofInt a < Int64.ofInt b ↔ a < b := by rw [Int64.lt_iff_toInt_lt, kL_toInt ha, kL_toInt hb]
theorem kL_inj {a b : Int} (ha : -4611686018427387904 ≤ a ∧ a ≤ 4611686018427387904) (hb : -4611686018427387904 ≤ b ∧ b ≤ 4611686018427387904) : Int64.ofInt a = Int64.ofInt b ↔ a = b := ⟨fun h => by rw [← kL_toInt ha, ← kL_toInt hb, h], fun h => by rw [h]⟩
theorem lg_rel {a b : Int} (ha : -4611686018427387904 ≤ a ∧ a ≤ 4611686018427387904) (hb : -4611686018427387904 ≤ b ∧ b ≤ 4611686018427387904) : lg_cmp (Int64.ofInt a) (Int64.ofInt b) = if b < a then 1 else if a = b then 0 else -1 := by
  unfold lg_cmp
  by_cases h : b < a
  · rw [if_pos h, if_pos ((kL_lt hb ha).mpr h)]
  · rw [if_neg h, if_neg (fun q => h ((kL_lt hb ha).mp q))]
    by_cases h2 : a = b
    · rw [if_pos h2, if_pos ((kL_inj ha hb).mpr h2)]
    · rw [if_neg h2, if_neg (fun q => h2 ((kL_inj ha hb).mp q))]
theorem r_lge {a b off : Int} {tgt : Nat} (ha : -4611686018427387904 ≤ a ∧ a ≤ 4611686018427387904) (hb' : -4611686018427387904 ≤ b ∧ b ≤ 4611686018427387904) (hx : p.tables.exec = Jvm.exec) (hb : c.code = cc) (d1 : decode cc pc = .ok (.lcmp, 1)) (d2 : decode cc (pc + 1) = .ok (.ifCond .ge off, 3)) (ht : ((pc + 1 : Nat) : Int) + off = (tgt : Int)) (kt : b ≤ a → W p l e R s m args below meth c H locs cells slots Q (F0 m tgt ls rest)) (kf : a < b → W p l e R s m args below meth c H locs cells slots Q (F0 m (pc + 1 + 3) ls rest)) : W p l e R s m args below meth c H locs cells slots Q (F0 m pc ls (.long (Int64.ofInt b) :: .long (Int64.ofInt a) :: rest)) := by
  refine W.lcmp hx hb d1 (lv_if_ge hx hb d2 ht (fun h => kt ?_) (fun h => kf ?_))
  · rw [lg_rel ha hb'] at h
    by_cases q : b ≤ a
    · exact q
    · rw [if_neg (by omega), if_neg (by omega)] at h; exact absurd h (by decide)
  · rw [lg_rel ha hb'] at h
    by_cases q : b ≤ a
    · exfalso; apply h
      by_cases w : b < a
      · rw [if_pos w]; decide
      · rw [if_neg w, if_pos (by omega)]; decide
    · omega
theorem r_lle {a b off : Int} {tgt : Nat} (ha : -4611686018427387904 ≤ a ∧ a ≤ 4611686018427387904) (hb' : -4611686018427387904 ≤ b ∧ b ≤ 4611686018427387904) (hx : p.tables.exec = Jvm.exec) (hb : c.code = cc) (d1 : decode cc pc = .ok (.lcmp, 1)) (d2 : decode cc (pc + 1) = .ok (.ifCond .le off, 3)) (ht : ((pc + 1 : Nat) : Int) + off = (tgt : Int)) (kt : a ≤ b → W p l e R s m args below meth c H locs cells slots Q (F0 m tgt ls rest)) (kf : b < a → W p l e R s m args below meth c H locs cells slots Q (F0 m (pc + 1 + 3) ls rest)) : W p l e R s m args below meth c H locs cells slots Q (F0 m pc ls (.long (Int64.ofInt b) :: .long (Int64.ofInt a) :: rest)) := by
  refine W.lcmp hx hb d1 (lv_if_le hx hb d2 ht (fun h => kt ?_) (fun h => kf ?_))
  · rw [lg_rel ha hb'] at h
    by_cases q : a ≤ b
    · exact q
    · rw [if_pos (by omega)] at h; exact absurd h (by decide)
  · rw [lg_rel ha hb'] at h
    by_cases q : a ≤ b
    · exfalso; apply h
      rw [if_neg (by omega)]
      by_cases w : a = b
      · rw [if_pos w]; decide
      · rw [if_neg w]; decide
    · omega
end LDF
theorem i2l_k {a : Int} (h : inR a) : (kI a).toInt64 = Int64.ofInt a := by
  show Int64.ofInt (kI a).toInt = _
  rw [kI_toInt h]
theorem shl_fb {X fb : Nat} (h : fb = 52 ∨ fb = 23) (hX : X < 2048) : Int64.ofInt (X : Int) <<< ((kI (fb : Int)).toInt64 &&& 63) = Int64.ofInt ((X * 2 ^ fb : Nat) : Int) := by
  rcases h with rfl | rfl
  · revert X; decide +kernel
  · revert X; decide +kernel
theorem qTwo : Cond.constantDouble RX5 289 (dw 1024 0) ∈ Gw := by rw [← d_two]; exact qCon_X5_289
theorem hma_rg {σ : Mem} {w : Int} : 0 ≤ hma σ w ∧ hma σ w ≤ 64 := by
  unfold hma
  have e : it (fun k v => v + hm σ k w) (0 : Int) 4 = 0 + hm σ 0 w + hm σ 1 w + hm σ 2 w + hm σ 3 w := rfl
  have h0 := hm_rg (σ := σ) (k := 0) (w := w)
  have h1 := hm_rg (σ := σ) (k := 1) (w := w)
  have h2 := hm_rg (σ := σ) (k := 2) (w := w)
  have h3 := hm_rg (σ := σ) (k := 3) (w := w)
  rw [e]; omega
theorem hra_rg {σ : Mem} : 0 ≤ hra σ ∧ hra σ ≤ 64 := by
  unfold hra
  have e : it (fun k v => v + hrp σ k) (0 : Int) 4 = 0 + hrp σ 0 + hrp σ 1 + hrp σ 2 + hrp σ 3 := rfl
  have h0 := hrp_rg (σ := σ) (k := 0)
  have h1 := hrp_rg (σ := σ) (k := 1)
  have h2 := hrp_rg (σ := σ) (k := 2)
  have h3 := hrp_rg (σ := σ) (k := 3)
  rw [e]; omega
def dsm (σ : Mem) (k : Int) : Int := it (fun y v => if σ 4 (k * 16 + y) = 2 then v + (σ 2 0 - σ 7 (k * 16 + y)) else v) 0 16
def msm (σ : Mem) (k : Int) : Int := it (fun p v => v + (mD σ 0 - mT σ 0 k (mP σ 0 k p))) 0 (mL σ 0 k)
set_option maxRecDepth 100000 in
set_option maxHeartbeats 4000000 in
theorem k_X3_shareOfRipe (l : Launch) {σ : Mem} (hI : IC σ) : CtD l yX3_shareOfRipe (Cond.code yX3_shareOfRipe cX3_shareOfRipe 2 (some .double)) 3 69 (fun z => [.ref (z + 2)]) σ (shW (hra σ) (hma σ 2)) σ := by
  intro D T z
  refine Ct_of (by decide) (Nat.le_of_ble_eq_true rfl) ?_
  intro p e s m below meth c ls hx hb hml hr hts hown hlk G hl
  have hown : s.vm.findClass RX3 = some m.cls := hown
  have hl : lv_has ls 2 [(0, .ref (z + 2))] := hl
  have h1 := hma_rg (σ := σ) (w := 2)
  have h2 := hra_rg (σ := σ)
  refine lv_aload_n hx hb dX3_shareOfRipe_0 rfl (lv_at hl 0 rfl) ?_
  refine r_iconst hx hb dX3_shareOfRipe_1 ?_
  refine r_callVI ⟨hx, hb, hml, hown, hts⟩ G (k_X3_howManyOfAll l (w := 2) (σ := σ) (⟨by decide, by decide⟩) (hI)) (kV_X3_howManyOfAll hts qM_X3_80 ⟨by decide, by decide⟩) (rc_X3 G) rfl rfl hl.1 rfl (Nat.le_of_ble_eq_true rfl) dX3_shareOfRipe_2 ⟨Nat.le_refl _, Nat.le_refl _⟩ (fun H locs G => ?_)
  refine lv_istore_n (lv' := [(1, .int (kI (hma σ 2))), (0, .ref (z + 2))]) hx hb dX3_shareOfRipe_5 rfl hl (by decide) rfl (fun ls hl => ?_)
  refine lv_iload_n hx hb dX3_shareOfRipe_6 rfl (lv_at hl 0 rfl) ?_
  refine r_if_ne (tgt := 14) hx hb ⟨by omega, by omega⟩ dX3_shareOfRipe_7 (by decide) (fun h_1 => ?_) (fun h_1 => ?_)
  · skip
    refine lv_aload_n hx hb dX3_shareOfRipe_14 rfl (lv_at hl 1 rfl) ?_
    refine r_callVI ⟨hx, hb, hml, hown, hts⟩ G (k_X3_howManyRipeOfAll l (σ := σ) (hI)) (kV_X3_howManyRipeOfAll hts qM_X3_83 ⟨by decide, by decide⟩) (rc_X3 G) rfl rfl hl.1 rfl (Nat.le_of_ble_eq_true rfl) dX3_shareOfRipe_15 ⟨Nat.le_refl _, Nat.le_refl _⟩ (fun H locs G => ?_)
    refine lv_i2d hx hb dX3_shareOfRipe_18 ?_
    refine lv_iload_n hx hb dX3_shareOfRipe_19 rfl (lv_at hl 0 rfl) ?_
    refine lv_i2d hx hb dX3_shareOfRipe_20 ?_
    refine lv_ddiv hx hb dX3_shareOfRipe_21 ((ddiv_ok ⟨by omega, by omega⟩ ⟨by omega, by omega⟩).n) ?_
    exact r_dret hx hb hr hlk G (by unfold shW; first | exact (if_pos (by omega)).symm | exact (if_neg (by omega)).symm) (by rfl) dX3_shareOfRipe_22
  · skip
    refine lv_dconst1 hx hb dX3_shareOfRipe_10 ?_
    refine lv_goto (tgt := 22) hx hb dX3_shareOfRipe_11 (by decide) ?_
    exact r_dret hx hb hr hlk G (by unfold shW; first | exact (if_pos (by omega)).symm | exact (if_neg (by omega)).symm) (by rfl) dX3_shareOfRipe_22
set_option maxRecDepth 100000 in
set_option maxHeartbeats 4000000 in
theorem k_X3_meanDays (l : Launch) {σ : Mem} {k : Int} (hk : 0 ≤ k ∧ k < 4) (hI : IC σ) : CtF l yX3_meanDays (Cond.code yX3_meanDays cX3_meanDays 5 (some .float)) 1 22 (fun z => [.ref (z + 2), .int (kI k)]) σ (mnW (dsm σ k) (hm σ k 2)) σ := by
  intro D T z
  refine Ct_of (by decide) (Nat.le_of_ble_eq_true rfl) ?_
  intro p e s m below meth c ls hx hb hml hr hts hown hlk G hl
  have hown : s.vm.findClass RX3 = some m.cls := hown
  have hl : lv_has ls 5 [(0, .ref (z + 2)), (1, .int (kI k))] := hl
  have hd := hI.1
  refine r_iconst hx hb dX3_meanDays_0 ?_
  refine lv_istore_n (lv' := [(2, .int (kI 0)), (0, .ref (z + 2)), (1, .int (kI k))]) hx hb dX3_meanDays_1 rfl hl (by decide) rfl (fun ls hl => ?_)
  refine r_iconst hx hb dX3_meanDays_2 ?_
  refine lv_istore_n (lv' := [(3, .int (kI 0)), (2, .int (kI 0)), (0, .ref (z + 2)), (1, .int (kI k))]) hx hb dX3_meanDays_3 rfl hl (by decide) rfl (fun ls hl => ?_)
  refine r_iconst hx hb dX3_meanDays_4 ?_
  refine lv_istore (lv' := [(4, .int (kI 0)), (3, .int (kI 0)), (2, .int (kI 0)), (0, .ref (z + 2)), (1, .int (kI k))]) hx hb dX3_meanDays_5 hl (by decide) rfl (fun ls hl => ?_)
  have lp7 : ∀ (d : Nat) (cnt : Int) (sm : Int) (i : Int), (0 ≤ i) → (i ≤ 16) → (0 ≤ cnt ∧ cnt ≤ 16) → (0 ≤ sm ∧ sm ≤ i * 9999) → (cnt = cn (fun y => σ 4 (k * 16 + y) = 2) i) → (sm = it (fun y v => if σ 4 (k * 16 + y) = 2 then v + (σ 2 0 - σ 7 (k * 16 + y)) else v) 0 i) → (16 - i : Int) < (d : Int) → ∀ (H : Heap) (locs : List Loc), Wd D T z 139 σ s H locs → ∀ (ls : Array Slot), lv_has ls 5 [(0, .ref (z + 2)), (1, .int (kI k)), (2, .int (kI cnt)), (3, .int (kI sm)), (4, .int (kI i))] → W p l e (rmN 1 22) s m ([.ref (z + 2), .int (kI k)] : List Value).toArray below meth c H locs 0 0 (MQ below (QF D T z 139 (mnW (dsm σ k) (hm σ k 2)) σ) ([.ref (z + 2), .int (kI k)] : List Value).toArray s 0 0 (Own z)) (F0 m 7 ls []) := by
    intro d
    induction d with
    | zero => intro cnt sm i h0 h1 hc0 hs0 hv hw hd; exact absurd hd (by omega)
    | succ d ih7 =>
      intro cnt sm i h0 h1 hc0 hs0 hv hw hd H locs G ls hl
      refine lv_iload hx hb dX3_meanDays_7 (lv_at hl 4 rfl) ?_
      refine r_bipush hx hb dX3_meanDays_9 (by decide +kernel) ?_
      refine r_icmp_ge (tgt := 44) hx hb ⟨by omega, by omega⟩ ⟨by decide, by decide⟩ dX3_meanDays_11 (by decide) (fun h_1 => ?_) (fun h_1 => ?_)
      · skip
        have e : i = 16 := by omega
        have ec : cnt = hm σ k 2 := by rw [hv, e]; rfl
        have es : sm = dsm σ k := by rw [hw, e]; rfl
        refine lv_iload_n hx hb dX3_meanDays_44 rfl (lv_at hl 2 rfl) ?_
        refine r_if_ne (tgt := 52) hx hb ⟨by omega, by omega⟩ dX3_meanDays_45 (by decide) (fun h_2 => ?_) (fun h_2 => ?_)
        · skip
          refine lv_iload_n hx hb dX3_meanDays_52 rfl (lv_at hl 3 rfl) ?_
          refine lv_i2f hx hb dX3_meanDays_53 ?_
          refine lv_iload_n hx hb dX3_meanDays_54 rfl (lv_at hl 2 rfl) ?_
          refine lv_i2f hx hb dX3_meanDays_55 ?_
          refine lv_fdiv hx hb dX3_meanDays_56 ((fdiv_ok ⟨by omega, by omega⟩ ⟨by omega, by omega⟩).n) ?_
          exact r_fret hx hb hr hlk G (by rw [← ec, ← es]; unfold mnW; first | exact (if_pos (by omega)).symm | exact (if_neg (by omega)).symm) (by rfl) dX3_meanDays_57
        · skip
          refine lv_fconst0 hx hb dX3_meanDays_48 ?_
          refine lv_goto (tgt := 57) hx hb dX3_meanDays_49 (by decide) ?_
          exact r_fret hx hb hr hlk G (by rw [← ec, ← es]; unfold mnW; first | exact (if_pos (by omega)).symm | exact (if_neg (by omega)).symm) (by rfl) dX3_meanDays_57
      · skip
        refine lv_aload_n hx hb dX3_meanDays_14 rfl (lv_at hl 0 rfl) ?_
        refine lv_iload_n hx hb dX3_meanDays_15 rfl (lv_at hl 1 rfl) ?_
        refine lv_iload hx hb dX3_meanDays_16 (lv_at hl 4 rfl) ?_
        refine r_callVI ⟨hx, hb, hml, hown, hts⟩ G (k_X3_statusOf l (k := k) (y := i) (σ := σ) (hk) (⟨by omega, by omega⟩)) (kV_X3_statusOf hts qM_X3_46 ⟨by decide, by decide⟩) (rc_X3 G) rfl rfl hl.1 rfl (Nat.le_of_ble_eq_true rfl) dX3_meanDays_18 ⟨Nat.le_refl _, Nat.le_refl _⟩ (fun H locs G => ?_)
        have hi := hI.2.2 (k * 16 + i) (by omega) (by omega)
        refine r_iconst hx hb dX3_meanDays_21 ?_
        refine r_icmp_ne (tgt := 38) hx hb ⟨by omega, by omega⟩ ⟨by decide, by decide⟩ dX3_meanDays_22 (by decide) (fun h_3 => ?_) (fun h_3 => ?_)
        · skip
          have hq := h_3
          have hs1 : cnt = cn (fun y => σ 4 (k * 16 + y) = 2) (i + 1) := cn_f h0 hv hq
          have hs2 : sm = it (fun y v => if σ 4 (k * 16 + y) = 2 then v + (σ 2 0 - σ 7 (k * 16 + y)) else v) 0 (i + 1) := by rw [it_s h0, ← hw, if_neg hq]
          refine r_iinc (lv' := [(4, .int (kI (i + 1))), (0, .ref (z + 2)), (1, .int (kI k)), (2, .int (kI cnt)), (3, .int (kI sm))]) hx hb dX3_meanDays_38 hl (k := 4) rfl (by decide) rfl (fun ls hl => ?_)
          refine lv_goto (tgt := 7) hx hb dX3_meanDays_41 (by decide) ?_
          exact ih7 cnt sm (i + 1) (by omega) (by omega) (by have := cn_rg (P := fun y => σ 4 (k * 16 + y) = 2) (i := i + 1) (by omega); omega) (by omega) (hs1) (hs2) (by omega) _ _ G _ (lv_sub hl [1, 2, 3, 4, 0] rfl)
        · skip
          have hq := h_3
          have hs1 : cnt + 1 = cn (fun y => σ 4 (k * 16 + y) = 2) (i + 1) := cn_t h0 hv hq
          have hs2 : sm + (σ 2 0 - σ 7 (k * 16 + i)) = it (fun y v => if σ 4 (k * 16 + y) = 2 then v + (σ 2 0 - σ 7 (k * 16 + y)) else v) 0 (i + 1) := by rw [it_s h0, ← hw, if_pos hq]
          refine r_iinc (lv' := [(2, .int (kI (cnt + 1))), (0, .ref (z + 2)), (1, .int (kI k)), (3, .int (kI sm)), (4, .int (kI i))]) hx hb dX3_meanDays_25 hl (k := 2) rfl (by decide) rfl (fun ls hl => ?_)
          refine lv_iload_n hx hb dX3_meanDays_28 rfl (lv_at hl 3 rfl) ?_
          refine lv_aload_n hx hb dX3_meanDays_29 rfl (lv_at hl 1 rfl) ?_
          refine lv_iload_n hx hb dX3_meanDays_30 rfl (lv_at hl 2 rfl) ?_
          refine lv_iload hx hb dX3_meanDays_31 (lv_at hl 4 rfl) ?_
          refine r_callVI ⟨hx, hb, hml, hown, hts⟩ G (k_X3_daysLain l (k := k) (y := i) (σ := σ) (hk) (⟨by omega, by omega⟩)) (kV_X3_daysLain hts qM_X3_37 ⟨by decide, by decide⟩) (rc_X3 G) rfl rfl hl.1 rfl (Nat.le_of_ble_eq_true rfl) dX3_meanDays_33 ⟨Nat.le_refl _, Nat.le_refl _⟩ (fun H locs G => ?_)
          refine r_iadd hx hb dX3_meanDays_36 ?_
          refine lv_istore_n (lv' := [(3, .int (kI (sm + (σ 2 0 - σ 7 (k * 16 + i))))), (2, .int (kI (cnt + 1))), (0, .ref (z + 2)), (1, .int (kI k)), (4, .int (kI i))]) hx hb dX3_meanDays_37 rfl hl (by decide) rfl (fun ls hl => ?_)
          refine r_iinc (lv' := [(4, .int (kI (i + 1))), (3, .int (kI (sm + (σ 2 0 - σ 7 (k * 16 + i))))), (2, .int (kI (cnt + 1))), (0, .ref (z + 2)), (1, .int (kI k))]) hx hb dX3_meanDays_38 hl (k := 4) rfl (by decide) rfl (fun ls hl => ?_)
          refine lv_goto (tgt := 7) hx hb dX3_meanDays_41 (by decide) ?_
          exact ih7 (cnt + 1) (sm + (σ 2 0 - σ 7 (k * 16 + i))) (i + 1) (by omega) (by omega) (by have := cn_rg (P := fun y => σ 4 (k * 16 + y) = 2) (i := i + 1) (by omega); omega) (by omega) (hs1) (hs2) (by omega) _ _ G _ (lv_sub hl [3, 4, 2, 1, 0] rfl)
  exact lp7 17 0 0 0 (by omega) (by omega) (by omega) (by omega) (rfl) (rfl) (by omega) _ _ G _ (lv_sub hl [3, 4, 2, 1, 0] rfl)
set_option maxRecDepth 100000 in
set_option maxHeartbeats 4000000 in
theorem k_X5_ripeShare (l : Launch) {σ : Mem} (hS : IS σ) : CtD l yX5_ripeShare (Cond.code yX5_ripeShare cX5_ripeShare 1 (some .double)) 4 90 (fun z => [.ref (z + 0)]) σ (shW (hra σ) (hma σ 2)) σ := by
  intro D T z
  refine Ct_of (by decide) (Nat.le_of_ble_eq_true rfl) ?_
  intro p e s m below meth c ls hx hb hml hr hts hown hlk G hl
  have hown : s.vm.findClass RX5 = some m.cls := hown
  have hl : lv_has ls 1 [(0, .ref (z + 0))] := hl
  refine lv_aload_n hx hb dX5_ripeShare_0 rfl (lv_at hl 0 rfl) ?_
  refine gf_X5_10 hx hb hts hown G dX5_ripeShare_1 ?_
  refine gf_X5_80 hx hb hts hown G dX5_ripeShare_4 ?_
  refine r_callVD ⟨hx, hb, hml, hown, hts⟩ G (k_X3_shareOfRipe l (σ := σ) (hS.1)) (kV_X3_shareOfRipe hts qM_X5_206 ⟨by decide, by decide⟩) (rc_X3 G) rfl rfl hl.1 rfl (Nat.le_of_ble_eq_true rfl) dX5_ripeShare_7 ⟨Nat.le_refl _, Nat.le_refl _⟩ (fun H locs G => ?_)
  exact r_dret hx hb hr hlk G (by first | rfl | omega) (by rfl) dX5_ripeShare_10
set_option maxRecDepth 100000 in
set_option maxHeartbeats 4000000 in
theorem k_X5_meanAge (l : Launch) (hst0 : l.stackTraces = false) {σ : Mem} {k : Int} (hk0 : inR k) (hS : IS σ) : CtXF l yX5_meanAge (Cond.code yX5_meanAge cX5_meanAge 2 (some .float)) 7 102 2 12 (fun z => [.ref (z + 0), .int (kI k)]) σ (isK k) (mnW (dsm σ k) (hm σ k 2)) σ IOB := by
  intro D T z
  refine Cx_of (by decide) (Nat.le_of_ble_eq_true rfl) ?_
  intro p e s m below meth c ls hx hb hml hr hts hown hlk G hl hv htab
  have hown : s.vm.findClass RX5 = some m.cls := hown
  have hl : lv_has ls 2 [(0, .ref (z + 0)), (1, .int (kI k))] := hl
  refine lv_iload_n hx hb dX5_meanAge_0 rfl (lv_at hl 1 rfl) ?_
  refine r_need ⟨hx, hb, hml, hown, hts⟩ hst0 hlk htab G hv (k_X5_needKind l hst0 (k := k) (σ := σ) (⟨by omega, by omega⟩)) (kSx_X5_needKind hts qM_X5_38 ⟨Nat.le_of_ble_eq_true rfl, Nat.le_of_ble_eq_true rfl⟩) rfl rfl hl.1 rfl (Nat.le_of_ble_eq_true rfl) dX5_meanAge_1 ⟨Nat.le_of_ble_eq_true rfl, Nat.le_of_ble_eq_true rfl⟩ ⟨Nat.le_of_ble_eq_true rfl, Nat.le_of_ble_eq_true rfl⟩ rfl (fun h => ⟨h, rfl⟩) (fun hq_1 H locs G => ?_)
  have hK := hq_1
  refine lv_aload_n hx hb dX5_meanAge_4 rfl (lv_at hl 0 rfl) ?_
  refine gf_X5_10 hx hb hts hown G dX5_meanAge_5 ?_
  refine gf_X5_80 hx hb hts hown G dX5_meanAge_8 ?_
  refine lv_iload_n hx hb dX5_meanAge_11 rfl (lv_at hl 1 rfl) ?_
  refine r_callVF ⟨hx, hb, hml, hown, hts⟩ G (k_X3_meanDays l (k := k) (σ := σ) (⟨by omega, by omega⟩) (hS.1)) (kV_X3_meanDays hts qM_X5_210 ⟨Nat.le_of_ble_eq_true rfl, Nat.le_of_ble_eq_true rfl⟩) (rc_X3 G) rfl rfl hl.1 rfl (Nat.le_of_ble_eq_true rfl) dX5_meanAge_12 ⟨Nat.le_of_ble_eq_true rfl, Nat.le_of_ble_eq_true rfl⟩ (fun H locs G => ?_)
  exact r_fretx hx hb hr hlk G ⟨Nat.le_of_ble_eq_true rfl, Nat.le_of_ble_eq_true rfl⟩ (hK) (by first | rfl | omega) (by rfl) dX5_meanAge_15
set_option maxRecDepth 100000 in
set_option maxHeartbeats 4000000 in
theorem k_X5_mix (l : Launch) {σ : Mem} {h v : Int64}  : CtL l yX5_mix (Cond.code yX5_mix cX5_mix 4 (some .long)) 0 0 (fun z => [.long h, .long v]) σ ((31 : Int64) * h + v) σ := by
  intro D T z
  refine Ct_of (by decide) (Nat.le_of_ble_eq_true rfl) ?_
  intro p e s m below meth c ls hx hb hml hr hts hown hlk G hl
  have hown : s.vm.findClass RX5 = some m.cls := hown
  have hl : lv_has ls 4 [(0, .long h), (2, .long v)] := hl
  refine lv_ldc2 hx hb hown (hts _ qCon_X5_287) dX5_mix_0 ?_
  refine lv_lload_n hx hb dX5_mix_3 rfl (lv_at hl 0 rfl) ?_
  refine lv_lmul hx hb dX5_mix_4 ?_
  refine lv_lload_n hx hb dX5_mix_5 rfl (lv_at hl 1 rfl) ?_
  refine lv_ladd hx hb dX5_mix_6 ?_
  exact r_lret hx hb hr hlk G (by first | rfl | omega) (by rfl) dX5_mix_7
theorem kL_mul2 {b : Int} : (2 : Int64) * Int64.ofInt b = Int64.ofInt (2 * b) := (Int64.ofInt_mul 2 b).symm
theorem k_X5_bitsOf0 (l : Launch) {σ : Mem} {fb bi : Int} : CtL l yX5_bitsOf (Cond.code yX5_bitsOf cX5_bitsOf 10 (some .long)) 0 0 (fun z => [.double FP.dconst0, .int (kI fb), .int (kI bi)]) σ 0 σ := by
  intro D T z
  refine Ct_of (by decide) (Nat.le_of_ble_eq_true rfl) ?_
  intro p e s m below meth c ls hx hb hml hr hts hown hlk G hl
  have hl : lv_has ls 10 [(0, .double FP.dconst0), (2, .int (kI fb)), (3, .int (kI bi))] := hl
  refine lv_dload_n hx hb dX5_bitsOf_0 rfl (lv_at hl 0 rfl) ?_
  refine lv_dconst0 hx hb dX5_bitsOf_1 ?_
  refine lv_dcmp hx hb dX5_bitsOf_2 ?_
  rw [cv_00]
  refine lv_if_gt (tgt := 8) hx hb dX5_bitsOf_3 (by decide) (fun h => absurd h (by decide)) (fun _ => ?_)
  refine lv_lconst (v := 0) hx hb dX5_bitsOf_6 rfl ?_
  exact r_lret hx hb hr hlk G rfl rfl dX5_bitsOf_7
set_option maxRecDepth 100000 in
set_option maxHeartbeats 4000000 in
theorem k_X5_bitsOf (l : Launch) {σ : Mem} {E U fb bi X V : Nat} (hE : 1 ≤ E ∧ E ≤ 2046) (hU : U < 4503599627370496) (hfb : (fb = 52 ∨ fb = 23) ∧ 0 ≤ bi ∧ bi ≤ 1023) (hX : bi + E = X + 1023 ∧ 1 ≤ X ∧ X ≤ 2 * bi) (hV : U = V * 2 ^ (52 - fb)) : CtL l yX5_bitsOf (Cond.code yX5_bitsOf cX5_bitsOf 10 (some .long)) 0 0 (fun z => [.double (dw E U), .int (kI (fb : Int)), .int (kI (bi : Int))]) σ (Int64.ofInt ((X * 2 ^ fb : Nat) : Int) + Int64.ofInt (V : Int)) σ := by
  intro D T z
  refine Ct_of (by decide) (Nat.le_of_ble_eq_true rfl) ?_
  intro p e s m below meth c ls hx hb hml hr hts hown hlk G hl
  have hown : s.vm.findClass RX5 = some m.cls := hown
  have hl : lv_has ls 10 [(0, .double (dw E U)), (2, .int (kI (fb : Int))), (3, .int (kI (bi : Int)))] := hl
  refine lv_dload_n hx hb dX5_bitsOf_0 rfl (lv_at hl 0 rfl) ?_
  refine lv_dconst0 hx hb dX5_bitsOf_1 ?_
  refine lv_dcmp hx hb dX5_bitsOf_2 ?_
  refine lv_if_gt (tgt := 8) hx hb dX5_bitsOf_3 (by decide) (fun _ => ?_) (fun h => absurd (cv_pos hE.1 hE.2 hU) h)
  refine lv_dload_n hx hb dX5_bitsOf_8 rfl (lv_at hl 0 rfl) ?_
  refine lv_dstore (lv' := [(4, .double (dw E U)), (0, .double (dw E U)), (2, .int (kI (fb : Int))), (3, .int (kI (bi : Int)))]) hx hb dX5_bitsOf_9 hl (by decide) rfl (fun ls hl => ?_)
  refine lv_iload_n hx hb dX5_bitsOf_11 rfl (lv_at hl 3 rfl) ?_
  refine lv_i2l hx hb dX5_bitsOf_12 rfl ?_
  refine r_topL (b := Int64.ofInt (bi : Int)) (i2l_k ⟨by omega, by omega⟩) ?_
  refine lv_lstore (lv' := [(6, .long (Int64.ofInt (bi : Int))), (4, .double (dw E U)), (0, .double (dw E U)), (2, .int (kI (fb : Int))), (3, .int (kI (bi : Int)))]) hx hb dX5_bitsOf_13 hl (by decide) rfl (fun ls hl => ?_)
  have lp15 : ∀ (d : Nat) (F : Nat) (x : Int), (x + F = bi + E) → (1 ≤ F ∧ F ≤ E) → (1023 ≤ F ∨ F = E) → ((F : Int) : Int) < (d : Int) → ∀ (H : Heap) (locs : List Loc), Wd D T z 139 σ s H locs → ∀ (ls : Array Slot), lv_has ls 10 [(0, .double (dw E U)), (2, .int (kI (fb : Int))), (3, .int (kI (bi : Int))), (4, .double (dw F U)), (6, .long (Int64.ofInt x))] → W p l e (rmN 0 0) s m ([.double (dw E U), .int (kI (fb : Int)), .int (kI (bi : Int))] : List Value).toArray below meth c H locs 0 0 (MQ below (QL D T z 139 (Int64.ofInt ((X * 2 ^ fb : Nat) : Int) + Int64.ofInt (V : Int)) σ) ([.double (dw E U), .int (kI (fb : Int)), .int (kI (bi : Int))] : List Value).toArray s 0 0 (Own z)) (F0 m 15 ls []) := by
    intro d
    induction d with
    | zero => intro F x h0 h1 h2 hd; exact absurd hd (by omega)
    | succ d ih15 =>
      intro F x h0 h1 h2 hd H locs G ls hl
      refine lv_dload hx hb dX5_bitsOf_15 (lv_at hl 3 rfl) ?_
      refine lv_ldc2d (v := dw 1024 0) hx hb hown (hts _ qTwo) dX5_bitsOf_17 ?_
      refine r_dlt (tgt := 53) (K := 1024) ⟨by omega, by omega⟩ hU (by decide) hx hb dX5_bitsOf_20 dX5_bitsOf_21 (by decide) (fun h_1 => ?_) (fun h_1 => ?_)
      · skip
        have lp53 : ∀ (d : Nat) (F : Nat) (x : Int), (x + F = bi + E) → (1 ≤ F ∧ F ≤ 1023) → (1023 - (F : Int) : Int) < (d : Int) → ∀ (H : Heap) (locs : List Loc), Wd D T z 139 σ s H locs → ∀ (ls : Array Slot), lv_has ls 10 [(0, .double (dw E U)), (2, .int (kI (fb : Int))), (3, .int (kI (bi : Int))), (4, .double (dw F U)), (6, .long (Int64.ofInt x))] → W p l e (rmN 0 0) s m ([.double (dw E U), .int (kI (fb : Int)), .int (kI (bi : Int))] : List Value).toArray below meth c H locs 0 0 (MQ below (QL D T z 139 (Int64.ofInt ((X * 2 ^ fb : Nat) : Int) + Int64.ofInt (V : Int)) σ) ([.double (dw E U), .int (kI (fb : Int)), .int (kI (bi : Int))] : List Value).toArray s 0 0 (Own z)) (F0 m 53 ls []) := by
          intro d
          induction d with
          | zero => intro F x h0 h1 hd; exact absurd hd (by omega)
          | succ d ih53 =>
            intro F x h0 h1 hd H locs G ls hl
            refine lv_dload hx hb dX5_bitsOf_53 (lv_at hl 3 rfl) ?_
            refine lv_dconst1 hx hb dX5_bitsOf_55 ?_
            refine r_topD d_one ?_
            refine r_dge (tgt := 84) (K := 1023) ⟨by omega, by omega⟩ hU (by decide) hx hb dX5_bitsOf_56 dX5_bitsOf_57 (by decide) (fun h_2 => ?_) (fun h_2 => ?_)
            · skip
              refine lv_dload hx hb dX5_bitsOf_84 (lv_at hl 3 rfl) ?_
              have hF : F = 1023 := by omega
              refine r_topD (b := dw 1023 U) (by rw [hF]) ?_
              refine lv_dconst1 hx hb dX5_bitsOf_86 ?_
              refine lv_dsub hx hb dX5_bitsOf_87 (by rw [d_one]; exact (d_fr hU hfb.1 hV).2.1) ?_
              refine lv_lconst (v := 1) hx hb dX5_bitsOf_88 rfl ?_
              refine lv_iload_n hx hb dX5_bitsOf_89 rfl (lv_at hl 1 rfl) ?_
              refine lv_lshl (v := Int64.ofInt ((2 ^ fb : Nat) : Int)) hx hb dX5_bitsOf_90 (by have := shl_fb (X := 1) hfb.1 (by decide); rw [Nat.one_mul] at this; exact this) ?_
              refine lv_l2d hx hb dX5_bitsOf_91 ?_
              refine lv_dmul hx hb dX5_bitsOf_92 (by rw [d_one]; exact (d_fr hU hfb.1 hV).2.2) ?_
              refine lv_d2l hx hb dX5_bitsOf_93 ?_
              refine r_topL (b := Int64.ofInt (V : Int)) (by rw [d_one]; exact (d_fr hU hfb.1 hV).1) ?_
              refine lv_lstore (lv' := [(8, .long (Int64.ofInt (V : Int))), (0, .double (dw E U)), (2, .int (kI (fb : Int))), (3, .int (kI (bi : Int))), (4, .double (dw F U)), (6, .long (Int64.ofInt x))]) hx hb dX5_bitsOf_94 hl (by decide) rfl (fun ls hl => ?_)
              refine lv_lload hx hb dX5_bitsOf_96 (lv_at hl 5 rfl) ?_
              refine lv_iload_n hx hb dX5_bitsOf_98 rfl (lv_at hl 2 rfl) ?_
              have hxx : x = (X : Int) := by omega
              refine lv_lshl (v := Int64.ofInt ((X * 2 ^ fb : Nat) : Int)) hx hb dX5_bitsOf_99 (by rw [hxx]; exact shl_fb hfb.1 (by omega)) ?_
              refine lv_lload hx hb dX5_bitsOf_100 (lv_at hl 0 rfl) ?_
              refine lv_ladd hx hb dX5_bitsOf_102 ?_
              exact r_lret hx hb hr hlk G (by first | rfl | omega) (by rfl) dX5_bitsOf_103
            · skip
              refine lv_lload hx hb dX5_bitsOf_60 (lv_at hl 4 rfl) ?_
              refine lv_lconst (v := 1) hx hb dX5_bitsOf_62 rfl ?_
              refine r_topL (b := Int64.ofInt (1)) (rfl) ?_
              refine r_lle (tgt := 84) ⟨by omega, by omega⟩ ⟨by omega, by omega⟩ hx hb dX5_bitsOf_63 dX5_bitsOf_64 (by decide) (fun h_3 => ?_) (fun h_3 => ?_)
              · skip
                refine lv_dload hx hb dX5_bitsOf_84 (lv_at hl 3 rfl) ?_
                have hF : F = 1023 := by omega
                refine r_topD (b := dw 1023 U) (by rw [hF]) ?_
                refine lv_dconst1 hx hb dX5_bitsOf_86 ?_
                refine lv_dsub hx hb dX5_bitsOf_87 (by rw [d_one]; exact (d_fr hU hfb.1 hV).2.1) ?_
                refine lv_lconst (v := 1) hx hb dX5_bitsOf_88 rfl ?_
                refine lv_iload_n hx hb dX5_bitsOf_89 rfl (lv_at hl 1 rfl) ?_
                refine lv_lshl (v := Int64.ofInt ((2 ^ fb : Nat) : Int)) hx hb dX5_bitsOf_90 (by have := shl_fb (X := 1) hfb.1 (by decide); rw [Nat.one_mul] at this; exact this) ?_
                refine lv_l2d hx hb dX5_bitsOf_91 ?_
                refine lv_dmul hx hb dX5_bitsOf_92 (by rw [d_one]; exact (d_fr hU hfb.1 hV).2.2) ?_
                refine lv_d2l hx hb dX5_bitsOf_93 ?_
                refine r_topL (b := Int64.ofInt (V : Int)) (by rw [d_one]; exact (d_fr hU hfb.1 hV).1) ?_
                refine lv_lstore (lv' := [(8, .long (Int64.ofInt (V : Int))), (0, .double (dw E U)), (2, .int (kI (fb : Int))), (3, .int (kI (bi : Int))), (4, .double (dw F U)), (6, .long (Int64.ofInt x))]) hx hb dX5_bitsOf_94 hl (by decide) rfl (fun ls hl => ?_)
                refine lv_lload hx hb dX5_bitsOf_96 (lv_at hl 5 rfl) ?_
                refine lv_iload_n hx hb dX5_bitsOf_98 rfl (lv_at hl 2 rfl) ?_
                have hxx : x = (X : Int) := by omega
                refine lv_lshl (v := Int64.ofInt ((X * 2 ^ fb : Nat) : Int)) hx hb dX5_bitsOf_99 (by rw [hxx]; exact shl_fb hfb.1 (by omega)) ?_
                refine lv_lload hx hb dX5_bitsOf_100 (lv_at hl 0 rfl) ?_
                refine lv_ladd hx hb dX5_bitsOf_102 ?_
                exact r_lret hx hb hr hlk G (by first | rfl | omega) (by rfl) dX5_bitsOf_103
              · skip
                refine lv_dload hx hb dX5_bitsOf_67 (lv_at hl 3 rfl) ?_
                refine lv_ldc2d (v := dw 1024 0) hx hb hown (hts _ qTwo) dX5_bitsOf_69 ?_
                refine lv_dmul hx hb dX5_bitsOf_72 (by rw [dmul_2 (by omega) (by omega) hU]; exact n_dw (by omega) hU) ?_
                refine r_topD (dmul_2 (by omega) (by omega) hU) ?_
                refine lv_dstore (lv' := [(4, .double (dw (F + 1) U)), (0, .double (dw E U)), (2, .int (kI (fb : Int))), (3, .int (kI (bi : Int))), (6, .long (Int64.ofInt x))]) hx hb dX5_bitsOf_73 hl (by decide) rfl (fun ls hl => ?_)
                refine lv_lload hx hb dX5_bitsOf_75 (lv_at hl 4 rfl) ?_
                refine lv_lconst (v := 1) hx hb dX5_bitsOf_77 rfl ?_
                refine lv_lsub hx hb dX5_bitsOf_78 ?_
                refine r_topL (b := Int64.ofInt (x - 1)) ((Int64.ofInt_sub x 1).symm) ?_
                refine lv_lstore (lv' := [(6, .long (Int64.ofInt (x - 1))), (4, .double (dw (F + 1) U)), (0, .double (dw E U)), (2, .int (kI (fb : Int))), (3, .int (kI (bi : Int)))]) hx hb dX5_bitsOf_79 hl (by decide) rfl (fun ls hl => ?_)
                refine lv_goto (tgt := 53) hx hb dX5_bitsOf_81 (by decide) ?_
                exact ih53 (F + 1) (x - 1) (by omega) (by omega) (by omega) _ _ G _ (lv_sub hl [2, 3, 4, 1, 0] rfl)
        exact lp53 1024 F x (by omega) (by omega) (by omega) _ _ G _ (lv_sub hl [0, 1, 2, 3, 4] rfl)
      · skip
        refine lv_lload hx hb dX5_bitsOf_24 (lv_at hl 4 rfl) ?_
        refine lv_ldc2 hx hb hown (hts _ qCon_X5_291) dX5_bitsOf_26 ?_
        refine lv_iload_n hx hb dX5_bitsOf_29 rfl (lv_at hl 2 rfl) ?_
        refine lv_i2l hx hb dX5_bitsOf_30 rfl ?_
        refine r_topL (b := Int64.ofInt (bi : Int)) (i2l_k ⟨by omega, by omega⟩) ?_
        refine lv_lmul hx hb dX5_bitsOf_31 ?_
        refine r_topL (b := Int64.ofInt (2 * (bi : Int))) (by rw [← kL_mul2]) ?_
        refine r_lge (tgt := 53) ⟨by omega, by omega⟩ ⟨by omega, by omega⟩ hx hb dX5_bitsOf_32 dX5_bitsOf_33 (by decide) (fun h_4 => ?_) (fun h_4 => ?_)
        · skip
          have lp53 : ∀ (d : Nat) (F : Nat) (x : Int), (x + F = bi + E) → (1 ≤ F ∧ F ≤ 1023) → (1023 - (F : Int) : Int) < (d : Int) → ∀ (H : Heap) (locs : List Loc), Wd D T z 139 σ s H locs → ∀ (ls : Array Slot), lv_has ls 10 [(0, .double (dw E U)), (2, .int (kI (fb : Int))), (3, .int (kI (bi : Int))), (4, .double (dw F U)), (6, .long (Int64.ofInt x))] → W p l e (rmN 0 0) s m ([.double (dw E U), .int (kI (fb : Int)), .int (kI (bi : Int))] : List Value).toArray below meth c H locs 0 0 (MQ below (QL D T z 139 (Int64.ofInt ((X * 2 ^ fb : Nat) : Int) + Int64.ofInt (V : Int)) σ) ([.double (dw E U), .int (kI (fb : Int)), .int (kI (bi : Int))] : List Value).toArray s 0 0 (Own z)) (F0 m 53 ls []) := by
            intro d
            induction d with
            | zero => intro F x h0 h1 hd; exact absurd hd (by omega)
            | succ d ih53 =>
              intro F x h0 h1 hd H locs G ls hl
              refine lv_dload hx hb dX5_bitsOf_53 (lv_at hl 3 rfl) ?_
              refine lv_dconst1 hx hb dX5_bitsOf_55 ?_
              refine r_topD d_one ?_
              refine r_dge (tgt := 84) (K := 1023) ⟨by omega, by omega⟩ hU (by decide) hx hb dX5_bitsOf_56 dX5_bitsOf_57 (by decide) (fun h_5 => ?_) (fun h_5 => ?_)
              · skip
                refine lv_dload hx hb dX5_bitsOf_84 (lv_at hl 3 rfl) ?_
                have hF : F = 1023 := by omega
                refine r_topD (b := dw 1023 U) (by rw [hF]) ?_
                refine lv_dconst1 hx hb dX5_bitsOf_86 ?_
                refine lv_dsub hx hb dX5_bitsOf_87 (by rw [d_one]; exact (d_fr hU hfb.1 hV).2.1) ?_
                refine lv_lconst (v := 1) hx hb dX5_bitsOf_88 rfl ?_
                refine lv_iload_n hx hb dX5_bitsOf_89 rfl (lv_at hl 1 rfl) ?_
                refine lv_lshl (v := Int64.ofInt ((2 ^ fb : Nat) : Int)) hx hb dX5_bitsOf_90 (by have := shl_fb (X := 1) hfb.1 (by decide); rw [Nat.one_mul] at this; exact this) ?_
                refine lv_l2d hx hb dX5_bitsOf_91 ?_
                refine lv_dmul hx hb dX5_bitsOf_92 (by rw [d_one]; exact (d_fr hU hfb.1 hV).2.2) ?_
                refine lv_d2l hx hb dX5_bitsOf_93 ?_
                refine r_topL (b := Int64.ofInt (V : Int)) (by rw [d_one]; exact (d_fr hU hfb.1 hV).1) ?_
                refine lv_lstore (lv' := [(8, .long (Int64.ofInt (V : Int))), (0, .double (dw E U)), (2, .int (kI (fb : Int))), (3, .int (kI (bi : Int))), (4, .double (dw F U)), (6, .long (Int64.ofInt x))]) hx hb dX5_bitsOf_94 hl (by decide) rfl (fun ls hl => ?_)
                refine lv_lload hx hb dX5_bitsOf_96 (lv_at hl 5 rfl) ?_
                refine lv_iload_n hx hb dX5_bitsOf_98 rfl (lv_at hl 2 rfl) ?_
                have hxx : x = (X : Int) := by omega
                refine lv_lshl (v := Int64.ofInt ((X * 2 ^ fb : Nat) : Int)) hx hb dX5_bitsOf_99 (by rw [hxx]; exact shl_fb hfb.1 (by omega)) ?_
                refine lv_lload hx hb dX5_bitsOf_100 (lv_at hl 0 rfl) ?_
                refine lv_ladd hx hb dX5_bitsOf_102 ?_
                exact r_lret hx hb hr hlk G (by first | rfl | omega) (by rfl) dX5_bitsOf_103
              · skip
                refine lv_lload hx hb dX5_bitsOf_60 (lv_at hl 4 rfl) ?_
                refine lv_lconst (v := 1) hx hb dX5_bitsOf_62 rfl ?_
                refine r_topL (b := Int64.ofInt (1)) (rfl) ?_
                refine r_lle (tgt := 84) ⟨by omega, by omega⟩ ⟨by omega, by omega⟩ hx hb dX5_bitsOf_63 dX5_bitsOf_64 (by decide) (fun h_6 => ?_) (fun h_6 => ?_)
                · skip
                  refine lv_dload hx hb dX5_bitsOf_84 (lv_at hl 3 rfl) ?_
                  have hF : F = 1023 := by omega
                  refine r_topD (b := dw 1023 U) (by rw [hF]) ?_
                  refine lv_dconst1 hx hb dX5_bitsOf_86 ?_
                  refine lv_dsub hx hb dX5_bitsOf_87 (by rw [d_one]; exact (d_fr hU hfb.1 hV).2.1) ?_
                  refine lv_lconst (v := 1) hx hb dX5_bitsOf_88 rfl ?_
                  refine lv_iload_n hx hb dX5_bitsOf_89 rfl (lv_at hl 1 rfl) ?_
                  refine lv_lshl (v := Int64.ofInt ((2 ^ fb : Nat) : Int)) hx hb dX5_bitsOf_90 (by have := shl_fb (X := 1) hfb.1 (by decide); rw [Nat.one_mul] at this; exact this) ?_
                  refine lv_l2d hx hb dX5_bitsOf_91 ?_
                  refine lv_dmul hx hb dX5_bitsOf_92 (by rw [d_one]; exact (d_fr hU hfb.1 hV).2.2) ?_
                  refine lv_d2l hx hb dX5_bitsOf_93 ?_
                  refine r_topL (b := Int64.ofInt (V : Int)) (by rw [d_one]; exact (d_fr hU hfb.1 hV).1) ?_
                  refine lv_lstore (lv' := [(8, .long (Int64.ofInt (V : Int))), (0, .double (dw E U)), (2, .int (kI (fb : Int))), (3, .int (kI (bi : Int))), (4, .double (dw F U)), (6, .long (Int64.ofInt x))]) hx hb dX5_bitsOf_94 hl (by decide) rfl (fun ls hl => ?_)
                  refine lv_lload hx hb dX5_bitsOf_96 (lv_at hl 5 rfl) ?_
                  refine lv_iload_n hx hb dX5_bitsOf_98 rfl (lv_at hl 2 rfl) ?_
                  have hxx : x = (X : Int) := by omega
                  refine lv_lshl (v := Int64.ofInt ((X * 2 ^ fb : Nat) : Int)) hx hb dX5_bitsOf_99 (by rw [hxx]; exact shl_fb hfb.1 (by omega)) ?_
                  refine lv_lload hx hb dX5_bitsOf_100 (lv_at hl 0 rfl) ?_
                  refine lv_ladd hx hb dX5_bitsOf_102 ?_
                  exact r_lret hx hb hr hlk G (by first | rfl | omega) (by rfl) dX5_bitsOf_103
                · skip
                  refine lv_dload hx hb dX5_bitsOf_67 (lv_at hl 3 rfl) ?_
                  refine lv_ldc2d (v := dw 1024 0) hx hb hown (hts _ qTwo) dX5_bitsOf_69 ?_
                  refine lv_dmul hx hb dX5_bitsOf_72 (by rw [dmul_2 (by omega) (by omega) hU]; exact n_dw (by omega) hU) ?_
                  refine r_topD (dmul_2 (by omega) (by omega) hU) ?_
                  refine lv_dstore (lv' := [(4, .double (dw (F + 1) U)), (0, .double (dw E U)), (2, .int (kI (fb : Int))), (3, .int (kI (bi : Int))), (6, .long (Int64.ofInt x))]) hx hb dX5_bitsOf_73 hl (by decide) rfl (fun ls hl => ?_)
                  refine lv_lload hx hb dX5_bitsOf_75 (lv_at hl 4 rfl) ?_
                  refine lv_lconst (v := 1) hx hb dX5_bitsOf_77 rfl ?_
                  refine lv_lsub hx hb dX5_bitsOf_78 ?_
                  refine r_topL (b := Int64.ofInt (x - 1)) ((Int64.ofInt_sub x 1).symm) ?_
                  refine lv_lstore (lv' := [(6, .long (Int64.ofInt (x - 1))), (4, .double (dw (F + 1) U)), (0, .double (dw E U)), (2, .int (kI (fb : Int))), (3, .int (kI (bi : Int)))]) hx hb dX5_bitsOf_79 hl (by decide) rfl (fun ls hl => ?_)
                  refine lv_goto (tgt := 53) hx hb dX5_bitsOf_81 (by decide) ?_
                  exact ih53 (F + 1) (x - 1) (by omega) (by omega) (by omega) _ _ G _ (lv_sub hl [2, 3, 4, 1, 0] rfl)
          exact lp53 1024 F x (by omega) (by omega) (by omega) _ _ G _ (lv_sub hl [0, 1, 2, 3, 4] rfl)
        · skip
          refine lv_dload hx hb dX5_bitsOf_36 (lv_at hl 3 rfl) ?_
          refine lv_ldc2d (v := dw 1024 0) hx hb hown (hts _ qTwo) dX5_bitsOf_38 ?_
          refine lv_ddiv hx hb dX5_bitsOf_41 (by rw [ddiv_2 (by omega) (by omega) hU]; exact n_dw (by omega) hU) ?_
          refine r_topD (ddiv_2 (by omega) (by omega) hU) ?_
          refine lv_dstore (lv' := [(4, .double (dw (F - 1) U)), (0, .double (dw E U)), (2, .int (kI (fb : Int))), (3, .int (kI (bi : Int))), (6, .long (Int64.ofInt x))]) hx hb dX5_bitsOf_42 hl (by decide) rfl (fun ls hl => ?_)
          refine lv_lload hx hb dX5_bitsOf_44 (lv_at hl 4 rfl) ?_
          refine lv_lconst (v := 1) hx hb dX5_bitsOf_46 rfl ?_
          refine lv_ladd hx hb dX5_bitsOf_47 ?_
          refine r_topL (b := Int64.ofInt (x + 1)) ((Int64.ofInt_add x 1).symm) ?_
          refine lv_lstore (lv' := [(6, .long (Int64.ofInt (x + 1))), (4, .double (dw (F - 1) U)), (0, .double (dw E U)), (2, .int (kI (fb : Int))), (3, .int (kI (bi : Int)))]) hx hb dX5_bitsOf_48 hl (by decide) rfl (fun ls hl => ?_)
          refine lv_goto (tgt := 15) hx hb dX5_bitsOf_50 (by decide) ?_
          exact ih15 (F - 1) (x + 1) (by omega) (by omega) (by omega) (by omega) _ _ G _ (lv_sub hl [2, 3, 4, 1, 0] rfl)
  exact lp15 2047 E (bi : Int) (by omega) (by omega) (by omega) (by omega) _ _ G _ (lv_sub hl [2, 3, 4, 1, 0] rfl)
