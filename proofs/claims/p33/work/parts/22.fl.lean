/-! answers that are longs, doubles, floats -/
section LDF
variable {p : Program} {l : Launch} {e : Env} {R : Room} {s : State} {m : MethodId} {args : Array Value} {below : List Frame} {meth : Method} {c : Code} {H : Heap} {locs : List Loc} {cells slots : Nat} {Q : State → Prop}
variable {cc : ByteArray} {pc : Nat} {ls : Array Slot} {rest st : List Value} {D : va_G} {T : Nat → ClassId} {z n : Nat} {σ τ τ' : Mem}
abbrev QL (D : va_G) (T : Nat → ClassId) (z n : Nat) (ret : Int64) (τ : Mem) : Array Value → State → Outcome → State → Prop := va_Ql (fun (r : Int64) (u : Mem) => r = ret ∧ u = τ) (fun u => St D T z n u) (Own T z)
def CtL (l : Launch) (y : MethodName) (cw : Cond) (fr lo : Nat) (As : Nat → List Value) (σ : Mem) (ret : Int64) (τ : Mem) : Prop := ∀ (D : va_G) (T : Nat → ClassId) (z : Nat), Met l y (cw :: Gw) (rmN fr lo) (va_Pc (As z) (St D T z 133 σ)) (QL D T z 133 ret τ) 0 0 (Own T z)
theorem r_lret (hx : p.tables.exec = Jvm.exec) (hb : c.code = cc) (hr : meth.sig.returnType = some .long) (hlk : meth.locks = false) (G : Wd D T z n τ' s H locs) {v ret : Int64} (hv : v = ret) (hτ : τ' = τ) (hdg : decode cc pc = .ok (.lreturn, 1)) : W p l e R s m args below meth c H locs cells slots (MQ below (QL D T z n ret τ) args s cells slots (Own T z)) (F0 m pc ls [.long v]) := by
  subst hv; subst hτ
  exact W.lret hx hb hr (fun t ht hW => ⟨⟨v, τ', rfl, ⟨rfl, rfl⟩, G.st ht hW.alike⟩, G.2.2.1.F ht⟩) G.2.2.1.2.2 hdg hlk
section CALLS
variable {own C : String} {idx na maxL nL fr lo a0 : Nat} {y : MethodName} {bytes : ByteArray} {rt : Option FieldType} {As As' : List Value} {ret : Int64}
theorem r_callVL (S : CallFix p m c cc nL s args Gw own) (G : Wd D T z 133 σ s H locs) {Az : Nat → List Value} (hM : CtL l y (Cond.code y bytes maxL rt) fr lo Az σ ret τ) (cw : CallW R s args own C idx y bytes maxL rt (Cond.code y bytes maxL rt :: Gw) (rmN fr lo) 0 0 na) (hrv : ∃ cell : Cell, H[a0]? = some cell ∧ cell.vm.isStatics = false ∧ s.vm.findClass C = some cell.cls)
    (hAs : Az z = .ref a0 :: As') (hn : As'.length = na) (hsz : ls.size = nL) (hst : st = As'.reverse ++ .ref a0 :: rest) (hW : (rest.map fun v => v.category).sum ≤ 8) (hdg : decode cc pc = .ok (.invokevirtual idx, 3)) (hf : cells ≤ R.cells ∧ slots ≤ R.slots)
    (kk : ∀ (H1 : Heap) (locs1 : List Loc), Wd D T z 133 τ s H1 locs1 → W p l e R s m args below meth c H1 locs1 cells slots Q (F0 m (pc + 3) ls (.long ret :: rest))) : W p l e R s m args below meth c H locs cells slots Q (F0 m pc ls st) := by
  refine va_calll (va_runV (As := As') (rest := rest) (g := F0 m pc ls st) S (hM D T z) cw ⟨St_blind, hrv, fun U hU hWm => ⟨by rw [hAs], G.st hU hWm.alike⟩⟩ rfl hn hsz hst (lv_room (pc := pc) (ls := ls) (rest := st) hW) hdg hf) G.2.2.1 (fun q _ h => h) (fun q h => h) (fun r u t H1 locs1 ht hvm hw hB hz1 hk1 hS => ?_)
  obtain ⟨rfl, rfl⟩ := hw
  exact kk H1 locs1 (G.next hB ht hS)
theorem r_callSL (S : CallFix p m c cc nL s args Gw own) (G : Wd D T z 133 σ s H locs) {Az : Nat → List Value} (hM : CtL l y (Cond.code y bytes maxL rt) fr lo Az σ ret τ) (cw : CallB R s args own idx y bytes maxL rt (Cond.code y bytes maxL rt :: Gw) (rmN fr lo) 0 0 na ∧ (Cond.static y).before args s = true)
    (hAs : Az z = As') (hn : As'.length = na) (hsz : ls.size = nL) (hst : st = As'.reverse ++ rest) (hW : (rest.map fun v => v.category).sum ≤ 8) (hdg : decode cc pc = .ok (.invokestatic idx, 3)) (hf : cells ≤ R.cells ∧ slots ≤ R.slots)
    (kk : ∀ (H1 : Heap) (locs1 : List Loc), Wd D T z 133 τ s H1 locs1 → W p l e R s m args below meth c H1 locs1 cells slots Q (F0 m (pc + 3) ls (.long ret :: rest))) : W p l e R s m args below meth c H locs cells slots Q (F0 m pc ls st) := by
  refine va_calll (va_runS (As := As') (rest := rest) (g := F0 m pc ls st) S (hM D T z) cw ⟨St_blind, fun U hU hWm => ⟨by rw [hAs], G.st hU hWm.alike⟩⟩ rfl hn hsz hst (lv_room (pc := pc) (ls := ls) (rest := st) hW) hdg hf) G.2.2.1 (fun q _ h => h) (fun q h => h) (fun r u t H1 locs1 ht hvm hw hB hz1 hk1 hS => ?_)
  obtain ⟨rfl, rfl⟩ := hw
  exact kk H1 locs1 (G.next hB ht hS)
end CALLS
abbrev QD (D : va_G) (T : Nat → ClassId) (z n : Nat) (ret : UInt64) (τ : Mem) : Array Value → State → Outcome → State → Prop := va_Qd (fun (r : UInt64) (u : Mem) => r = ret ∧ u = τ) (fun u => St D T z n u) (Own T z)
def CtD (l : Launch) (y : MethodName) (cw : Cond) (fr lo : Nat) (As : Nat → List Value) (σ : Mem) (ret : UInt64) (τ : Mem) : Prop := ∀ (D : va_G) (T : Nat → ClassId) (z : Nat), Met l y (cw :: Gw) (rmN fr lo) (va_Pc (As z) (St D T z 133 σ)) (QD D T z 133 ret τ) 0 0 (Own T z)
theorem r_dret (hx : p.tables.exec = Jvm.exec) (hb : c.code = cc) (hr : meth.sig.returnType = some .double) (hlk : meth.locks = false) (G : Wd D T z n τ' s H locs) {v ret : UInt64} (hv : v = ret) (hτ : τ' = τ) (hdg : decode cc pc = .ok (.dreturn, 1)) : W p l e R s m args below meth c H locs cells slots (MQ below (QD D T z n ret τ) args s cells slots (Own T z)) (F0 m pc ls [.double v]) := by
  subst hv; subst hτ
  exact W.dret hx hb hr (fun t ht hW => ⟨⟨v, τ', rfl, ⟨rfl, rfl⟩, G.st ht hW.alike⟩, G.2.2.1.F ht⟩) G.2.2.1.2.2 hdg hlk
section CALLS
variable {own C : String} {idx na maxL nL fr lo a0 : Nat} {y : MethodName} {bytes : ByteArray} {rt : Option FieldType} {As As' : List Value} {ret : UInt64}
theorem r_callVD (S : CallFix p m c cc nL s args Gw own) (G : Wd D T z 133 σ s H locs) {Az : Nat → List Value} (hM : CtD l y (Cond.code y bytes maxL rt) fr lo Az σ ret τ) (cw : CallW R s args own C idx y bytes maxL rt (Cond.code y bytes maxL rt :: Gw) (rmN fr lo) 0 0 na) (hrv : ∃ cell : Cell, H[a0]? = some cell ∧ cell.vm.isStatics = false ∧ s.vm.findClass C = some cell.cls)
    (hAs : Az z = .ref a0 :: As') (hn : As'.length = na) (hsz : ls.size = nL) (hst : st = As'.reverse ++ .ref a0 :: rest) (hW : (rest.map fun v => v.category).sum ≤ 8) (hdg : decode cc pc = .ok (.invokevirtual idx, 3)) (hf : cells ≤ R.cells ∧ slots ≤ R.slots)
    (kk : ∀ (H1 : Heap) (locs1 : List Loc), Wd D T z 133 τ s H1 locs1 → W p l e R s m args below meth c H1 locs1 cells slots Q (F0 m (pc + 3) ls (.double ret :: rest))) : W p l e R s m args below meth c H locs cells slots Q (F0 m pc ls st) := by
  refine va_calld (va_runV (As := As') (rest := rest) (g := F0 m pc ls st) S (hM D T z) cw ⟨St_blind, hrv, fun U hU hWm => ⟨by rw [hAs], G.st hU hWm.alike⟩⟩ rfl hn hsz hst (lv_room (pc := pc) (ls := ls) (rest := st) hW) hdg hf) G.2.2.1 (fun q _ h => h) (fun q h => h) (fun r u t H1 locs1 ht hvm hw hB hz1 hk1 hS => ?_)
  obtain ⟨rfl, rfl⟩ := hw
  exact kk H1 locs1 (G.next hB ht hS)
theorem r_callSD (S : CallFix p m c cc nL s args Gw own) (G : Wd D T z 133 σ s H locs) {Az : Nat → List Value} (hM : CtD l y (Cond.code y bytes maxL rt) fr lo Az σ ret τ) (cw : CallB R s args own idx y bytes maxL rt (Cond.code y bytes maxL rt :: Gw) (rmN fr lo) 0 0 na ∧ (Cond.static y).before args s = true)
    (hAs : Az z = As') (hn : As'.length = na) (hsz : ls.size = nL) (hst : st = As'.reverse ++ rest) (hW : (rest.map fun v => v.category).sum ≤ 8) (hdg : decode cc pc = .ok (.invokestatic idx, 3)) (hf : cells ≤ R.cells ∧ slots ≤ R.slots)
    (kk : ∀ (H1 : Heap) (locs1 : List Loc), Wd D T z 133 τ s H1 locs1 → W p l e R s m args below meth c H1 locs1 cells slots Q (F0 m (pc + 3) ls (.double ret :: rest))) : W p l e R s m args below meth c H locs cells slots Q (F0 m pc ls st) := by
  refine va_calld (va_runS (As := As') (rest := rest) (g := F0 m pc ls st) S (hM D T z) cw ⟨St_blind, fun U hU hWm => ⟨by rw [hAs], G.st hU hWm.alike⟩⟩ rfl hn hsz hst (lv_room (pc := pc) (ls := ls) (rest := st) hW) hdg hf) G.2.2.1 (fun q _ h => h) (fun q h => h) (fun r u t H1 locs1 ht hvm hw hB hz1 hk1 hS => ?_)
  obtain ⟨rfl, rfl⟩ := hw
  exact kk H1 locs1 (G.next hB ht hS)
end CALLS
abbrev QF (D : va_G) (T : Nat → ClassId) (z n : Nat) (ret : UInt32) (τ : Mem) : Array Value → State → Outcome → State → Prop := va_Qf (fun (r : UInt32) (u : Mem) => r = ret ∧ u = τ) (fun u => St D T z n u) (Own T z)
def CtF (l : Launch) (y : MethodName) (cw : Cond) (fr lo : Nat) (As : Nat → List Value) (σ : Mem) (ret : UInt32) (τ : Mem) : Prop := ∀ (D : va_G) (T : Nat → ClassId) (z : Nat), Met l y (cw :: Gw) (rmN fr lo) (va_Pc (As z) (St D T z 133 σ)) (QF D T z 133 ret τ) 0 0 (Own T z)
theorem r_fret (hx : p.tables.exec = Jvm.exec) (hb : c.code = cc) (hr : meth.sig.returnType = some .float) (hlk : meth.locks = false) (G : Wd D T z n τ' s H locs) {v ret : UInt32} (hv : v = ret) (hτ : τ' = τ) (hdg : decode cc pc = .ok (.freturn, 1)) : W p l e R s m args below meth c H locs cells slots (MQ below (QF D T z n ret τ) args s cells slots (Own T z)) (F0 m pc ls [.float v]) := by
  subst hv; subst hτ
  exact W.fret hx hb hr (fun t ht hW => ⟨⟨v, τ', rfl, ⟨rfl, rfl⟩, G.st ht hW.alike⟩, G.2.2.1.F ht⟩) G.2.2.1.2.2 hdg hlk
section CALLS
variable {own C : String} {idx na maxL nL fr lo a0 : Nat} {y : MethodName} {bytes : ByteArray} {rt : Option FieldType} {As As' : List Value} {ret : UInt32}
theorem r_callVF (S : CallFix p m c cc nL s args Gw own) (G : Wd D T z 133 σ s H locs) {Az : Nat → List Value} (hM : CtF l y (Cond.code y bytes maxL rt) fr lo Az σ ret τ) (cw : CallW R s args own C idx y bytes maxL rt (Cond.code y bytes maxL rt :: Gw) (rmN fr lo) 0 0 na) (hrv : ∃ cell : Cell, H[a0]? = some cell ∧ cell.vm.isStatics = false ∧ s.vm.findClass C = some cell.cls)
    (hAs : Az z = .ref a0 :: As') (hn : As'.length = na) (hsz : ls.size = nL) (hst : st = As'.reverse ++ .ref a0 :: rest) (hW : (rest.map fun v => v.category).sum ≤ 8) (hdg : decode cc pc = .ok (.invokevirtual idx, 3)) (hf : cells ≤ R.cells ∧ slots ≤ R.slots)
    (kk : ∀ (H1 : Heap) (locs1 : List Loc), Wd D T z 133 τ s H1 locs1 → W p l e R s m args below meth c H1 locs1 cells slots Q (F0 m (pc + 3) ls (.float ret :: rest))) : W p l e R s m args below meth c H locs cells slots Q (F0 m pc ls st) := by
  refine va_callf (va_runV (As := As') (rest := rest) (g := F0 m pc ls st) S (hM D T z) cw ⟨St_blind, hrv, fun U hU hWm => ⟨by rw [hAs], G.st hU hWm.alike⟩⟩ rfl hn hsz hst (lv_room (pc := pc) (ls := ls) (rest := st) hW) hdg hf) G.2.2.1 (fun q _ h => h) (fun q h => h) (fun r u t H1 locs1 ht hvm hw hB hz1 hk1 hS => ?_)
  obtain ⟨rfl, rfl⟩ := hw
  exact kk H1 locs1 (G.next hB ht hS)
theorem r_callSF (S : CallFix p m c cc nL s args Gw own) (G : Wd D T z 133 σ s H locs) {Az : Nat → List Value} (hM : CtF l y (Cond.code y bytes maxL rt) fr lo Az σ ret τ) (cw : CallB R s args own idx y bytes maxL rt (Cond.code y bytes maxL rt :: Gw) (rmN fr lo) 0 0 na ∧ (Cond.static y).before args s = true)
    (hAs : Az z = As') (hn : As'.length = na) (hsz : ls.size = nL) (hst : st = As'.reverse ++ rest) (hW : (rest.map fun v => v.category).sum ≤ 8) (hdg : decode cc pc = .ok (.invokestatic idx, 3)) (hf : cells ≤ R.cells ∧ slots ≤ R.slots)
    (kk : ∀ (H1 : Heap) (locs1 : List Loc), Wd D T z 133 τ s H1 locs1 → W p l e R s m args below meth c H1 locs1 cells slots Q (F0 m (pc + 3) ls (.float ret :: rest))) : W p l e R s m args below meth c H locs cells slots Q (F0 m pc ls st) := by
  refine va_callf (va_runS (As := As') (rest := rest) (g := F0 m pc ls st) S (hM D T z) cw ⟨St_blind, fun U hU hWm => ⟨by rw [hAs], G.st hU hWm.alike⟩⟩ rfl hn hsz hst (lv_room (pc := pc) (ls := ls) (rest := st) hW) hdg hf) G.2.2.1 (fun q _ h => h) (fun q h => h) (fun r u t H1 locs1 ht hvm hw hB hz1 hk1 hS => ?_)
  obtain ⟨rfl, rfl⟩ := hw
  exact kk H1 locs1 (G.next hB ht hS)
end CALLS
theorem r_topL {a b : Int64} (h : a = b) (k : W p l e R s m args below meth c H locs cells slots Q (F0 m pc ls (.long b :: rest))) : W p l e R s m args below meth c H locs cells slots Q (F0 m pc ls (.long a :: rest)) := h ▸ k
theorem r_topD {a b : UInt64} (h : a = b) (k : W p l e R s m args below meth c H locs cells slots Q (F0 m pc ls (.double b :: rest))) : W p l e R s m args below meth c H locs cells slots Q (F0 m pc ls (.double a :: rest)) := h ▸ k
end LDF
theorem hma_rg {σ : Mem} {w : Int} : 0 ≤ hma σ w ∧ hma σ w ≤ 64 := by
  unfold hma
  have e : it (fun k v => v + hm σ k w) (0 : Int) 4 = 0 + hm σ 0 w + hm σ 1 w + hm σ 2 w + hm σ 3 w := rfl
  have h0 := hm_rg (σ := σ) (k := 0) (w := w)
  have h1 := hm_rg (σ := σ) (k := 1) (w := w)
  have h2 := hm_rg (σ := σ) (k := 2) (w := w)
  have h3 := hm_rg (σ := σ) (k := 3) (w := w)
  rw [e]; omega
theorem hra_rg {σ : Mem} : 0 ≤ hra σ ∧ hra σ ≤ 64 := by
  unfold hra
  have e : it (fun k v => v + hrp σ k) (0 : Int) 4 = 0 + hrp σ 0 + hrp σ 1 + hrp σ 2 + hrp σ 3 := rfl
  have h0 := hrp_rg (σ := σ) (k := 0)
  have h1 := hrp_rg (σ := σ) (k := 1)
  have h2 := hrp_rg (σ := σ) (k := 2)
  have h3 := hrp_rg (σ := σ) (k := 3)
  rw [e]; omega
/-- the share -/
def shW (a b : Int) : UInt64 := if b = 0 then FP.dconst1 else FP.ddiv (FP.i2d (kI a)) (FP.i2d (kI b))
def shq (a b : Nat) : UInt64 := FP.ddiv (FP.i2d (kI (a : Int))) (FP.i2d (kI (b : Int)))
def shn (r : UInt64) : Bool := decide (r &&& 0x7fffffffffffffff ≤ 0x7ff0000000000000)
theorem shn_ok {r : UInt64} (h : shn r = true) : vf_n64 r := by
  have h2 : r &&& 0x7fffffffffffffff ≤ 0x7ff0000000000000 := of_decide_eq_true h
  exact h2
def sh_t (a b : Nat) : Bool := shn (shq a b) && (decide (Op.cmpValue (FP.dcmp (shq a b) FP.dconst0) .l ≤ 0) == decide (a ≤ 0)) && decide (a ≤ b → ¬ 0 < Op.cmpValue (FP.dcmp (shq a b) FP.dconst1) .g)
theorem sh_all : ∀ a : Fin 65, ∀ b : Fin 65, 0 < b.val → sh_t a.val b.val = true := by decide +kernel
theorem sh_ok {a b : Int} (ha : 0 ≤ a ∧ a ≤ 64) (hb : 1 ≤ b ∧ b ≤ 64) : vf_n64 (FP.ddiv (FP.i2d (kI a)) (FP.i2d (kI b))) ∧ (Op.cmpValue (FP.dcmp (FP.ddiv (FP.i2d (kI a)) (FP.i2d (kI b))) FP.dconst0) .l ≤ 0 ↔ a ≤ 0) ∧ (a ≤ b → ¬ 0 < Op.cmpValue (FP.dcmp (FP.ddiv (FP.i2d (kI a)) (FP.i2d (kI b))) FP.dconst1) .g) := by
  obtain ⟨m, rfl⟩ := Int.eq_ofNat_of_zero_le ha.1
  obtain ⟨n, rfl⟩ := Int.eq_ofNat_of_zero_le (show 0 ≤ b by omega)
  have h := sh_all ⟨m, by omega⟩ ⟨n, by omega⟩ (by show 0 < n; omega)
  unfold sh_t at h
  simp only [Bool.and_eq_true, decide_eq_true_eq, beq_iff_eq, decide_eq_decide] at h
  exact ⟨shn_ok h.1.1, by rw [show FP.ddiv (FP.i2d (kI (m : Int))) (FP.i2d (kI (n : Int))) = shq m n from rfl, h.1.2]; omega, fun q => h.2 (by omega)⟩
theorem sh_11 : Op.cmpValue (FP.dcmp FP.dconst1 FP.dconst1) .l = 0 ∧ Op.cmpValue (FP.dcmp FP.dconst1 FP.dconst1) .g = 0 := by decide +kernel
theorem vf_d1 : vf_n64 FP.dconst1 := shn_ok (by decide +kernel)
set_option maxRecDepth 100000 in
set_option maxHeartbeats 4000000 in
theorem k_X3_shareOfRipe (l : Launch) {σ : Mem} (hI : IC σ) : CtD l yX3_shareOfRipe (Cond.code yX3_shareOfRipe cX3_shareOfRipe 2 (some .double)) 3 69 (fun z => [.ref (z + 2)]) σ (shW (hra σ) (hma σ 2)) σ := by
  intro D T z
  refine Ct_of (by decide) (Nat.le_of_ble_eq_true rfl) ?_
  intro p e s m below meth c ls hx hb hml hr hts hown hlk G hl
  have hown : s.vm.findClass RX3 = some m.cls := hown
  have hl : lv_has ls 2 [(0, .ref (z + 2))] := hl
  have h1 := hma_rg (σ := σ) (w := 2)
  have h2 := hra_rg (σ := σ)
  refine lv_aload_n hx hb dX3_shareOfRipe_0 rfl (lv_at hl 0 rfl) ?_
  refine r_iconst hx hb dX3_shareOfRipe_1 ?_
  refine r_callVI ⟨hx, hb, hml, hown, hts⟩ G (k_X3_howManyOfAll l (w := 2) (σ := σ) (⟨by decide, by decide⟩) (hI)) (kV_X3_howManyOfAll hts qM_X3_80 ⟨by decide, by decide⟩) (rc_X3 G) rfl rfl hl.1 rfl (Nat.le_of_ble_eq_true rfl) dX3_shareOfRipe_2 ⟨Nat.le_refl _, Nat.le_refl _⟩ (fun H locs G => ?_)
  refine lv_istore_n (lv' := [(1, .int (kI (hma σ 2))), (0, .ref (z + 2))]) hx hb dX3_shareOfRipe_5 rfl hl (by decide) rfl (fun ls hl => ?_)
  refine lv_iload_n hx hb dX3_shareOfRipe_6 rfl (lv_at hl 0 rfl) ?_
  refine r_if_ne (tgt := 14) hx hb ⟨by omega, by omega⟩ dX3_shareOfRipe_7 (by decide) (fun h_1 => ?_) (fun h_1 => ?_)
  · skip
    refine lv_aload_n hx hb dX3_shareOfRipe_14 rfl (lv_at hl 1 rfl) ?_
    refine r_callVI ⟨hx, hb, hml, hown, hts⟩ G (k_X3_howManyRipeOfAll l (σ := σ) (hI)) (kV_X3_howManyRipeOfAll hts qM_X3_83 ⟨by decide, by decide⟩) (rc_X3 G) rfl rfl hl.1 rfl (Nat.le_of_ble_eq_true rfl) dX3_shareOfRipe_15 ⟨Nat.le_refl _, Nat.le_refl _⟩ (fun H locs G => ?_)
    refine lv_i2d hx hb dX3_shareOfRipe_18 ?_
    refine lv_iload_n hx hb dX3_shareOfRipe_19 rfl (lv_at hl 0 rfl) ?_
    refine lv_i2d hx hb dX3_shareOfRipe_20 ?_
    refine lv_ddiv hx hb dX3_shareOfRipe_21 ((sh_ok ⟨by omega, by omega⟩ ⟨by omega, by omega⟩).1) ?_
    exact r_dret hx hb hr hlk G (by unfold shW; first | exact (if_pos (by omega)).symm | exact (if_neg (by omega)).symm) (by rfl) dX3_shareOfRipe_22
  · skip
    refine lv_dconst1 hx hb dX3_shareOfRipe_10 ?_
    refine lv_goto (tgt := 22) hx hb dX3_shareOfRipe_11 (by decide) ?_
    exact r_dret hx hb hr hlk G (by unfold shW; first | exact (if_pos (by omega)).symm | exact (if_neg (by omega)).symm) (by rfl) dX3_shareOfRipe_22
set_option maxRecDepth 100000 in
set_option maxHeartbeats 4000000 in
theorem k_X5_ripeShare (l : Launch) {σ : Mem} (hS : IS σ) : CtD l yX5_ripeShare (Cond.code yX5_ripeShare cX5_ripeShare 1 (some .double)) 4 90 (fun z => [.ref (z + 0)]) σ (shW (hra σ) (hma σ 2)) σ := by
  intro D T z
  refine Ct_of (by decide) (Nat.le_of_ble_eq_true rfl) ?_
  intro p e s m below meth c ls hx hb hml hr hts hown hlk G hl
  have hown : s.vm.findClass RX5 = some m.cls := hown
  have hl : lv_has ls 1 [(0, .ref (z + 0))] := hl
  refine lv_aload_n hx hb dX5_ripeShare_0 rfl (lv_at hl 0 rfl) ?_
  refine gf_X5_10 hx hb hts hown G dX5_ripeShare_1 ?_
  refine gf_X5_80 hx hb hts hown G dX5_ripeShare_4 ?_
  refine r_callVD ⟨hx, hb, hml, hown, hts⟩ G (k_X3_shareOfRipe l (σ := σ) (hS.1)) (kV_X3_shareOfRipe hts qM_X5_206 ⟨by decide, by decide⟩) (rc_X3 G) rfl rfl hl.1 rfl (Nat.le_of_ble_eq_true rfl) dX5_ripeShare_7 ⟨Nat.le_refl _, Nat.le_refl _⟩ (fun H locs G => ?_)
  exact r_dret hx hb hr hlk G (by first | rfl | omega) (by rfl) dX5_ripeShare_10
