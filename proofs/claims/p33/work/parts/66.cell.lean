/-! THE LAW'S cell: an int of the script, or one made up behind its end -/
def cel (xs : Nat → Int32) (L : Nat) (i : Int) : Int32 := (if i < (L : Int) then xs i.toNat else kI (49409 * (i % 4096) + 359)) &&& kI 2147483647
theorem and_pos (x : Int32) : ∃ v : Int, 0 ≤ v ∧ v ≤ 2147483647 ∧ x &&& kI 2147483647 = kI v := by
  have h : (x &&& kI 2147483647).toBitVec.toNat ≤ 2147483647 := by
    rw [Int32.toBitVec_and, BitVec.toNat_and]
    exact Nat.le_trans Nat.and_le_right (Nat.le_of_eq (by decide))
  have e : (x &&& kI 2147483647).toInt = ((x &&& kI 2147483647).toBitVec.toNat : Int) := by
    show (x &&& kI 2147483647).toBitVec.toInt = _
    rw [BitVec.toInt_eq_toNat_cond, if_pos (by omega)]
  exact ⟨(x &&& kI 2147483647).toInt, by omega, by omega, (kI_self _).symm⟩
set_option maxRecDepth 100000 in
set_option maxHeartbeats 4000000 in
theorem k_L_cell (l : Launch) {xs : Nat → Int32} {b L : Nat} {i : Int} (hL : L ≤ 260) (hi : 0 ≤ i ∧ i ≤ 1000) : Met l yL_cell (Cond.code yL_cell cL_cell 2 (some .int) :: Gw) (rmN 0 0) (va_Pc [.ref b, .int (kI i)] (fun U => va_X b L xs U U.heap ∧ b < U.heap.size)) (va_Qi (fun (r : Int32) (_ : Unit) => r = cel xs L i) (fun _ _ => True) (fun _ => False)) 0 0 (fun _ => False) := by
  refine Met.ofW (cc := cL_cell) (maxL := 2) (ret := some .int) (by decide) rfl ?_
  intro p e s m args below meth c s₁ B hml hv
  obtain ⟨rfl, hX, hbl⟩ := hv
  have hts0 := atoms_spec (ws := Cond.code yL_cell cL_cell 2 (some .int) :: Gw) B.pre
  have hts : ∀ w ∈ Gw, w.before ([Value.ref b, .int (kI i)] : List Value).toArray s = true := fun w h => hts0 w (List.mem_cons_of_mem _ h)
  have hx := B.exec
  have hb := B.bytes
  have hr := B.returns
  have hlk := B.notSynchronized
  have hown : s.vm.findClass RL = some m.cls := findClass_of_methodNamed B.named
  have hl := lv_entry [Value.ref b, .int (kI i)] (n := 2) (Nat.le_of_ble_eq_true rfl)
  rw [lg_entry_eq]
  generalize (lg_sl [Value.ref b, .int (kI i)] ++ List.replicate (2 - (lg_sl [Value.ref b, .int (kI i)]).length) Slot.unset).toArray = ls at hl ⊢
  have hl : lv_has ls 2 [(0, .ref b), (1, .int (kI i))] := hl
  have hS : va_S (fun _ => False) s.heap s.heap [] := va_S.rf
  have eL : Int32.ofNat L = kI (L : Int) := by first | rfl | exact (Int32.ofInt_eq_ofNat).symm
  have fin : ∀ x : Int32, (if i < (L : Int) then xs i.toNat else kI (49409 * (i % 4096) + 359)) = x → W p l e (rmN 0 0) s m ([Value.ref b, .int (kI i)] : List Value).toArray below meth c s.heap [] 0 0 (MQ below (va_Qi (fun (r : Int32) (_ : Unit) => r = cel xs L i) (fun _ _ => True) (fun _ => False)) ([Value.ref b, .int (kI i)] : List Value).toArray s 0 0 (fun _ => False)) (F0 m 24 ls [.int x]) := by
    intro x hx0
    refine r_ldc (n := 2147483647) hx hb hts hown qCon_L_8 (by decide) dL_cell_24 ?_
    refine lv_iand hx hb dL_cell_26 ?_
    exact W.iret hx hb hr (fun t ht hW => ⟨⟨x &&& kI 2147483647, (), rfl, (by unfold cel; rw [hx0]), trivial⟩, hS.F ht⟩) hS.2.2 dL_cell_27 hlk
  refine lv_iload_n hx hb dL_cell_0 rfl (lv_at hl 1 rfl) ?_
  refine lv_aload_n hx hb dL_cell_1 rfl (lv_at hl 0 rfl) ?_
  refine va_slen hx hb hX hbl (fun h => h) hS dL_cell_2 ?_
  rw [eL]
  refine r_icmp_ge (tgt := 12) hx hb ⟨by omega, by omega⟩ ⟨by omega, by omega⟩ dL_cell_3 (by decide) (fun h => ?_) (fun h => ?_)
  · refine r_ldc (n := 49409) hx hb hts hown qCon_L_7 (by decide) dL_cell_12 ?_
    refine lv_iload_n hx hb dL_cell_14 rfl (lv_at hl 1 rfl) ?_
    refine r_sipush hx hb dL_cell_15 (by decide +kernel) ?_
    refine r_irem hx hb dL_cell_18 (by omega) (by omega) (by omega) (by omega) ?_
    refine r_imul hx hb dL_cell_19 ?_
    refine r_sipush hx hb dL_cell_20 (by decide +kernel) ?_
    refine r_iadd hx hb dL_cell_23 ?_
    exact fin _ (if_neg (by omega))
  · refine lv_aload_n hx hb dL_cell_6 rfl (lv_at hl 0 rfl) ?_
    refine lv_iload_n hx hb dL_cell_7 rfl (lv_at hl 1 rfl) ?_
    refine va_sld hx hb hX hbl (fun h => h) hS (kI_in hi.1 (by omega) (by omega)) dL_cell_8 ?_
    rw [kI_cn hi.1 (by omega)]
    refine lv_goto (tgt := 24) hx hb dL_cell_9 (by decide) ?_
    exact fin _ (if_pos (by omega))
section CELLR
variable {p : Program} {l : Launch} {e : Env} {R : Room} {s : State} {m : MethodId} {args : Array Value} {below : List Frame} {meth : Method} {c : Code} {H : Heap} {locs : List Loc} {cells slots : Nat} {Q : State → Prop}
variable {cc : ByteArray} {pc : Nat} {ls : Array Slot} {rest st : List Value} {D : va_G} {T : Nat → ClassId} {z b L nL idx : Nat} {σ : Mem} {xs : Nat → Int32} {own : String} {i : Int}
theorem r_callCell (S : CallFix p m c cc nL s args Gw own) (G : Wd D T z 133 σ s H locs) (hbz : b < z) (hX : va_X b L xs s s.heap) (hbl : b < s.heap.size) (hL : L ≤ 260) (hi : 0 ≤ i ∧ i ≤ 1000) (hk : Cond.methodLink own idx yL_cell ∈ Gw) (hR : 0 + 1 ≤ R.frames ∧ 8 + (2 + 11) + 0 ≤ R.locals) (hsz : ls.size = nL) (hst : st = .int (kI i) :: .ref b :: rest) (hW : (rest.map fun v => v.category).sum ≤ 8) (hdg : decode cc pc = .ok (.invokestatic idx, 3)) (hf : cells ≤ R.cells ∧ slots ≤ R.slots)
    (kk : ∀ (H1 : Heap) (locs1 : List Loc), Wd D T z 133 σ s H1 locs1 → W p l e R s m args below meth c H1 locs1 cells slots Q (F0 m (pc + 3) ls (.int (cel xs L i) :: rest))) : W p l e R s m args below meth c H locs cells slots Q (F0 m pc ls st) := by
  have hts := S.2.2.2.2
  refine va_calli (va_runS (As := [.ref b, .int (kI i)]) (rest := rest) (g := F0 m pc ls st) S (k_L_cell l (xs := xs) (b := b) hL hi) (cS (na := 2) hts hk qS_L_cell qN_L qC_L_cell (by decide +kernel) hR) ⟨fun a U g mk h => ⟨h.1, va_X.moved (Vm.Alike.refl U.vm) h.2.1, h.2.2⟩, fun U hU hWm => ⟨rfl, va_X.moved hWm.alike (hX.kept (by rw [hU]; exact G.2.2.1.2.1 b hbl (fun o => by have := o.1; omega))), by rw [hU]; exact Nat.lt_of_lt_of_le hbl G.2.2.1.1⟩⟩ rfl rfl hsz hst (lv_room (pc := pc) (ls := ls) (rest := st) hW) hdg hf) G.2.2.1 (fun q _ h => h.elim) (fun q h => h.elim) (fun r u t H1 locs1 ht hvm hw hB hz1 hk1 hS => ?_)
  subst hw
  exact kk H1 locs1 ⟨G.1.kept (fun k q hk => hk1 q.1 (G.1 k q hk).lt (fun f => f)), G.2.1, hS, G.2.2.2⟩
end CELLR
