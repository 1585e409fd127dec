/-! THE CLAIM OUT OF ONE WALK OF THE LAW'S BODY. Your part is whole_start (and what it stands on); all else here is the same for every law, but numbers. -/
def R_law : String := "CompostKeysLaw"
def lw_P (b : Addr) (xs : List Int32) (args : Array Value) (s : State) : Prop := args = #[.ref b] ∧ s.IntsAt b xs ∧ xs.length ≤ 2048 ∧ (Jvm.Cond.and given_1 narrow_1).before args s = true
/-- what a walk over the start with the record d0 says of its end, said of the start itself -/
theorem lw_closed {s t : State} {o : Outcome} {d0 : Drawn} {L : List Loc} {k n : Nat} (hd0 : s.drawn.sameBut d0 lw_cs) (hv : ∃ v, o = .returned v) (hW : (s.setDrawn d0).WarmedH t.vm) (hs : (s.setDrawn d0).sameButNew ({ t with vm := s.vm } : State) L k n) : State.butDraws s t lw_cs (fun t1 => Framed s o t1 L k n) := by
  have h2 : t.drawn = d0 := congrArg State.drawn hs.1
  refine ⟨⟨hv, hW, State.sameButNew.setDrawn hs s.drawn⟩, ?_, by decide⟩
  rw [h2]
  exact hd0
def lw_Q (_ : Array Value) (s : State) (o : Outcome) (t : State) : Prop := o = .returned (some (.int 1)) ∧ State.butDraws s t lw_cs (fun t1 => Framed s o t1 [] 601024 7293034)
def lw_Z (below : List Frame) (a : Array Value) (s : State) : State → Prop := fun t => ∃ o, t.status = .running ∧ Ended t below o ∧ lw_Q a s o t
/-- the law's own end, with 1 on the stack, nothing written that was there before, its room as the claim has it; d0: the record of draws at this point (at the entry s.drawn: begin with 'refine W.base ?_' and 'have hd0 := Drawn.sameBut.refl s.drawn lw_cs') -/
theorem lw_ret {p : Program} {l : Launch} {e : Env} {s : State} {m : MethodId} {below : List Frame} {meth : Method} {c : Code} {b : Nat} {d0 : Drawn} (hd0 : s.drawn.sameBut d0 lw_cs) (hx : p.tables.exec = Jvm.exec) (hb : c.code = code) (hr : meth.sig.returnType = ret) (hlocks : meth.locks = false) {pc : Nat} {H : Heap} {ls : Array Slot} (hdg : decode code pc = .ok (.ireturn, 1)) : W p l e room_1 (s.setDrawn d0) m #[Value.ref b] below meth c H [] 601024 7293034 (lw_Z below #[Value.ref b] s) (F0 m pc ls [.int 1]) := by
  intro T hT X
  obtain ⟨fs, hret, hrun, hended, hW, hframe⟩ := X.leave (v := some (.int 1)) (hlocks := hlocks) (fun h => by rw [hr] at h; cases h)
  have hmeth' : T.vm.method? m = some meth := X.method'
  refine ⟨T.setFrames fs, ?_, .returned (some (.int 1)), hrun, hended, rfl, lw_closed hd0 ⟨_, rfl⟩ hW hframe⟩
  jvm_step X.here [X.here.top, hx, hb, hdg, hmeth', hr, ret, narrow_b1]
  (try refine ⟨rfl, ?_⟩); (try refine ⟨rfl, ?_⟩)
  first | (intro acts; rw [hret _ acts rfl rfl rfl]) | rw [hret _ _ rfl rfl rfl]
  exact Steps.refl _
/-- what holds at the law's entry: the machine, the code, the tables' words (any of lw_tbl by 'hts w (by decide +kernel)'), the script of L ints xs at the cell b, what the Statement gives of the start (any of its parts by flat_of_before) -/
def lw_At (p : Program) (s : State) (m : MethodId) (meth : Method) (c : Code) (b L : Nat) (xs : Nat → Int32) : Prop :=
  p.tables.exec = Jvm.exec ∧ c.code = code ∧ meth.sig.returnType = ret ∧ c.maxLocals = 10 ∧ s.vm.findClass R_law = some m.cls ∧ (∀ w ∈ lw_tbl, w.before #[Value.ref b] s = true) ∧ va_X b L xs s s.heap ∧ b < s.heap.size ∧ meth.locks = false ∧ (Jvm.Cond.and given_1 narrow_1).before #[Value.ref b] s = true

theorem and31 (x : Int32) : ∃ v : Int, 0 ≤ v ∧ v ≤ 31 ∧ x &&& kI 31 = kI v := by
  have h : (x &&& kI 31).toBitVec.toNat ≤ 31 := by
    rw [Int32.toBitVec_and, BitVec.toNat_and]; exact Nat.and_le_right
  have e : (x &&& kI 31).toInt = ((x &&& kI 31).toBitVec.toNat : Int) := by
    show (x &&& kI 31).toBitVec.toInt = _
    rw [BitVec.toInt_eq_toNat_cond, if_pos (by omega)]
  exact ⟨(x &&& kI 31).toInt, by omega, by omega, (kI_self _).symm⟩
theorem law_end {p : Program} {l : Launch} {e : Env} {s : State} {m : MethodId} {below : List Frame} {meth : Method} {c : Code} {b L : Nat} {xs : Nat → Int32} {D : va_G} {T : Nat → ClassId} {σ : Mem} {H : Heap} {locs : List Loc} {ls : Array Slot} {k0 n0 : Nat} (hF : Lf p s m meth c b L xs) (hr : meth.sig.returnType = ret) (hlk : meth.locks = false) (G : Wd D T s.heap.size 139 σ s H locs) (hc : k0 ≤ 601024 ∧ n0 ≤ 7293034) : W p l e room_1 s m #[Value.ref b] below meth c H locs k0 n0 (lw_Z below #[Value.ref b] s) (F0 m 1846 ls []) := by
  obtain ⟨hx, hb, hml, hown, hts, hXs, hbl, hL⟩ := hF
  refine r_iconst hx hb dL_law_1846 ?_
  refine va_forget (fun q hq => G.2.2.1.2.2 q hq) ?_
  refine W.widen (k := 601024) (n := 7293034) hc.1 hc.2 ?_
  refine W.base ?_
  exact lw_ret (Drawn.sameBut.refl s.drawn lw_cs) hx hb hr hlk dL_law_1847
set_option maxRecDepth 100000 in
set_option maxHeartbeats 4000000 in
theorem law_call {p : Program} {l : Launch} {e : Env} {s : State} {m : MethodId} {below : List Frame} {meth : Method} {c : Code} {b L : Nat} {xs : Nat → Int32} {D : va_G} {T : Nat → ClassId} {σ : Mem} {H : Heap} {locs : List Loc} {ls : Array Slot} {j k0 n0 : Nat} {Q : State → Prop} {v : Int} (hst0 : l.stackTraces = false) (hF : Lf p s m meth c b L xs) (hv : Xv s) (G : Wd D T s.heap.size 139 σ s H locs) (hR : RG σ σ) (hj : 4 * j + 4 ≤ L) (hc : k0 + 2 ≤ 601024 ∧ n0 + 12 ≤ 7293034) (h0 : 0 ≤ v) (h31 : v ≤ 31) (hl : lv_has ls 10 [(5, .int (kI (4 * (j : Int)))), (4, .ref (s.heap.size + 138)), (3, .ref (s.heap.size + 137)), (2, .ref (s.heap.size + 133)), (1, .ref (s.heap.size + 0)), (0, .ref b)]) (kk : ∀ (σ1 : Mem) (H1 : Heap) (locs1 : List Loc) (ls1 : Array Slot), Wd D T s.heap.size 139 σ1 s H1 locs1 → RG σ1 σ1 → lv_has ls1 10 [(5, .int (kI (4 * (j : Int)))), (4, .ref (s.heap.size + 138)), (3, .ref (s.heap.size + 137)), (2, .ref (s.heap.size + 133)), (1, .ref (s.heap.size + 0)), (0, .ref b)] → W p l e room_1 s m #[Value.ref b] below meth c H1 locs1 (k0 + 2) (n0 + 12) Q (F0 m 1840 ls1 [])) : W p l e room_1 s m #[Value.ref b] below meth c H locs k0 n0 Q (F0 m 44 ls [.int (kI v)]) := by
  have hx := hF.1
  have hb := hF.2.1
  by_cases e0 : v = 0
  · subst e0
    refine r_tabIn (j := 0) (tgt := 180) hx hb dL_law_44 (by decide) (by decide) ⟨by decide, by decide⟩ rfl (by decide) ?_
    exact lc_0 l hst0 hF hv G hR hj hc rfl hl kk
  by_cases e1 : v = 1
  · subst e1
    refine r_tabIn (j := 1) (tgt := 236) hx hb dL_law_44 (by decide) (by decide) ⟨by decide, by decide⟩ rfl (by decide) ?_
    exact lc_1 l hst0 hF hv G hR hj hc rfl rfl hl kk
  by_cases e2 : v = 2
  · subst e2
    refine r_tabIn (j := 2) (tgt := 304) hx hb dL_law_44 (by decide) (by decide) ⟨by decide, by decide⟩ rfl (by decide) ?_
    exact lc_2 l hst0 hF hv G hR hj hc rfl rfl hl kk
  by_cases e3 : v = 3
  · subst e3
    refine r_tabIn (j := 3) (tgt := 372) hx hb dL_law_44 (by decide) (by decide) ⟨by decide, by decide⟩ rfl (by decide) ?_
    exact lc_3 l hst0 hF hv G hR hj hc rfl rfl hl kk
  by_cases e4 : v = 4
  · subst e4
    refine r_tabIn (j := 4) (tgt := 440) hx hb dL_law_44 (by decide) (by decide) ⟨by decide, by decide⟩ rfl (by decide) ?_
    exact lc_4 l hst0 hF hv G hR hj hc rfl hl kk
  by_cases e5 : v = 5
  · subst e5
    refine r_tabIn (j := 5) (tgt := 496) hx hb dL_law_44 (by decide) (by decide) ⟨by decide, by decide⟩ rfl (by decide) ?_
    exact lc_5 l hst0 hF hv G hR hj hc rfl rfl rfl hl kk
  by_cases e6 : v = 6
  · subst e6
    refine r_tabIn (j := 6) (tgt := 576) hx hb dL_law_44 (by decide) (by decide) ⟨by decide, by decide⟩ rfl (by decide) ?_
    exact lc_6 l hst0 hF hv G hR hj hc rfl hl kk
  by_cases e7 : v = 7
  · subst e7
    refine r_tabIn (j := 7) (tgt := 632) hx hb dL_law_44 (by decide) (by decide) ⟨by decide, by decide⟩ rfl (by decide) ?_
    exact lc_7 l hst0 hF hv G hR hj hc rfl rfl hl kk
  by_cases e8 : v = 8
  · subst e8
    refine r_tabIn (j := 8) (tgt := 700) hx hb dL_law_44 (by decide) (by decide) ⟨by decide, by decide⟩ rfl (by decide) ?_
    exact lc_8 l hst0 hF hv G hR hj hc rfl rfl hl kk
  by_cases e9 : v = 9
  · subst e9
    refine r_tabIn (j := 9) (tgt := 768) hx hb dL_law_44 (by decide) (by decide) ⟨by decide, by decide⟩ rfl (by decide) ?_
    exact lc_9 l hst0 hF hv G hR hj hc rfl hl kk
  by_cases e10 : v = 10
  · subst e10
    refine r_tabIn (j := 10) (tgt := 824) hx hb dL_law_44 (by decide) (by decide) ⟨by decide, by decide⟩ rfl (by decide) ?_
    exact lc_10 l hst0 hF hv G hR hj hc hl kk
  by_cases e11 : v = 11
  · subst e11
    refine r_tabIn (j := 11) (tgt := 837) hx hb dL_law_44 (by decide) (by decide) ⟨by decide, by decide⟩ rfl (by decide) ?_
    exact lc_11 l hst0 hF hv G hR hj hc hl kk
  by_cases e12 : v = 12
  · subst e12
    refine r_tabIn (j := 12) (tgt := 850) hx hb dL_law_44 (by decide) (by decide) ⟨by decide, by decide⟩ rfl (by decide) ?_
    exact lc_12 l hst0 hF hv G hR hj hc hl kk
  by_cases e13 : v = 13
  · subst e13
    refine r_tabIn (j := 13) (tgt := 894) hx hb dL_law_44 (by decide) (by decide) ⟨by decide, by decide⟩ rfl (by decide) ?_
    exact lc_13 l hst0 hF hv G hR hj hc rfl hl kk
  by_cases e14 : v = 14
  · subst e14
    refine r_tabIn (j := 14) (tgt := 950) hx hb dL_law_44 (by decide) (by decide) ⟨by decide, by decide⟩ rfl (by decide) ?_
    exact lc_14 l hst0 hF hv G hR hj hc rfl hl kk
  by_cases e15 : v = 15
  · subst e15
    refine r_tabIn (j := 15) (tgt := 1006) hx hb dL_law_44 (by decide) (by decide) ⟨by decide, by decide⟩ rfl (by decide) ?_
    exact lc_15 l hst0 hF hv G hR hj hc hl kk
  by_cases e16 : v = 16
  · subst e16
    refine r_tabIn (j := 16) (tgt := 1050) hx hb dL_law_44 (by decide) (by decide) ⟨by decide, by decide⟩ rfl (by decide) ?_
    exact lc_16 l hst0 hF hv G hR hj hc rfl rfl rfl hl kk
  by_cases e17 : v = 17
  · subst e17
    refine r_tabIn (j := 17) (tgt := 1130) hx hb dL_law_44 (by decide) (by decide) ⟨by decide, by decide⟩ rfl (by decide) ?_
    exact lc_17 l hst0 hF hv G hR hj hc rfl rfl hl kk
  by_cases e18 : v = 18
  · subst e18
    refine r_tabIn (j := 18) (tgt := 1198) hx hb dL_law_44 (by decide) (by decide) ⟨by decide, by decide⟩ rfl (by decide) ?_
    exact lc_18 l hst0 hF hv G hR hj hc rfl rfl hl kk
  by_cases e19 : v = 19
  · subst e19
    refine r_tabIn (j := 19) (tgt := 1266) hx hb dL_law_44 (by decide) (by decide) ⟨by decide, by decide⟩ rfl (by decide) ?_
    exact lc_19 l hst0 hF hv G hR hj hc rfl hl kk
  by_cases e20 : v = 20
  · subst e20
    refine r_tabIn (j := 20) (tgt := 1322) hx hb dL_law_44 (by decide) (by decide) ⟨by decide, by decide⟩ rfl (by decide) ?_
    exact lc_20 l hst0 hF hv G hR hj hc rfl hl kk
  by_cases e21 : v = 21
  · subst e21
    refine r_tabIn (j := 21) (tgt := 1378) hx hb dL_law_44 (by decide) (by decide) ⟨by decide, by decide⟩ rfl (by decide) ?_
    exact lc_21 l hst0 hF hv G hR hj hc rfl hl kk
  by_cases e22 : v = 22
  · subst e22
    refine r_tabIn (j := 22) (tgt := 1434) hx hb dL_law_44 (by decide) (by decide) ⟨by decide, by decide⟩ rfl (by decide) ?_
    exact lc_22 l hst0 hF hv G hR hj hc rfl hl kk
  by_cases e23 : v = 23
  · subst e23
    refine r_tabIn (j := 23) (tgt := 1490) hx hb dL_law_44 (by decide) (by decide) ⟨by decide, by decide⟩ rfl (by decide) ?_
    exact lc_23 l hst0 hF hv G hR hj hc rfl rfl hl kk
  by_cases e24 : v = 24
  · subst e24
    refine r_tabIn (j := 24) (tgt := 1558) hx hb dL_law_44 (by decide) (by decide) ⟨by decide, by decide⟩ rfl (by decide) ?_
    exact lc_24 l hst0 hF hv G hR hj hc rfl hl kk
  by_cases e25 : v = 25
  · subst e25
    refine r_tabIn (j := 25) (tgt := 1614) hx hb dL_law_44 (by decide) (by decide) ⟨by decide, by decide⟩ rfl (by decide) ?_
    exact lc_25 l hst0 hF hv G hR hj hc rfl rfl rfl hl kk
  by_cases e26 : v = 26
  · subst e26
    refine r_tabIn (j := 26) (tgt := 1694) hx hb dL_law_44 (by decide) (by decide) ⟨by decide, by decide⟩ rfl (by decide) ?_
    exact lc_26 l hst0 hF hv G hR hj hc hl kk
  by_cases e27 : v = 27
  · subst e27
    refine r_tabIn (j := 27) (tgt := 1707) hx hb dL_law_44 (by decide) (by decide) ⟨by decide, by decide⟩ rfl (by decide) ?_
    exact lc_27 l hst0 hF hv G hR hj hc hl kk
  by_cases e28 : v = 28
  · subst e28
    refine r_tabIn (j := 28) (tgt := 1748) hx hb dL_law_44 (by decide) (by decide) ⟨by decide, by decide⟩ rfl (by decide) ?_
    exact lc_28 l hst0 hF hv G hR hj hc rfl hl kk
  by_cases e29 : v = 29
  · subst e29
    refine r_tabIn (j := 29) (tgt := 1826) hx hb dL_law_44 (by decide) (by decide) ⟨by decide, by decide⟩ rfl (by decide) ?_
    exact lc_29 l hst0 hF hv G hR hj hc hl kk
  refine r_tabOut (tgt := 1840) hx hb dL_law_44 ⟨by omega, by omega⟩ (by omega) (by decide) ?_
  exact W.widen (k := k0 + 2) (n := n0 + 12) (by omega) (by omega) (kk σ H locs ls G hR hl)
set_option maxRecDepth 100000 in
set_option maxHeartbeats 4000000 in
theorem law_loop {p : Program} {l : Launch} {e : Env} {s : State} {m : MethodId} {below : List Frame} {meth : Method} {c : Code} {b L : Nat} {xs : Nat → Int32} {D : va_G} {T : Nat → ClassId} (hst0 : l.stackTraces = false) (hF : Lf p s m meth c b L xs) (hv : Xv s) (hr : meth.sig.returnType = ret) (hlk : meth.locks = false) : ∀ (d j k0 n0 : Nat) (σ : Mem) (H : Heap) (locs : List Loc) (ls : Array Slot), L ≤ 4 * j + 4 * d + 3 → 4 * j ≤ L → k0 ≤ 139 + 2 * j → n0 ≤ 5762 + 12 * j → Wd D T s.heap.size 139 σ s H locs → RG σ σ → lv_has ls 10 [(5, .int (kI (4 * (j : Int)))), (4, .ref (s.heap.size + 138)), (3, .ref (s.heap.size + 137)), (2, .ref (s.heap.size + 133)), (1, .ref (s.heap.size + 0)), (0, .ref b)] → W p l e room_1 s m #[Value.ref b] below meth c H locs k0 n0 (lw_Z below #[Value.ref b] s) (F0 m 28 ls []) := by
  have hx := hF.1
  have hb := hF.2.1
  have hX := hF.2.2.2.2.2.1
  have hbl := hF.2.2.2.2.2.2.1
  have hL := hF.2.2.2.2.2.2.2
  have eL : Int32.ofNat L = kI (L : Int) := by first | rfl | exact (Int32.ofInt_eq_ofNat).symm
  have hd : ∀ (j k0 n0 : Nat) (σ : Mem) (H : Heap) (locs : List Loc) (ls : Array Slot), 4 * j ≤ L → k0 ≤ 139 + 2 * j → n0 ≤ 5762 + 12 * j → Wd D T s.heap.size 139 σ s H locs → RG σ σ → lv_has ls 10 [(5, .int (kI (4 * (j : Int)))), (4, .ref (s.heap.size + 138)), (3, .ref (s.heap.size + 137)), (2, .ref (s.heap.size + 133)), (1, .ref (s.heap.size + 0)), (0, .ref b)] → (4 * j + 4 ≤ L → ∀ (σ1 : Mem) (H1 : Heap) (locs1 : List Loc) (ls1 : Array Slot), Wd D T s.heap.size 139 σ1 s H1 locs1 → RG σ1 σ1 → lv_has ls1 10 [(5, .int (kI (4 * (j : Int) + 4))), (4, .ref (s.heap.size + 138)), (3, .ref (s.heap.size + 137)), (2, .ref (s.heap.size + 133)), (1, .ref (s.heap.size + 0)), (0, .ref b)] → W p l e room_1 s m #[Value.ref b] below meth c H1 locs1 (k0 + 2) (n0 + 12) (lw_Z below #[Value.ref b] s) (F0 m 28 ls1 [])) → W p l e room_1 s m #[Value.ref b] below meth c H locs k0 n0 (lw_Z below #[Value.ref b] s) (F0 m 28 ls []) := by
    intro j k0 n0 σ H locs ls hj hk hn G hR hl kk
    refine lv_iload hx hb dL_law_28 (lv_at hl 0 rfl) ?_
    refine lv_aload_n hx hb dL_law_30 rfl (lv_at hl 5 rfl) ?_
    refine va_slen hx hb hX hbl (show ¬ Own s.heap.size b from Nat.not_le.mpr hbl) G.2.2.1 dL_law_31 ?_
    rw [eL]
    refine r_iconst hx hb dL_law_32 ?_
    refine r_isub hx hb dL_law_33 ?_
    refine r_icmp_gt (tgt := 1846) hx hb ⟨by omega, by omega⟩ ⟨by omega, by omega⟩ dL_law_34 (by decide) (fun _ => law_end hF hr hlk G ⟨by omega, by omega⟩) (fun h => ?_)
    have hj4 : 4 * j + 4 ≤ L := by omega
    refine lv_aload_n hx hb dL_law_37 rfl (lv_at hl 5 rfl) ?_
    refine lv_iload hx hb dL_law_38 (lv_at hl 0 rfl) ?_
    refine r_sld hx hb G hX hbl hL ⟨by omega, by omega⟩ rfl dL_law_40 ?_
    refine r_bipush hx hb dL_law_41 (by decide +kernel) ?_
    refine lv_iand hx hb dL_law_43 ?_
    obtain ⟨v, h0, h31, ev⟩ := and31 (kI (sx xs (4 * (j : Int))))
    rw [ev]
    refine law_call hst0 hF hv G hR hj4 ⟨by omega, by omega⟩ h0 h31 hl (fun σ1 H1 locs1 ls1 G1 hR1 hl1 => ?_)
    refine r_iinc (lv' := [(5, .int (kI (4 * (j : Int) + 4))), (4, .ref (s.heap.size + 138)), (3, .ref (s.heap.size + 137)), (2, .ref (s.heap.size + 133)), (1, .ref (s.heap.size + 0)), (0, .ref b)]) hx hb dL_law_1840 hl1 (k := 0) rfl (by decide) rfl (fun ls hl => ?_)
    refine lv_goto (tgt := 28) hx hb dL_law_1843 (by decide) ?_
    exact kk hj4 _ _ _ _ G1 hR1 hl
  intro d
  induction d with
  | zero =>
    intro j k0 n0 σ H locs ls hd0 hj hk hn G hR hl
    exact hd j k0 n0 σ H locs ls hj hk hn G hR hl (fun h => by omega)
  | succ d ih =>
    intro j k0 n0 σ H locs ls hd0 hj hk hn G hR hl
    refine hd j k0 n0 σ H locs ls hj hk hn G hR hl (fun h σ1 H1 locs1 ls1 G1 hR1 hl1 => ?_)
    have e : 4 * (j : Int) + 4 = 4 * ((j + 1 : Nat) : Int) := by omega
    rw [e] at hl1
    exact ih (j + 1) _ _ σ1 H1 locs1 ls1 (by omega) (by omega) (by omega) (by omega) G1 hR1 hl1
