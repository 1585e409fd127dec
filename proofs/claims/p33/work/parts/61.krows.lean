/-! THE LAW'S OWN ROW of four ints beside the memory -/
def Th (T : Nat → ClassId) (q0 : Nat) : Nat → ClassId := fun i => if i = 9 then q0 else T i
theorem Th_h {T : Nat → ClassId} {q0 : Nat} : hol (Th T q0) = q0 := rfl
theorem Th_own {T : Nat → ClassId} {q0 z q : Nat} (hT : hol T < z) (h : Own (Th T q0) z q) : Own T z q := ⟨h.1, by have := h.1; omega⟩
theorem Th_shC {T : Nat → ClassId} {q0 z b k : Nat} {f : Int → Int} : shC (Th T q0) z b k f = shC T z b k f := by
  have h0 : Th T q0 0 = T 0 := rfl
  unfold shC
  simp only [h0]
theorem Th_shp {T : Nat → ClassId} {q0 z c : Nat} {f : Int → Int} : shp (Th T q0) z c f = shp T z c f := by
  have h0 : Th T q0 0 = T 0 := rfl
  have h1 : Th T q0 1 = T 1 := rfl
  have h5 : Th T q0 5 = T 5 := rfl
  unfold shp
  simp only [h0, h1, h5, Th_shC]
theorem Th_W {T : Nat → ClassId} {q0 z n : Nat} {σ : Mem} : World (Th T q0) z σ n = World T z σ n := by
  unfold World
  apply List.map_congr_left
  intro c _
  rw [Th_shp]
theorem Th_Ev {T : Nat → ClassId} {q0 z : Nat} {U : State} {H : Heap} (hT : hol T < z) (h : Ev T z U H) : Ev (Th T q0) z U H := by
  have hAB : ∀ q, Own (Th T q0) z q → Own T z q := fun q h => Th_own hT h
  have hq : ∀ {C n d : String}, vx_Zq C n d (Own T z) U H → vx_Zq C n d (Own (Th T q0) z) U H := fun {C n d} h => by
    obtain ⟨h1, h2⟩ := h
    refine ⟨?_, ?_⟩
    · rcases h1 with h1 | ⟨t, h1⟩
      · exact Or.inl (h1.narrow hAB)
      · exact Or.inr ⟨t, h1.narrow hAB⟩
    · obtain ⟨c, k, i, f, a, cell, b1, b2, b3, b4, b5, b6, b7, b8, b9, b10⟩ := h2
      exact ⟨c, k, i, f, a, cell, b1, b2, b3, b4, b5, b6, b7, b8, b9, fun q => b10 (hAB _ q)⟩
  have hr : ∀ {n : String} {N : Nat} {f : Nat → Int}, sRow T n N f z U H → sRow (Th T q0) n N f z U H := fun {n N f} h => by
    obtain ⟨t, h1, h2⟩ := h
    exact ⟨t, h1.narrow hAB, h2.narrow hAB⟩
  exact ⟨hq h.1, hq h.2.1, hr h.2.2.1, hr h.2.2.2.1, hr h.2.2.2.2⟩
/-- the memory, and beside it the row at q0 -/
def Wk (D : va_G) (T : Nat → ClassId) (z q0 : Nat) (f : Int → Int) (σ : Mem) (s : State) (H : Heap) (locs : List Loc) : Prop := Wd D T z 133 σ s H locs ∧ va_P D vwCl [(q0, .inl (T 0, 4, .inl (fun j => kI (f (j : Int)))))] H ∧ z + 133 ≤ q0 ∧ hol T < z
theorem Wk.D {D : va_G} {T : Nat → ClassId} {z q0 : Nat} {f : Int → Int} {σ : Mem} {s : State} {H : Heap} {locs : List Loc} (G : Wk D T z q0 f σ s H locs) : va_D (Own T z) (World T z σ 133 ++ [(q0, .inl (T 0, 4, .inl (fun j => kI (f (j : Int)))))]) := by
  refine (World_D G.1.2.2.2.2).app ⟨fun i j p q hi hj _ => ?_, fun k q hk => ?_⟩ (fun i j p q hi hj => ?_)
  · have h1 := (List.getElem?_eq_some_iff.mp hi).1
    have h2 := (List.getElem?_eq_some_iff.mp hj).1
    simp at h1 h2; omega
  · have h1 := (List.getElem?_eq_some_iff.mp hk).1
    have h0 : k = 0 := by simp at h1; omega
    subst h0
    cases hk
    have := G.2.2
    exact ⟨by show z ≤ q0; omega, by show q0 ≠ hol T; omega⟩
  · obtain ⟨hc, rfl⟩ := World_at hi
    have h1 := (List.getElem?_eq_some_iff.mp hj).1
    have h0 : j = 0 := by simp at h1; omega
    subst h0
    cases hj
    have := G.2.2
    show z + i ≠ q0
    omega
section KR
variable {p : Program} {l : Launch} {e : Env} {R : Room} {s : State} {m : MethodId} {args : Array Value} {below : List Frame} {meth : Method} {c : Code} {H : Heap} {locs : List Loc} {cells slots : Nat} {Q : State → Prop}
variable {cc : ByteArray} {pc : Nat} {ls : Array Slot} {rest st : List Value} {D : va_G} {T : Nat → ClassId} {z q0 : Nat} {σ τ τ' : Mem} {f : Int → Int}
theorem r_knew (hx : p.tables.exec = Jvm.exec) (hb : c.code = cc) (hts : ∀ w ∈ Gw, w.before args s = true) (hT : hol T < z) (G : Wd D T z 133 σ s H locs) (hR : cells + 1 ≤ R.cells ∧ slots + 4 ≤ R.slots) (hdg : decode cc pc = .ok (.newarray .int, 2))
    (kk : ∀ (q0 : Nat) (H1 : Heap), Wk D T z q0 (fun _ => 0) σ s H1 locs → W p l e R s m args below meth c H1 locs (cells + 1) (slots + 4) Q (F0 m (pc + 2) ls (.ref q0 :: rest))) : W p l e R s m args below meth c H locs cells slots Q (F0 m pc ls (.int (kI 4) :: rest)) := by
  refine va_newa (atype := .int) (N' := 4) (a0 := (4, .inl (fun _ => 0))) hx hb (hts _ qA_int) rfl G.2.1 G.1 (World_D G.2.2.2.2) G.2.2.1 G.hA (fun _ => rfl) (by decide) (by decide) (by decide) hR.1 hR.2 hdg (fun q cA H1 hK hP hD hS => ?_)
  have hlen : (World T z σ 133).length = 133 := by simp [World]
  have hq : (World T z σ 133 ++ [(q, (.inl (cA, 4, .inl (fun _ => 0)) : va_E))])[133]? = some (q, .inl (cA, 4, .inl (fun _ => 0))) := by rw [List.getElem?_append_right (by omega), hlen]; rfl
  have h0 : Own T z q := hD.2 133 _ hq
  have h1 : z + 133 ≤ q := by
    by_cases h : z + 133 ≤ q
    · exact h
    · exfalso
      have hz : z ≤ q := h0.1
      have hi : (World T z σ 133 ++ [(q, (.inl (cA, 4, .inl (fun _ => 0)) : va_E))])[q - z]? = some (z + (q - z), shp T z (q - z) (σ (q - z))) := by rw [List.getElem?_append_left (by omega)]; exact World_get (by omega)
      have := hD.1 (q - z) 133 _ _ hi hq (show z + (q - z) = q by omega)
      omega
  have ec : cA = T 0 := by
    have g1 := (hK.2 6 (cA, newarray.typeOf .int) rfl).2
    have g2 := (G.2.1.2 0 (T 0, .int) rfl).2
    exact Option.some.inj (g1.symm.trans g2)
  subst ec
  refine kk q H1 ⟨⟨hP.by (fun k => k) (fun k x hk => ?_), G.2.1, hS, G.2.2.2⟩, hP.by (fun _ => 133) (fun k x hk => ?_), h1, hT⟩
  · rw [List.getElem?_append_left (List.getElem?_eq_some_iff.mp hk).1]; exact hk
  · have h2 := (List.getElem?_eq_some_iff.mp hk).1
    have h3 : k = 0 := by simp at h2; omega
    subst h3
    cases hk
    exact hq
theorem r_kald (hx : p.tables.exec = Jvm.exec) (hb : c.code = cc) (G : Wk D T z q0 f σ s H locs) {i : Int} (h0 : 0 ≤ i) (h1 : i < 4) (hdg : decode cc pc = .ok (.iaload, 1)) (kk : W p l e R s m args below meth c H locs cells slots Q (F0 m (pc + 1) ls (.int (kI (f i)) :: rest))) : W p l e R s m args below meth c H locs cells slots Q (F0 m pc ls (.int (kI i) :: .ref q0 :: rest)) := by
  refine va_iald hx hb G.1.2.1 G.2.1 0 0 rfl rfl (kI_in (n := 4) h0 h1 (by decide)) hdg ?_
  rw [kI_cl h0 (by omega)]
  exact kk
theorem r_kast (hx : p.tables.exec = Jvm.exec) (hb : c.code = cc) (G : Wk D T z q0 f σ s H locs) {i v : Int} (h0 : 0 ≤ i) (h1 : i < 4) (hdg : decode cc pc = .ok (.iastore, 1)) (kk : ∀ (H1 : Heap) (locs1 : List Loc), Wk D T z q0 (fun j => if j = i then v else f j) σ s H1 locs1 → W p l e R s m args below meth c H1 locs1 cells slots Q (F0 m (pc + 1) ls rest)) : W p l e R s m args below meth c H locs cells slots Q (F0 m pc ls (.int (kI v) :: .int (kI i) :: .ref q0 :: rest)) := by
  have hlen : (World T z σ 133).length = 133 := by simp [World]
  have hq : (World T z σ 133 ++ [(q0, (.inl (T 0, 4, .inl (fun j => kI (f (j : Int)))) : va_E))])[133]? = some (q0, .inl (T 0, 4, .inl (fun j => kI (f (j : Int))))) := by rw [List.getElem?_append_right (by omega), hlen]; rfl
  refine va_iast hx hb G.1.2.1 (G.1.1.app G.2.1) G.D G.1.2.2.1 133 0 hq rfl (kI_in (n := 4) h0 h1 (by decide)) hdg (fun H1 locs1 hP _ hS => ?_)
  have hset : ∀ x : Nat × va_E, (World T z σ 133 ++ [(q0, (.inl (T 0, 4, .inl (fun j => kI (f (j : Int)))) : va_E))]).set 133 x = World T z σ 133 ++ [x] := fun x => by
    rw [List.set_append_right _ _ (by omega), hlen]; rfl
  rw [hset, c_upd (N := 4) h0 h1 (by decide)] at hP
  refine kk H1 locs1 ⟨⟨hP.by (fun k => k) (fun k x hk => ?_), G.1.2.1, hS, G.1.2.2.2⟩, hP.by (fun _ => 133) (fun k x hk => ?_), G.2.2⟩
  · rw [List.getElem?_append_left (List.getElem?_eq_some_iff.mp hk).1]; exact hk
  · have h2 := (List.getElem?_eq_some_iff.mp hk).1
    have h3 : k = 0 := by simp at h2; omega
    subst h3
    cases hk
    rw [List.getElem?_append_right (by omega), hlen]; rfl
theorem Wk.sta (G : Wk D T z q0 f σ s H locs) {U : State} (hU : U.heap = H) (hvm : s.vm.Alike U.vm) : St D (Th T q0) z 133 σ U := by
  have g := G.1.st hU hvm
  have hl : q0 < U.heap.size := by rw [hU]; exact (G.2.1 0 _ rfl).lt
  exact ⟨by rw [Th_W]; exact g.1, g.2.1, Th_Ev G.2.2.2 g.2.2.1, g.2.2.2.1, hl, Or.inr G.2.2.1⟩
section CALLS
variable {own C : String} {idx na maxL nL fr lo a0 : Nat} {y : MethodName} {bytes : ByteArray} {rt : Option FieldType} {As As' : List Value}
/-- a call of the law's own, with handlers, while the row lies beside -/
theorem r_callWk {hh : List (Nat × Nat × Nat × Nat)} {ret : Int} (S : CallFix p m c cc nL s args Gw own) (G : Wk D T z q0 f σ s H locs) (hv : Xv s) {Az : Nat → List Value} (hM : CtW l y (Cond.codeWith y bytes maxL rt hh) fr lo Az σ ret σ) (hcw : Cond.codeWith y bytes maxL rt hh ∈ Gw) (hk : Cond.methodLink own idx y ∈ Gw) (hstt : Cond.static y ∈ Gw) (hini : Cond.initialized y.cls ∈ Gw) (hd : y.cls ≠ "java/lang/invoke/MethodHandle" ∧ y.cls ≠ "java/lang/invoke/VarHandle" ∧ (parseMethodDescriptor y.desc).map (fun d => d.parameters.length) = some na) (hR : fr + 1 ≤ R.frames ∧ 8 + (maxL + 11) + lo ≤ R.locals)
    (hAs : Az z = As') (hn : As'.length = na) (hsz : ls.size = nL) (hst : st = As'.reverse ++ rest) (hW : (rest.map fun v => v.category).sum ≤ 8) (hdg : decode cc pc = .ok (.invokestatic idx, 3)) (hf : cells + 2 ≤ R.cells ∧ slots + 12 ≤ R.slots)
    (kk : ∀ (H1 : Heap) (locs1 : List Loc), Wk D T z q0 f σ s H1 locs1 → W p l e R s m args below meth c H1 locs1 (cells + 2) (slots + 12) Q (F0 m (pc + 3) ls (.int (kI ret) :: rest))) : W p l e R s m args below meth c H locs cells slots Q (F0 m pc ls st) := by
  have hts := S.2.2.2.2
  have hgw : GoodIn Gw (va_wsS own idx y (Cond.codeWith y bytes maxL rt hh :: Gw)) := fun w h => by
    have hw : w ∈ Gw := by
      simp only [va_wsS, List.cons_append, List.nil_append, List.mem_cons] at h
      rcases h with rfl | rfl | rfl | rfl | h
      · exact hk
      · exact hstt
      · exact hini
      · exact hcw
      · exact h
    exact ⟨hw, good_of_word (Gw_good hw)⟩
  have hl := (G.2.1 0 _ rfl).lt
  refine va_calli (vx_runSW (As := As') (rest := rest) (g := F0 m pc ls st) S (hM D (Th T q0) z) (vx_cwSW na hts hgw rfl rfl rfl hd hR) ⟨Stx_blind, fun U hU hWm => ⟨by rw [hAs], G.sta hU hWm.alike, hv.warm hWm⟩⟩ rfl hn hsz hst (lv_room (pc := pc) (ls := ls) (rest := st) hW) hdg hf) G.1.2.2.1 (fun q _ h => Th_own G.2.2.2 h) (fun q h => Th_own G.2.2.2 h) (fun r u t H1 locs1 ht hvm hw hB hz1 hk1 hS => ?_)
  obtain ⟨rfl, rfl⟩ := hw
  refine kk H1 locs1 ⟨⟨by rw [← ht, ← Th_W (q0 := q0)]; exact hB.1, G.1.2.1, hS, G.1.2.2.2⟩, G.2.1.kept (fun k q hk => ?_), G.2.2⟩
  have h2 := (List.getElem?_eq_some_iff.mp hk).1
  have h3 : k = 0 := by simp at h2; omega
  subst h3
  cases hk
  exact hk1 q0 hl (fun w => w.2 rfl)
end CALLS
end KR
