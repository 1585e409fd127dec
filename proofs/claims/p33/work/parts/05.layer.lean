/-! THE LAYER: the heap of the run as one memory of whole numbers. Cell c lies at z + c; its shape is fixed; what it holds is read off σ c. -/
def kI (v : Int) : Int32 := Int32.ofInt v
abbrev inR (v : Int) : Prop := -2147483648 ≤ v ∧ v ≤ 2147483647
theorem kI_add (a b : Int) : kI a + kI b = kI (a + b) := (Int32.ofInt_add a b).symm
theorem kI_sub (a b : Int) : kI a - kI b = kI (a - b) := (Int32.ofInt_sub a b).symm
theorem kI_mul (a b : Int) : kI a * kI b = kI (a * b) := (Int32.ofInt_mul a b).symm
theorem kI_toInt {a : Int} (h : inR a) : (kI a).toInt = a := Int32.toInt_ofInt_of_le (by have := h.1; omega) (by have := h.2; omega)
theorem kI_self (x : Int32) : kI x.toInt = x := Int32.ofInt_toInt x
theorem kI_rg (x : Int32) : inR x.toInt := ⟨by have := x.le_toInt; omega, by have := x.toInt_lt; omega⟩
theorem kI_lt {a b : Int} (ha : inR a) (hb : inR b) : kI a < kI b ↔ a < b := by rw [Int32.lt_iff_toInt_lt, kI_toInt ha, kI_toInt hb]
theorem kI_le {a b : Int} (ha : inR a) (hb : inR b) : kI a ≤ kI b ↔ a ≤ b := by rw [Int32.le_iff_toInt_le, kI_toInt ha, kI_toInt hb]
theorem kI_eq {a b : Int} (ha : inR a) (hb : inR b) : kI a = kI b ↔ a = b := ⟨fun h => by rw [← kI_toInt ha, ← kI_toInt hb, h], fun h => by rw [h]⟩
theorem kI_0 : kI 0 = 0 := rfl
theorem kI_in {i : Int} {n : Nat} (h0 : 0 ≤ i) (h1 : i < n) (hn : n < 2147483648) : vp_in (kI i) n := vp_in_iff.mpr (by
  rw [kI_toInt ⟨by omega, by omega⟩]; exact ⟨h0, h1⟩)
theorem kI_cl {i : Int} (h0 : 0 ≤ i) (h1 : i ≤ 2147483647) : (((kI i).toNatClampNeg : Nat) : Int) = i := by
  show ((kI i).toInt.toNat : Int) = i
  rw [kI_toInt ⟨by omega, h1⟩]; omega
theorem kI_div {a d : Int} (h0 : 0 ≤ a) (h1 : a ≤ 2147483647) (hd : 0 < d) (hd1 : d ≤ 2147483647) : kI a / kI d = kI (a / d) := by
  have hne : kI d ≠ -1 := by
    intro h
    have h2 := congrArg Int32.toInt h
    rw [kI_toInt ⟨by omega, hd1⟩] at h2
    have h3 : (-1 : Int32).toInt = -1 := by decide
    omega
  apply Int32.toInt_inj.mp
  have hq : a / d ≤ a := Int.ediv_le_self d h0
  have hq0 : 0 ≤ a / d := Int.ediv_nonneg h0 (by omega)
  rw [Int32.toInt_div_of_ne_right _ _ hne, kI_toInt ⟨by omega, h1⟩, kI_toInt ⟨by omega, hd1⟩, kI_toInt ⟨by omega, by omega⟩, Int.tdiv_eq_ediv_of_nonneg h0]
theorem kI_rem {a d : Int} (h0 : 0 ≤ a) (h1 : a ≤ 2147483647) (hd : 0 < d) (hd1 : d ≤ 2147483647) : kI a - kI a / kI d * kI d = kI (a % d) := by
  rw [kI_div h0 h1 hd hd1, kI_mul, kI_sub]
  congr 1
  have := Int.mul_ediv_add_emod a d
  rw [Int.mul_comm] at this
  omega
/-- a number as an int holds it -/
def wr (v : Int) : Int := (kI v).toInt
theorem wr_rg (v : Int) : inR (wr v) := kI_rg _
theorem kI_wr (v : Int) : kI (wr v) = kI v := kI_self _
theorem wr_eq {v : Int} (h : inR v) : wr v = v := kI_toInt h
/-- the memory: cell, place, number -/
abbrev Mem : Type := Nat → Int → Int
def up (σ : Mem) (c : Nat) (i v : Int) : Mem := fun c' => if c' = c then (fun i' => if i' = i then v else σ c i') else σ c'
theorem up_o {σ : Mem} {c c' : Nat} {i v : Int} (h : c' ≠ c) : up σ c i v c' = σ c' := by simp [up, h]
theorem up_s {σ : Mem} {c : Nat} {i v : Int} : up σ c i v c = fun i' => if i' = i then v else σ c i' := by simp [up]
theorem up_ap (σ : Mem) (c c' : Nat) (i i' v : Int) : up σ c i v c' i' = if c' = c ∧ i' = i then v else σ c' i' := by
  by_cases h : c' = c
  · subst h; simp [up]
  · simp [up, h]
/-- the cells of a Compost at b -/
def shC (T : Nat → ClassId) (z b k : Nat) (f : Int → Int) : va_E := match k with
  | 0 => .inr (1, [.ref (z + (b + 1)), .ref (z + (b + 7)), .ref (z + (b + 13))])
  | 1 => .inr (3, [.int (kI (f 0)), .ref (z + (b + 2)), .ref (z + (b + 3)), .ref (z + (b + 4)), .ref (z + (b + 5)), .ref (z + (b + 6))])
  | 2 => .inl (T 0, 4, .inl (fun j => kI (f j)))
  | 3 => .inl (T 0, 64, .inl (fun j => kI (f j)))
  | 4 => .inl (T 0, 64, .inl (fun j => kI (f j)))
  | 5 => .inl (T 0, 64, .inl (fun j => kI (f j)))
  | 6 => .inl (T 0, 64, .inl (fun j => kI (f j)))
  | 7 => .inr (0, [.ref (z + (b + 8)), .ref (z + (b + 9)), .ref (z + (b + 10)), .ref (z + (b + 11)), .ref (z + (b + 12)), .int (kI (f 5)), .int (kI (f 6)), .int (kI (f 7))])
  | 13 => .inl (T 0, 3, .inl (fun j => kI (f j)))
  | _ => .inl (T 0, 4, .inl (fun j => kI (f j)))
def shp (T : Nat → ClassId) (z c : Nat) (f : Int → Int) : va_E :=
  if 1 ≤ c ∧ c < 15 then shC T z 1 (c - 1) f
  else if 17 ≤ c ∧ c < 101 then shC T z (17 + 14 * ((c - 17) / 14)) ((c - 17) % 14) f
  else if 102 ≤ c ∧ c < 130 then shC T z (102 + 14 * ((c - 102) / 14)) ((c - 102) % 14) f
  else match c with
  | 0 => .inr (5, [.ref (z + 1), .ref (z + 15), .ref (z + 101), .ref (z + 130), .ref (z + 131)])
  | 15 => .inr (4, [.ref (z + 16), .int (kI (f 1))])
  | 16 => .inl (T 5, 6, .inr (.inr (.inr (.inr (fun j => some (z + (17 + 14 * (f j).toNat)))))))
  | 101 => .inl (T 5, 2, .inr (.inr (.inr (.inr (fun j => some (z + (102 + 14 * j)))))))
  | 130 => .inl (T 1, 2, .inl (fun j => kI (f j)))
  | 131 => .inr (2, [.ref (z + 132), .int (kI (f 1))])
  | 132 => .inl (T 0, 60, .inl (fun j => kI (f j)))
  | _ => .inl (T 0, 1, .inl (fun j => kI (f j)))
def isB (b : Nat) : Prop := b = 1 ∨ (∃ p, p < 6 ∧ b = 17 + 14 * p) ∨ ∃ i, i < 2 ∧ b = 102 + 14 * i
theorem isB_lt {b : Nat} (h : isB b) : b ≤ 116 := by
  rcases h with rfl | ⟨p, hp, rfl⟩ | ⟨i, hi, rfl⟩ <;> omega
theorem shp_B {T : Nat → ClassId} {z b k : Nat} {f : Int → Int} (hb : isB b) (hk : k < 14) : shp T z (b + k) f = shC T z b k f := by
  rcases hb with rfl | ⟨p, hp, rfl⟩ | ⟨i, hi, rfl⟩
  · unfold shp
    rw [if_pos (by omega), show 1 + k - 1 = k by omega]
  · unfold shp
    rw [if_neg (by omega), if_pos (by omega), show (17 + 14 * p + k - 17) / 14 = p by omega, show (17 + 14 * p + k - 17) % 14 = k by omega]
  · unfold shp
    rw [if_neg (by omega), if_neg (by omega), if_pos (by omega), show (102 + 14 * i + k - 102) / 14 = i by omega, show (102 + 14 * i + k - 102) % 14 = k by omega]
def World (T : Nat → ClassId) (z : Nat) (σ : Mem) (n : Nat) : va_W := (List.range n).map (fun c => (z + c, shp T z c (σ c)))
theorem World_get {T : Nat → ClassId} {z n c : Nat} {σ : Mem} (h : c < n) : (World T z σ n)[c]? = some (z + c, shp T z c (σ c)) := by
  simp [World, h]
theorem World_at {T : Nat → ClassId} {z n c : Nat} {σ : Mem} {q : Nat × va_E} (h : (World T z σ n)[c]? = some q) : c < n ∧ q = (z + c, shp T z c (σ c)) := by
  have hl := (List.getElem?_eq_some_iff.mp h).1
  have hc : c < n := by simpa [World] using hl
  rw [World_get hc] at h
  exact ⟨hc, (Option.some.inj h).symm⟩
theorem World_set {T : Nat → ClassId} {z n c : Nat} {σ τ : Mem} {e : va_E} (hτ : ∀ c', c' ≠ c → τ c' = σ c') (he : shp T z c (τ c) = e) : (World T z σ n).set c (z + c, e) = World T z τ n := by
  apply List.ext_getElem?
  intro j
  by_cases hj : j < n
  · by_cases hc : j = c
    · subst hc
      rw [List.getElem?_set_self (by simpa [World] using hj), World_get hj, he]
    · rw [List.getElem?_set_ne (Ne.symm hc), World_get hj, World_get hj, hτ j hc]
  · have h1 : (World T z τ n)[j]? = none := by simp [World]; omega
    have h2 : ((World T z σ n).set c (z + c, e))[j]? = none := by simp [World]; omega
    rw [h1, h2]
theorem World_push {T : Nat → ClassId} {z n : Nat} {σ : Mem} {e : va_E} (he : shp T z n (σ n) = e) : World T z σ n ++ [(z + n, e)] = World T z σ (n + 1) := by
  simp [World, List.range_succ, he]
theorem World_congr {T : Nat → ClassId} {z n : Nat} {σ τ : Mem} (h : ∀ c, c < n → shp T z c (σ c) = shp T z c (τ c)) : World T z σ n = World T z τ n := by
  unfold World
  apply List.map_congr_left
  intro c hc
  rw [h c (List.mem_range.mp hc)]
/-- the place that a call leaves alone: the law's own row (kept as T's tenth number) -/
def hol (T : Nat → ClassId) : Nat := T 9
def Own (T : Nat → ClassId) (z : Nat) : Nat → Prop := fun q => z ≤ q ∧ q ≠ hol T
def Hz (T : Nat → ClassId) (z n sz : Nat) : Prop := z ≤ sz ∧ hol T < sz ∧ (hol T < z ∨ z + n ≤ hol T)
theorem Hz.up {T : Nat → ClassId} {z n sz sz' : Nat} (h : Hz T z n sz) (hs : sz ≤ sz') : Hz T z n sz' := ⟨Nat.le_trans h.1 hs, Nat.lt_of_lt_of_le h.2.1 hs, h.2.2⟩
theorem Hz.own {T : Nat → ClassId} {z n sz q : Nat} (h : Hz T z n sz) (hq : sz ≤ q) : Own T z q := ⟨Nat.le_trans h.1 hq, fun e => Nat.lt_irrefl _ (Nat.lt_of_le_of_lt hq (by rw [e]; exact h.2.1))⟩
theorem Hz.cell {T : Nat → ClassId} {z n sz c : Nat} (h : Hz T z n sz) (hc : c < n) : Own T z (z + c) := ⟨Nat.le_add_right _ _, fun e => by have := h.2.2; omega⟩
theorem World_D {T : Nat → ClassId} {z n sz : Nat} {σ : Mem} (hz : Hz T z n sz) : va_D (Own T z) (World T z σ n) := by
  refine ⟨fun i j p q hi hj hpq => ?_, fun k q hk => ?_⟩
  · obtain ⟨-, rfl⟩ := World_at hi
    obtain ⟨-, rfl⟩ := World_at hj
    have h : z + i = z + j := hpq
    omega
  · obtain ⟨hc, rfl⟩ := World_at hk
    exact hz.cell hc
/-- the kinds of rows -/
def tysOf (T : Nat → ClassId) : List (ClassId × FieldType) := [(T 0, .int), (T 1, .boolean), (T 0, .int), (T 0, .int), (T 0, .int), (T 5, .object "CompostKeys$Compost")]
/-- a static row of ints, with its numbers -/
def sRow (T : Nat → ClassId) (n : String) (N : Nat) (f : Nat → Int) (z : Nat) (U : State) (H : Heap) : Prop := ∃ t : Nat, va_Z "CompostKeys" n "[I" (.ref t) (Own T z) U H ∧ va_T .int t N (fun j => .int (kI (f j))) (Own T z) U H
def sFirst (j : Nat) : Int := if j = 0 then 0 else if j = 1 then 4 else 3
def sLeast (j : Nat) : Int := if j = 1 then 1 else 0
def sMost (j : Nat) : Int := if j = 0 then 3 else if j = 1 then 9 else 20
/-- what lies outside of the memory -/
def Ev (T : Nat → ClassId) (z : Nat) (U : State) (H : Heap) : Prop :=
  vx_Zq Bundle.tN "UNASSIGNED_STACK" Bundle.steD (Own T z) U H ∧ vx_Zq Bundle.tN "SUPPRESSED_SENTINEL" Bundle.listD (Own T z) U H ∧
  sRow T "SETTING_AT_FIRST" 3 sFirst z U H ∧ sRow T "SETTING_LEAST" 3 sLeast z U H ∧ sRow T "SETTING_MOST" 3 sMost z U H
theorem sRow.use {T : Nat → ClassId} {n : String} {N : Nat} {f : Nat → Int} {z : Nat} {s U : State} {H H1 : Heap} (h : sRow T n N f z s H) (hq : ∀ a : Nat, a < H.size → ¬ Own T z a → H1[a]? = H[a]?) (hvm : s.vm.Alike U.vm) : sRow T n N f z U H1 := by
  obtain ⟨t, h1, h2⟩ := h
  exact ⟨t, va_Z.moved hvm (h1.kept hq), va_T.moved hvm (h2.kept hq)⟩
theorem Ev.use {T : Nat → ClassId} {z : Nat} {s U : State} {H H1 : Heap} (h : Ev T z s H) (hq : ∀ a : Nat, a < H.size → ¬ Own T z a → H1[a]? = H[a]?) (hvm : s.vm.Alike U.vm) : Ev T z U H1 :=
  ⟨vx_Zq.moved hvm (h.1.kept hq), vx_Zq.moved hvm (h.2.1.kept hq), h.2.2.1.use hq hvm, h.2.2.2.1.use hq hvm, h.2.2.2.2.use hq hvm⟩
/-- a method's start: the memory, the tables, what lies outside -/
def St (D : va_G) (T : Nat → ClassId) (z n : Nat) (σ : Mem) (U : State) : Prop := va_P D vwCl (World T z σ n) U.heap ∧ va_K D vwCl (tysOf T) U ∧ Ev T z U U.heap ∧ Hz T z n U.heap.size
/-- on the way: s is the method's start, H the heap now -/
def Wd (D : va_G) (T : Nat → ClassId) (z n : Nat) (σ : Mem) (s : State) (H : Heap) (locs : List Loc) : Prop := va_P D vwCl (World T z σ n) H ∧ va_K D vwCl (tysOf T) s ∧ va_S (Own T z) s.heap H locs ∧ Ev T z s s.heap ∧ Hz T z n s.heap.size
theorem St.blind {D : va_G} {T : Nat → ClassId} {z n : Nat} {σ : Mem} {U V : State} (hh : V.heap = U.heap) (hvm : U.vm.Alike V.vm) (h : St D T z n σ U) : St D T z n σ V := by
  obtain ⟨h1, h2, h3, h4⟩ := h
  exact ⟨by rw [hh]; exact h1, va_K.moved hvm h2, by rw [hh]; exact h3.use (fun _ _ _ => rfl) hvm, by rw [hh]; exact h4⟩
theorem Wd.of {D : va_G} {T : Nat → ClassId} {z n : Nat} {σ : Mem} {s : State} (h : St D T z n σ s) : Wd D T z n σ s s.heap [] := ⟨h.1, h.2.1, va_S.rf, h.2.2.1, h.2.2.2⟩
theorem Wd.st {D : va_G} {T : Nat → ClassId} {z n : Nat} {σ : Mem} {s : State} {H : Heap} {locs : List Loc} (h : Wd D T z n σ s H locs) {U : State} (hU : U.heap = H) (hvm : s.vm.Alike U.vm) : St D T z n σ U := by
  obtain ⟨h1, h2, h3, h4, h5⟩ := h
  exact ⟨by rw [hU]; exact h1, va_K.moved hvm h2, by rw [hU]; exact h4.use (fun a ha hn => h3.2.1 a ha hn) hvm, by rw [hU]; exact h5.up h3.1⟩
theorem Wd.next {D : va_G} {T : Nat → ClassId} {z n : Nat} {σ τ : Mem} {s t : State} {H H1 : Heap} {locs locs1 : List Loc} (h : Wd D T z n σ s H locs) (hst : St D T z n τ t) (ht : t.heap = H1) (hS : va_S (Own T z) s.heap H1 locs1) : Wd D T z n τ s H1 locs1 :=
  ⟨by rw [← ht]; exact hst.1, h.2.1, hS, h.2.2.2.1, h.2.2.2.2⟩
theorem Wd.put {D : va_G} {T : Nat → ClassId} {z n k : Nat} {σ τ : Mem} {e : va_E} {s : State} {H H1 : Heap} {locs locs1 : List Loc} (h : Wd D T z n σ s H locs) (hP : va_P D vwCl ((World T z σ n).set k (z + k, e)) H1) (hS : va_S (Own T z) s.heap H1 locs1) (ho : ∀ c', c' ≠ k → τ c' = σ c') (he : shp T z k (τ k) = e) : Wd D T z n τ s H1 locs1 :=
  ⟨by rw [← World_set ho he]; exact hP, h.2.1, hS, h.2.2.2.1, h.2.2.2.2⟩
theorem Wd.hA {D : va_G} {T : Nat → ClassId} {z n : Nat} {σ : Mem} {s : State} {H : Heap} {locs : List Loc} (h : Wd D T z n σ s H locs) : ∀ q, s.heap.size ≤ q → Own T z q := fun _ hq => h.2.2.2.2.own hq
theorem Wd.cong {D : va_G} {T : Nat → ClassId} {z n : Nat} {σ τ : Mem} {s : State} {H : Heap} {locs : List Loc} (h : Wd D T z n σ s H locs) (e : σ = τ) : Wd D T z n τ s H locs := e ▸ h
theorem c_upd {N : Nat} {g : Int → Int} {i v : Int} (h0 : 0 ≤ i) (h1 : i < N) (hN : N < 2147483648) : upd (fun j => kI (g j)) (kI i).toNatClampNeg (kI v) = fun j : Nat => kI (if (j : Int) = i then v else g j) := by
  have hc := kI_cl h0 (show i ≤ 2147483647 by omega)
  funext j
  by_cases hj : j = (kI i).toNatClampNeg
  · subst hj
    rw [hc]
    simp [upd]
  · have : ¬ (j : Int) = i := fun h => hj (by rw [← hc] at h; exact Int.ofNat.inj h)
    simp [upd, hj, this]
section LAY
variable {p : Program} {l : Launch} {e : Env} {R : Room} {s : State} {m : MethodId} {args : Array Value} {below : List Frame} {meth : Method} {c : Code} {H : Heap} {locs : List Loc} {cells slots : Nat} {Q : State → Prop}
variable {cc : ByteArray} {pc : Nat} {ls : Array Slot} {rest : List Value} {D : va_G} {T : Nat → ClassId} {z n : Nat} {σ : Mem}
/-! whole numbers -/
theorem r_bipush (hx : p.tables.exec = Jvm.exec) (hb : c.code = cc) {v : Int} (hdg : decode cc pc = .ok (.bipush v, 2)) (hv : (Int8.ofInt v).toInt32 = kI v) (k : W p l e R s m args below meth c H locs cells slots Q (F0 m (pc + 2) ls (.int (kI v) :: rest))) : W p l e R s m args below meth c H locs cells slots Q (F0 m pc ls rest) := lv_bipush hx hb hdg hv k
theorem r_sipush (hx : p.tables.exec = Jvm.exec) (hb : c.code = cc) {v : Int} (hdg : decode cc pc = .ok (.sipush v, 3)) (hv : (Int16.ofInt v).toInt32 = kI v) (k : W p l e R s m args below meth c H locs cells slots Q (F0 m (pc + 3) ls (.int (kI v) :: rest))) : W p l e R s m args below meth c H locs cells slots Q (F0 m pc ls rest) := lv_sipush hx hb hdg hv k
theorem r_iconst (hx : p.tables.exec = Jvm.exec) (hb : c.code = cc) {v : Int} (hdg : decode cc pc = .ok (.iconst v, 1)) (k : W p l e R s m args below meth c H locs cells slots Q (F0 m (pc + 1) ls (.int (kI v) :: rest))) : W p l e R s m args below meth c H locs cells slots Q (F0 m pc ls rest) := lv_iconst hx hb hdg rfl k
theorem r_iadd (hx : p.tables.exec = Jvm.exec) (hb : c.code = cc) {a b : Int} (hdg : decode cc pc = .ok (.iadd, 1)) (k : W p l e R s m args below meth c H locs cells slots Q (F0 m (pc + 1) ls (.int (kI (a + b)) :: rest))) : W p l e R s m args below meth c H locs cells slots Q (F0 m pc ls (.int (kI b) :: .int (kI a) :: rest)) := lv_iadd hx hb hdg (by rw [kI_add]; exact k)
theorem r_isub (hx : p.tables.exec = Jvm.exec) (hb : c.code = cc) {a b : Int} (hdg : decode cc pc = .ok (.isub, 1)) (k : W p l e R s m args below meth c H locs cells slots Q (F0 m (pc + 1) ls (.int (kI (a - b)) :: rest))) : W p l e R s m args below meth c H locs cells slots Q (F0 m pc ls (.int (kI b) :: .int (kI a) :: rest)) := lv_isub hx hb hdg (by rw [kI_sub]; exact k)
theorem r_imul (hx : p.tables.exec = Jvm.exec) (hb : c.code = cc) {a b : Int} (hdg : decode cc pc = .ok (.imul, 1)) (k : W p l e R s m args below meth c H locs cells slots Q (F0 m (pc + 1) ls (.int (kI (a * b)) :: rest))) : W p l e R s m args below meth c H locs cells slots Q (F0 m pc ls (.int (kI b) :: .int (kI a) :: rest)) := lv_imul hx hb hdg (by rw [kI_mul]; exact k)
theorem kI_ne0 {d : Int} (h : 0 < d) (h1 : d ≤ 2147483647) : ¬ kI d = 0 := by
  rw [← kI_0, kI_eq ⟨by omega, h1⟩ ⟨by omega, by omega⟩]; omega
theorem r_idiv (hx : p.tables.exec = Jvm.exec) (hb : c.code = cc) {a d : Int} (hdg : decode cc pc = .ok (.idiv, 1)) (h0 : 0 ≤ a) (h1 : a ≤ 2147483647) (h2 : 0 < d) (h3 : d ≤ 2147483647) (k : W p l e R s m args below meth c H locs cells slots Q (F0 m (pc + 1) ls (.int (kI (a / d)) :: rest))) : W p l e R s m args below meth c H locs cells slots Q (F0 m pc ls (.int (kI d) :: .int (kI a) :: rest)) := lv_idiv hx hb hdg (kI_ne0 h2 h3) (by rw [kI_div h0 h1 h2 h3]; exact k)
theorem r_irem (hx : p.tables.exec = Jvm.exec) (hb : c.code = cc) {a d : Int} (hdg : decode cc pc = .ok (.irem, 1)) (h0 : 0 ≤ a) (h1 : a ≤ 2147483647) (h2 : 0 < d) (h3 : d ≤ 2147483647) (k : W p l e R s m args below meth c H locs cells slots Q (F0 m (pc + 1) ls (.int (kI (a % d)) :: rest))) : W p l e R s m args below meth c H locs cells slots Q (F0 m pc ls (.int (kI d) :: .int (kI a) :: rest)) := lv_irem hx hb hdg (kI_ne0 h2 h3) (by rw [kI_rem h0 h1 h2 h3]; exact k)
theorem r_iinc (hx : p.tables.exec = Jvm.exec) (hb : c.code = cc) {i nL k : Nat} {v a : Int} {lv lv' : List (Nat × Value)} (hdg : decode cc pc = .ok (.iinc i v, 3)) (h : lv_has ls nL lv) (hk : lv[k]? = some (i, .int (kI a))) (hn : i < nL) (hl : (i, Value.int (kI (a + v))) :: lv.filter (fun q => !(q.1 == i) && !(q.1 + 1 == i && q.2.category == 2)) = lv')
    (kk : ∀ ls' : Array Slot, lv_has ls' nL lv' → W p l e R s m args below meth c H locs cells slots Q (F0 m (pc + 3) ls' rest)) : W p l e R s m args below meth c H locs cells slots Q (F0 m pc ls rest) := lv_iinc (v := kI (a + v)) hx hb hdg h hk (by rw [← kI_add]; rfl) hn hl kk
section CMP
variable {a b : Int} {off : Int} {tgt : Nat}
theorem r_icmp_lt (hx : p.tables.exec = Jvm.exec) (hb : c.code = cc) (ha : inR a) (hb' : inR b) (hdg : decode cc pc = .ok (.if_icmp .lt off, 3)) (ht : (pc : Int) + off = (tgt : Int)) (kt : a < b → W p l e R s m args below meth c H locs cells slots Q (F0 m tgt ls rest)) (kf : ¬ a < b → W p l e R s m args below meth c H locs cells slots Q (F0 m (pc + 3) ls rest)) : W p l e R s m args below meth c H locs cells slots Q (F0 m pc ls (.int (kI b) :: .int (kI a) :: rest)) := lv_icmp_lt hx hb hdg ht (fun h => kt ((kI_lt ha hb').mp h)) (fun h => kf (fun h' => h ((kI_lt ha hb').mpr h')))
theorem r_icmp_ge (hx : p.tables.exec = Jvm.exec) (hb : c.code = cc) (ha : inR a) (hb' : inR b) (hdg : decode cc pc = .ok (.if_icmp .ge off, 3)) (ht : (pc : Int) + off = (tgt : Int)) (kt : b ≤ a → W p l e R s m args below meth c H locs cells slots Q (F0 m tgt ls rest)) (kf : ¬ b ≤ a → W p l e R s m args below meth c H locs cells slots Q (F0 m (pc + 3) ls rest)) : W p l e R s m args below meth c H locs cells slots Q (F0 m pc ls (.int (kI b) :: .int (kI a) :: rest)) := lv_icmp_ge hx hb hdg ht (fun h => kt ((kI_le hb' ha).mp h)) (fun h => kf (fun h' => h ((kI_le hb' ha).mpr h')))
theorem r_icmp_gt (hx : p.tables.exec = Jvm.exec) (hb : c.code = cc) (ha : inR a) (hb' : inR b) (hdg : decode cc pc = .ok (.if_icmp .gt off, 3)) (ht : (pc : Int) + off = (tgt : Int)) (kt : b < a → W p l e R s m args below meth c H locs cells slots Q (F0 m tgt ls rest)) (kf : ¬ b < a → W p l e R s m args below meth c H locs cells slots Q (F0 m (pc + 3) ls rest)) : W p l e R s m args below meth c H locs cells slots Q (F0 m pc ls (.int (kI b) :: .int (kI a) :: rest)) := lv_icmp_gt hx hb hdg ht (fun h => kt ((kI_lt hb' ha).mp h)) (fun h => kf (fun h' => h ((kI_lt hb' ha).mpr h')))
theorem r_icmp_le (hx : p.tables.exec = Jvm.exec) (hb : c.code = cc) (ha : inR a) (hb' : inR b) (hdg : decode cc pc = .ok (.if_icmp .le off, 3)) (ht : (pc : Int) + off = (tgt : Int)) (kt : a ≤ b → W p l e R s m args below meth c H locs cells slots Q (F0 m tgt ls rest)) (kf : ¬ a ≤ b → W p l e R s m args below meth c H locs cells slots Q (F0 m (pc + 3) ls rest)) : W p l e R s m args below meth c H locs cells slots Q (F0 m pc ls (.int (kI b) :: .int (kI a) :: rest)) := lv_icmp_le hx hb hdg ht (fun h => kt ((kI_le ha hb').mp h)) (fun h => kf (fun h' => h ((kI_le ha hb').mpr h')))
theorem r_icmp_eq (hx : p.tables.exec = Jvm.exec) (hb : c.code = cc) (ha : inR a) (hb' : inR b) (hdg : decode cc pc = .ok (.if_icmp .eq off, 3)) (ht : (pc : Int) + off = (tgt : Int)) (kt : a = b → W p l e R s m args below meth c H locs cells slots Q (F0 m tgt ls rest)) (kf : ¬ a = b → W p l e R s m args below meth c H locs cells slots Q (F0 m (pc + 3) ls rest)) : W p l e R s m args below meth c H locs cells slots Q (F0 m pc ls (.int (kI b) :: .int (kI a) :: rest)) := lv_icmp_eq hx hb hdg ht (fun h => kt ((kI_eq ha hb').mp h)) (fun h => kf (fun h' => h ((kI_eq ha hb').mpr h')))
theorem r_icmp_ne (hx : p.tables.exec = Jvm.exec) (hb : c.code = cc) (ha : inR a) (hb' : inR b) (hdg : decode cc pc = .ok (.if_icmp .ne off, 3)) (ht : (pc : Int) + off = (tgt : Int)) (kt : ¬ a = b → W p l e R s m args below meth c H locs cells slots Q (F0 m tgt ls rest)) (kf : a = b → W p l e R s m args below meth c H locs cells slots Q (F0 m (pc + 3) ls rest)) : W p l e R s m args below meth c H locs cells slots Q (F0 m pc ls (.int (kI b) :: .int (kI a) :: rest)) := lv_icmp_ne hx hb hdg ht (fun h => kt (fun h' => h ((kI_eq ha hb').mpr h'))) (fun h => kf ((kI_eq ha hb').mp (by first | exact h | exact Decidable.not_not.mp h)))
theorem r_if_eq (hx : p.tables.exec = Jvm.exec) (hb : c.code = cc) (ha : inR a) (hdg : decode cc pc = .ok (.ifCond .eq off, 3)) (ht : (pc : Int) + off = (tgt : Int)) (kt : a = 0 → W p l e R s m args below meth c H locs cells slots Q (F0 m tgt ls rest)) (kf : ¬ a = 0 → W p l e R s m args below meth c H locs cells slots Q (F0 m (pc + 3) ls rest)) : W p l e R s m args below meth c H locs cells slots Q (F0 m pc ls (.int (kI a) :: rest)) := lv_if_eq hx hb hdg ht (fun h => kt ((kI_eq ha ⟨by decide, by decide⟩).mp h)) (fun h => kf (fun h' => h (by rw [h']; rfl)))
theorem r_if_ne (hx : p.tables.exec = Jvm.exec) (hb : c.code = cc) (ha : inR a) (hdg : decode cc pc = .ok (.ifCond .ne off, 3)) (ht : (pc : Int) + off = (tgt : Int)) (kt : ¬ a = 0 → W p l e R s m args below meth c H locs cells slots Q (F0 m tgt ls rest)) (kf : a = 0 → W p l e R s m args below meth c H locs cells slots Q (F0 m (pc + 3) ls rest)) : W p l e R s m args below meth c H locs cells slots Q (F0 m pc ls (.int (kI a) :: rest)) := lv_if_ne hx hb hdg ht (fun h => kt (fun h' => h (by rw [h']; rfl))) (fun h => kf ((kI_eq ha ⟨by decide, by decide⟩).mp (by first | exact h | exact Decidable.not_not.mp h)))
theorem r_if_lt (hx : p.tables.exec = Jvm.exec) (hb : c.code = cc) (ha : inR a) (hdg : decode cc pc = .ok (.ifCond .lt off, 3)) (ht : (pc : Int) + off = (tgt : Int)) (kt : a < 0 → W p l e R s m args below meth c H locs cells slots Q (F0 m tgt ls rest)) (kf : ¬ a < 0 → W p l e R s m args below meth c H locs cells slots Q (F0 m (pc + 3) ls rest)) : W p l e R s m args below meth c H locs cells slots Q (F0 m pc ls (.int (kI a) :: rest)) := lv_if_lt hx hb hdg ht (fun h => kt ((kI_lt ha (b := 0) ⟨by decide, by decide⟩).mp h)) (fun h => kf (fun h' => h ((kI_lt ha (b := 0) ⟨by decide, by decide⟩).mpr h')))
theorem r_if_ge (hx : p.tables.exec = Jvm.exec) (hb : c.code = cc) (ha : inR a) (hdg : decode cc pc = .ok (.ifCond .ge off, 3)) (ht : (pc : Int) + off = (tgt : Int)) (kt : 0 ≤ a → W p l e R s m args below meth c H locs cells slots Q (F0 m tgt ls rest)) (kf : ¬ 0 ≤ a → W p l e R s m args below meth c H locs cells slots Q (F0 m (pc + 3) ls rest)) : W p l e R s m args below meth c H locs cells slots Q (F0 m pc ls (.int (kI a) :: rest)) := lv_if_ge hx hb hdg ht (fun h => kt ((kI_le (a := 0) ⟨by decide, by decide⟩ ha).mp h)) (fun h => kf (fun h' => h ((kI_le (a := 0) ⟨by decide, by decide⟩ ha).mpr h')))
theorem r_if_gt (hx : p.tables.exec = Jvm.exec) (hb : c.code = cc) (ha : inR a) (hdg : decode cc pc = .ok (.ifCond .gt off, 3)) (ht : (pc : Int) + off = (tgt : Int)) (kt : 0 < a → W p l e R s m args below meth c H locs cells slots Q (F0 m tgt ls rest)) (kf : ¬ 0 < a → W p l e R s m args below meth c H locs cells slots Q (F0 m (pc + 3) ls rest)) : W p l e R s m args below meth c H locs cells slots Q (F0 m pc ls (.int (kI a) :: rest)) := lv_if_gt hx hb hdg ht (fun h => kt ((kI_lt (a := 0) ⟨by decide, by decide⟩ ha).mp h)) (fun h => kf (fun h' => h ((kI_lt (a := 0) ⟨by decide, by decide⟩ ha).mpr h')))
theorem r_if_le (hx : p.tables.exec = Jvm.exec) (hb : c.code = cc) (ha : inR a) (hdg : decode cc pc = .ok (.ifCond .le off, 3)) (ht : (pc : Int) + off = (tgt : Int)) (kt : a ≤ 0 → W p l e R s m args below meth c H locs cells slots Q (F0 m tgt ls rest)) (kf : ¬ a ≤ 0 → W p l e R s m args below meth c H locs cells slots Q (F0 m (pc + 3) ls rest)) : W p l e R s m args below meth c H locs cells slots Q (F0 m pc ls (.int (kI a) :: rest)) := lv_if_le hx hb hdg ht (fun h => kt ((kI_le ha (b := 0) ⟨by decide, by decide⟩).mp h)) (fun h => kf (fun h' => h ((kI_le ha (b := 0) ⟨by decide, by decide⟩).mpr h')))
end CMP
/-! rows of the memory -/
theorem r_iald (hx : p.tables.exec = Jvm.exec) (hb : c.code = cc) (G : Wd D T z n σ s H locs) (k : Nat) (hk : k < n) {N : Nat} (hsh : ∀ f, shp T z k f = .inl (T 0, N, .inl (fun j => kI (f j)))) {i : Int} (h0 : 0 ≤ i) (h1 : i < (N : Int)) (hN : N < 2147483648) (hdg : decode cc pc = .ok (.iaload, 1)) (kk : W p l e R s m args below meth c H locs cells slots Q (F0 m (pc + 1) ls (.int (kI (σ k i)) :: rest))) : W p l e R s m args below meth c H locs cells slots Q (F0 m pc ls (.int (kI i) :: .ref (z + k) :: rest)) := by
  have hg := World_get (T := T) (z := z) (σ := σ) hk
  rw [hsh] at hg
  refine va_iald hx hb G.2.1 G.1 k 0 hg rfl (kI_in h0 h1 hN) hdg ?_
  rw [kI_cl h0 (by omega)]
  exact kk
theorem r_zald (hx : p.tables.exec = Jvm.exec) (hb : c.code = cc) (G : Wd D T z n σ s H locs) (k : Nat) (hk : k < n) {N : Nat} (hsh : ∀ f, shp T z k f = .inl (T 1, N, .inl (fun j => kI (f j)))) {i : Int} (h0 : 0 ≤ i) (h1 : i < (N : Int)) (hN : N < 2147483648) (hdg : decode cc pc = .ok (.baload, 1)) (kk : W p l e R s m args below meth c H locs cells slots Q (F0 m (pc + 1) ls (.int (kI (σ k i)) :: rest))) : W p l e R s m args below meth c H locs cells slots Q (F0 m pc ls (.int (kI i) :: .ref (z + k) :: rest)) := by
  have hg := World_get (T := T) (z := z) (σ := σ) hk
  rw [hsh] at hg
  refine va_zald hx hb G.2.1 G.1 k 1 hg rfl (kI_in h0 h1 hN) hdg ?_
  rw [kI_cl h0 (by omega)]
  exact kk
theorem r_iast (hx : p.tables.exec = Jvm.exec) (hb : c.code = cc) (G : Wd D T z n σ s H locs) (k : Nat) (hk : k < n) {N : Nat} (hsh : ∀ f, shp T z k f = .inl (T 0, N, .inl (fun j => kI (f j)))) {i v : Int} (h0 : 0 ≤ i) (h1 : i < (N : Int)) (hN : N < 2147483648) (hdg : decode cc pc = .ok (.iastore, 1)) (kk : ∀ (H1 : Heap) (locs1 : List Loc), Wd D T z n (up σ k i v) s H1 locs1 → W p l e R s m args below meth c H1 locs1 cells slots Q (F0 m (pc + 1) ls rest)) : W p l e R s m args below meth c H locs cells slots Q (F0 m pc ls (.int (kI v) :: .int (kI i) :: .ref (z + k) :: rest)) := by
  have hg := World_get (T := T) (z := z) (σ := σ) hk
  rw [hsh] at hg
  refine va_iast hx hb G.2.1 G.1 (World_D G.2.2.2.2) G.2.2.1 k 0 hg rfl (kI_in h0 h1 hN) hdg (fun H1 locs1 hP hD hS => kk H1 locs1 (G.put hP hS (fun c' hc => up_o hc) ?_))
  rw [hsh, up_s, c_upd h0 h1 hN]
theorem vp_nar_z {v : Int} (h : v = 0 ∨ v = 1) : vp_nar .boolean (kI v) = kI v := by
  rcases h with rfl | rfl <;> decide
theorem r_zast (hx : p.tables.exec = Jvm.exec) (hb : c.code = cc) (G : Wd D T z n σ s H locs) (k : Nat) (hk : k < n) {N : Nat} (hsh : ∀ f, shp T z k f = .inl (T 1, N, .inl (fun j => kI (f j)))) {i v : Int} (hv : v = 0 ∨ v = 1) (h0 : 0 ≤ i) (h1 : i < (N : Int)) (hN : N < 2147483648) (hdg : decode cc pc = .ok (.bastore, 1)) (kk : ∀ (H1 : Heap) (locs1 : List Loc), Wd D T z n (up σ k i v) s H1 locs1 → W p l e R s m args below meth c H1 locs1 cells slots Q (F0 m (pc + 1) ls rest)) : W p l e R s m args below meth c H locs cells slots Q (F0 m pc ls (.int (kI v) :: .int (kI i) :: .ref (z + k) :: rest)) := by
  have hg := World_get (T := T) (z := z) (σ := σ) hk
  rw [hsh] at hg
  refine va_zast hx hb G.2.1 G.1 (World_D G.2.2.2.2) G.2.2.1 k 1 hg rfl (kI_in h0 h1 hN) hdg (fun H1 locs1 hP hD hS => kk H1 locs1 (G.put hP hS (fun c' hc => up_o hc) ?_))
  rw [hsh, up_s, vp_nar_z hv, c_upd h0 h1 hN]
theorem r_get (hx : p.tables.exec = Jvm.exec) (hb : c.code = cc) (hts : ∀ w ∈ Gw, w.before args s = true) {own C : String} {Tx : u_T} {N ci index : Nat} (hown : s.vm.findClass own = some m.cls) (G : Wd D T z n σ s H locs) (hu : ∀ w ∈ u_ws C Tx N, w ∈ Gw) (k : Nat) (hk : k < n) {fs : List Value} (hsh : shp T z k (σ k) = .inr (ci, fs)) (hc : vwCl[ci]? = some (C, Tx, N)) (j : Nat) (hj : j < N) (hlink : Cond.fieldLink own index (Tx j).1 (Tx j).2.1 (Tx j).2.2.1 ∈ Gw) {v : Value} (hv : fs[j]? = some v) (hdg : decode cc pc = .ok (.getfield index, 3))
    (kk : W p l e R s m args below meth c H locs cells slots Q (F0 m (pc + 3) ls (v :: rest))) : W p l e R s m args below meth c H locs cells slots Q (F0 m pc ls (.ref (z + k) :: rest)) := by
  have hg := World_get (T := T) (z := z) (σ := σ) hk
  rw [hsh] at hg
  exact va_get hx hb hts hu hown G.2.1 G.1 k hg hc j hj (hts _ hlink) (fun _ h => h) hv hdg kk
theorem r_put (hx : p.tables.exec = Jvm.exec) (hb : c.code = cc) (hts : ∀ w ∈ Gw, w.before args s = true) {own C : String} {Tx : u_T} {N ci index : Nat} (hown : s.vm.findClass own = some m.cls) (G : Wd D T z n σ s H locs) (hu : ∀ w ∈ u_ws C Tx N, w ∈ Gw) (ty0 : Nat → FieldType) (hty : ∀ k, k < N → parseFieldDescriptor (Tx k).2.2.1 = some (ty0 k)) (hnm : ∀ a, a < N → ∀ b, b < N → a ≠ b → (Tx a).2.1 ≠ (Tx b).2.1) (k : Nat) (hk : k < n) {fs : List Value} (hsh : shp T z k (σ k) = .inr (ci, fs)) (hc : vwCl[ci]? = some (C, Tx, N)) (j : Nat) (hj : j < N) (hlink : Cond.fieldLink own index (Tx j).1 (Tx j).2.1 (Tx j).2.2.1 ∈ Gw) (hfin : (Tx j).2.2.2 = false) (hd : parseFieldDescriptor (Tx j).2.2.1 = some .int) {v : Int} (hl : j < fs.length) (hset : shp T z k (up σ k j v k) = .inr (ci, fs.set j (.int (kI v)))) (hdg : decode cc pc = .ok (.putfield index, 3))
    (kk : ∀ (H1 : Heap) (locs1 : List Loc), Wd D T z n (up σ k j v) s H1 locs1 → W p l e R s m args below meth c H1 locs1 cells slots Q (F0 m (pc + 3) ls rest)) : W p l e R s m args below meth c H locs cells slots Q (F0 m pc ls (.int (kI v) :: .ref (z + k) :: rest)) := by
  have hg := World_get (T := T) (z := z) (σ := σ) hk
  rw [hsh] at hg
  exact va_put hx hb hts hu ty0 hty hnm hown G.2.1 G.1 (World_D G.2.2.2.2) G.2.2.1 k hg hc j hj (hts _ hlink) (fun _ h => h) hfin hd rfl rfl hl hdg (fun H1 locs1 hP hD hS => kk H1 locs1 (G.put hP hS (fun c' hc => up_o hc) hset))
/-! contracts: an answer and the memory behind it, said outright -/
abbrev QI (D : va_G) (T : Nat → ClassId) (z n : Nat) (ret : Int) (τ : Mem) : Array Value → State → Outcome → State → Prop := va_Qi (fun (r : Int32) (u : Mem) => r = kI ret ∧ u = τ) (fun u => St D T z n u) (Own T z)
abbrev QV (D : va_G) (T : Nat → ClassId) (z n : Nat) (τ : Mem) : Array Value → State → Outcome → State → Prop := va_Qv (fun (u : Mem) => u = τ) (fun u => St D T z n u) (Own T z)
def rmN (fr lo : Nat) : Room := { frames := fr, cells := 0, slots := 0, locals := lo }
def CtI (l : Launch) (y : MethodName) (cw : Cond) (fr lo : Nat) (As : Nat → List Value) (σ : Mem) (ret : Int) (τ : Mem) : Prop := ∀ (D : va_G) (T : Nat → ClassId) (z : Nat), Met l y (cw :: Gw) (rmN fr lo) (va_Pc (As z) (St D T z 133 σ)) (QI D T z 133 ret τ) 0 0 (Own T z)
def CtV (l : Launch) (y : MethodName) (cw : Cond) (fr lo : Nat) (As : Nat → List Value) (σ τ : Mem) : Prop := ∀ (D : va_G) (T : Nat → ClassId) (z : Nat), Met l y (cw :: Gw) (rmN fr lo) (va_Pc (As z) (St D T z 133 σ)) (QV D T z 133 τ) 0 0 (Own T z)
end LAY
/-- a body's start, for any kind of end -/
theorem Ct_of {l : Launch} {y : MethodName} {cc : ByteArray} {maxL : Nat} {ret : Option FieldType} {fr lo : Nat} {As : List Value} {n : Nat} {D : va_G} {T : Nat → ClassId} {z : Nat} {σ : Mem} {Qc : Array Value → State → Outcome → State → Prop} (hy : plainName y.cls = true) (hA : (lg_sl As).length ≤ maxL)
    (body : ∀ (p : Program) (e : Env) (s : State) (m : MethodId) (below : List Frame) (meth : Method) (c : Code) (ls : Array Slot), p.tables.exec = Jvm.exec → c.code = cc → c.maxLocals = maxL → meth.sig.returnType = ret → (∀ w ∈ Gw, w.before As.toArray s = true) → s.vm.findClass y.cls = some m.cls → meth.locks = false → Wd D T z n σ s s.heap [] → lv_has ls maxL (lv_args 0 As) →
      W p l e (rmN fr lo) s m As.toArray below meth c s.heap [] 0 0 (MQ below Qc As.toArray s 0 0 (Own T z)) (F0 m 0 ls [])) :
    Met l y (Cond.code y cc maxL ret :: Gw) (rmN fr lo) (va_Pc As (St D T z n σ)) Qc 0 0 (Own T z) := by
  refine Met.ofW (cc := cc) (maxL := maxL) (ret := ret) hy rfl ?_
  intro p e s m args below meth c s₁ B hml hv
  obtain ⟨rfl, hst⟩ := hv
  have hts := atoms_spec (ws := Cond.code y cc maxL ret :: Gw) B.pre
  have hl := lv_entry As (n := maxL) hA
  rw [lg_entry_eq]
  exact body p e s m below meth c _ B.exec B.bytes hml B.returns (fun w h => hts w (List.mem_cons_of_mem _ h)) (findClass_of_methodNamed B.named) B.notSynchronized (Wd.of hst) hl
section LAY2
variable {p : Program} {l : Launch} {e : Env} {R : Room} {s : State} {m : MethodId} {args : Array Value} {below : List Frame} {meth : Method} {c : Code} {H : Heap} {locs : List Loc} {cells slots : Nat} {Q : State → Prop}
variable {cc : ByteArray} {pc : Nat} {ls : Array Slot} {rest st : List Value} {D : va_G} {T : Nat → ClassId} {z n : Nat} {σ τ τ' : Mem}
theorem r_iret (hx : p.tables.exec = Jvm.exec) (hb : c.code = cc) (hr : meth.sig.returnType = some .int) (hlk : meth.locks = false) (G : Wd D T z n τ' s H locs) {v ret : Int} (hv : v = ret) (hτ : τ' = τ) (hdg : decode cc pc = .ok (.ireturn, 1)) : W p l e R s m args below meth c H locs cells slots (MQ below (QI D T z n ret τ) args s cells slots (Own T z)) (F0 m pc ls [.int (kI v)]) := by
  subst hv; subst hτ
  exact W.iret hx hb hr (fun t ht hW => ⟨⟨kI v, τ', rfl, ⟨rfl, rfl⟩, G.st ht hW.alike⟩, G.2.2.1.F ht⟩) G.2.2.1.2.2 hdg hlk
theorem r_zret (hx : p.tables.exec = Jvm.exec) (hb : c.code = cc) (hr : meth.sig.returnType = some .boolean) (hlk : meth.locks = false) (G : Wd D T z n τ' s H locs) {v ret : Int} (hz : v = 0 ∨ v = 1) (hv : v = ret) (hτ : τ' = τ) (hdg : decode cc pc = .ok (.ireturn, 1)) : W p l e R s m args below meth c H locs cells slots (MQ below (QI D T z n ret τ) args s cells slots (Own T z)) (F0 m pc ls [.int (kI v)]) := by
  subst hv; subst hτ
  exact W.zret hx hb hr (by rcases hz with rfl | rfl <;> rfl) (fun t ht hW => ⟨⟨kI v, τ', rfl, ⟨rfl, rfl⟩, G.st ht hW.alike⟩, G.2.2.1.F ht⟩) G.2.2.1.2.2 hdg hlk
theorem r_cret (hx : p.tables.exec = Jvm.exec) (hb : c.code = cc) (hr : meth.sig.returnType = some .char) (hlk : meth.locks = false) (G : Wd D T z n τ' s H locs) {v ret : Int} (hz : 0 ≤ v ∧ v < 65536) (hv : v = ret) (hτ : τ' = τ) (hdg : decode cc pc = .ok (.ireturn, 1)) : W p l e R s m args below meth c H locs cells slots (MQ below (QI D T z n ret τ) args s cells slots (Own T z)) (F0 m pc ls [.int (kI v)]) := by
  subst hv; subst hτ
  have hn : narrow .char (.int (kI v)) = .int (kI v) := by
    obtain ⟨k, rfl⟩ := Int.eq_ofNat_of_zero_le hz.1
    exact (pk_charN (q := k) (by omega)).1
  exact W.zret hx hb hr hn (fun t ht hW => ⟨⟨kI v, τ', rfl, ⟨rfl, rfl⟩, G.st ht hW.alike⟩, G.2.2.1.F ht⟩) G.2.2.1.2.2 hdg hlk
theorem r_vret (hx : p.tables.exec = Jvm.exec) (hb : c.code = cc) (hr : meth.sig.returnType = none) (hlk : meth.locks = false) (G : Wd D T z n τ' s H locs) (hτ : τ' = τ) (hdg : decode cc pc = .ok (.return_, 1)) : W p l e R s m args below meth c H locs cells slots (MQ below (QV D T z n τ) args s cells slots (Own T z)) (F0 m pc ls []) := by
  subst hτ
  exact W.vret hx hb hr (fun t ht hW => ⟨⟨τ', rfl, rfl, G.st ht hW.alike⟩, G.2.2.1.F ht⟩) G.2.2.1.2.2 hdg hlk
/-! calls -/
theorem cV (hts : ∀ w ∈ Gw, w.before args s = true) {own C : String} {idx na maxL fr lo : Nat} {y : MethodName} {bytes : ByteArray} {ret : Option FieldType} (h1 : Cond.methodLink own idx y ∈ Gw) (h2 : Cond.instanceMethod y ∈ Gw) (h3 : Cond.selects C y y ∈ Gw) (h4 : Cond.initialized C ∈ Gw) (h5 : Cond.code y bytes maxL ret ∈ Gw)
    (hd : y.cls = C ∧ y.cls ≠ "java/lang/invoke/MethodHandle" ∧ y.cls ≠ "java/lang/invoke/VarHandle" ∧ (parseMethodDescriptor y.desc).map (fun d => d.parameters.length) = some na) (hR : fr + 1 ≤ R.frames ∧ 8 + (maxL + 11) + lo ≤ R.locals) : CallW R s args own C idx y bytes maxL ret (Cond.code y bytes maxL ret :: Gw) (rmN fr lo) 0 0 na := by
  refine cwV na hts (fun w h => ?_) rfl rfl rfl hd hR
  have hw : w ∈ Gw := by
    simp only [wsV, List.cons_append, List.nil_append, List.mem_cons] at h
    rcases h with rfl | rfl | rfl | rfl | rfl | h
    · exact h1
    · exact h2
    · exact h3
    · exact h4
    · exact h5
    · exact h
  exact ⟨hw, good_of_word (Gw_good hw)⟩
theorem St_blind {As : List Value} : FrameBlind (va_Pc As (St D T z n σ)) := fun a U g mk h => ⟨h.1, h.2.blind rfl (Vm.Alike.refl U.vm)⟩
theorem recv (G : Wd D T z n σ s H locs) {C : String} {Tx : u_T} {N ci : Nat} (k : Nat) (hk : k < n) {fs : List Value} (hsh : shp T z k (σ k) = .inr (ci, fs)) (hc : vwCl[ci]? = some (C, Tx, N)) : ∃ cell : Cell, H[z + k]? = some cell ∧ cell.vm.isStatics = false ∧ s.vm.findClass C = some cell.cls := by
  have hg := World_get (T := T) (z := z) (σ := σ) hk
  rw [hsh] at hg
  exact va_recv G.2.1 G.1 hc hg
section CALLS
variable {own C : String} {idx na maxL nL fr lo a0 : Nat} {y : MethodName} {bytes : ByteArray} {rt : Option FieldType} {As As' : List Value} {ret : Int}
theorem r_callVI (S : CallFix p m c cc nL s args Gw own) (G : Wd D T z 133 σ s H locs) {Az : Nat → List Value} (hM : CtI l y (Cond.code y bytes maxL rt) fr lo Az σ ret τ) (cw : CallW R s args own C idx y bytes maxL rt (Cond.code y bytes maxL rt :: Gw) (rmN fr lo) 0 0 na) (hrv : ∃ cell : Cell, H[a0]? = some cell ∧ cell.vm.isStatics = false ∧ s.vm.findClass C = some cell.cls)
    (hAs : Az z = .ref a0 :: As') (hn : As'.length = na) (hsz : ls.size = nL) (hst : st = As'.reverse ++ .ref a0 :: rest) (hW : (rest.map fun v => v.category).sum ≤ 8) (hdg : decode cc pc = .ok (.invokevirtual idx, 3)) (hf : cells ≤ R.cells ∧ slots ≤ R.slots)
    (kk : ∀ (H1 : Heap) (locs1 : List Loc), Wd D T z 133 τ s H1 locs1 → W p l e R s m args below meth c H1 locs1 cells slots Q (F0 m (pc + 3) ls (.int (kI ret) :: rest))) : W p l e R s m args below meth c H locs cells slots Q (F0 m pc ls st) := by
  refine va_calli (va_runV (As := As') (rest := rest) (g := F0 m pc ls st) S (hM D T z) cw ⟨St_blind, hrv, fun U hU hWm => ⟨by rw [hAs], G.st hU hWm.alike⟩⟩ rfl hn hsz hst (lv_room (pc := pc) (ls := ls) (rest := st) hW) hdg hf) G.2.2.1 (fun q _ h => h) (fun q h => h) (fun r u t H1 locs1 ht hvm hw hB hz1 hk1 hS => ?_)
  obtain ⟨rfl, rfl⟩ := hw
  exact kk H1 locs1 (G.next hB ht hS)
theorem r_callVV (S : CallFix p m c cc nL s args Gw own) (G : Wd D T z 133 σ s H locs) {Az : Nat → List Value} (hM : CtV l y (Cond.code y bytes maxL rt) fr lo Az σ τ) (cw : CallW R s args own C idx y bytes maxL rt (Cond.code y bytes maxL rt :: Gw) (rmN fr lo) 0 0 na) (hrv : ∃ cell : Cell, H[a0]? = some cell ∧ cell.vm.isStatics = false ∧ s.vm.findClass C = some cell.cls)
    (hAs : Az z = .ref a0 :: As') (hn : As'.length = na) (hsz : ls.size = nL) (hst : st = As'.reverse ++ .ref a0 :: rest) (hW : (rest.map fun v => v.category).sum ≤ 8) (hdg : decode cc pc = .ok (.invokevirtual idx, 3)) (hf : cells ≤ R.cells ∧ slots ≤ R.slots)
    (kk : ∀ (H1 : Heap) (locs1 : List Loc), Wd D T z 133 τ s H1 locs1 → W p l e R s m args below meth c H1 locs1 cells slots Q (F0 m (pc + 3) ls rest)) : W p l e R s m args below meth c H locs cells slots Q (F0 m pc ls st) := by
  refine va_callv (va_runV (As := As') (rest := rest) (g := F0 m pc ls st) S (hM D T z) cw ⟨St_blind, hrv, fun U hU hWm => ⟨by rw [hAs], G.st hU hWm.alike⟩⟩ rfl hn hsz hst (lv_room (pc := pc) (ls := ls) (rest := st) hW) hdg hf) G.2.2.1 (fun q _ h => h) (fun q h => h) (fun u t H1 locs1 ht hvm hw hB hz1 hk1 hS => ?_)
  subst hw
  exact kk H1 locs1 (G.next hB ht hS)
end CALLS
end LAY2
