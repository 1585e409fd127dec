/-! the makers -/
theorem g_sett {p : Program} {l : Launch} {e : Env} {R : Room} {s : State} {m : MethodId} {args : Array Value} {below : List Frame} {meth : Method} {c : Code} {H : Heap} {locs : List Loc} {cells slots : Nat} {Q : State → Prop} {cc : ByteArray} {pc : Nat} {ls : Array Slot} {rest : List Value} {D : va_G} {T : Nat → ClassId} {z n : Nat} {E : Nat → va_E} {own : String} {idx : Nat} (hx : p.tables.exec = Jvm.exec) (hb : c.code = cc) (hml : c.maxLocals = ls.size) (hts : ∀ w ∈ Gw, w.before args s = true) (hown : s.vm.findClass own = some m.cls) (hlink : Cond.methodLink own idx (⟨RJ10, "arraycopy", "(Ljava/lang/Object;ILjava/lang/Object;II)V"⟩ : MethodName) ∈ Gw) (G : Gd D T z n E s H locs) {t : Nat} {f : Nat → Int} (hX : va_T .int t 3 (fun j => .int (kI (f j))) (Own T z) s s.heap) (k : Nat) (hk : k < n) {g : Nat → Int32} (he : E k = .inl (T 0, 3, .inl g)) (hR : 1 ≤ R.frames ∧ (rest.map fun v => v.category).sum + (nativeFrameWords "java/lang/System" "arraycopy" 5 + 11) ≤ R.locals) (hdg : decode cc pc = .ok (.invokestatic idx, 3))
    (kk : ∀ (H1 : Heap) (locs1 : List Loc), Gd D T z n (upE E k (.inl (T 0, 3, .inl (va_cpy (fun j => kI (f j)) g 0 0 3)))) s H1 locs1 → W p l e R s m args below meth c H1 locs1 cells slots Q (F0 m (pc + 3) ls rest)) : W p l e R s m args below meth c H locs cells slots Q (F0 m pc ls (.int (kI 3) :: .int (kI 0) :: .ref (z + k) :: .int (kI 0) :: .ref t :: rest)) := by
  have ha1 := gW_get (z := z) (E := E) hk
  rw [he] at ha1
  intro St hT X
  obtain ⟨scr, hs1, hs2, hs3, hs4, -, hs5, hs7⟩ := hX
  have hc0 : H[t]? = some scr := by rw [G.2.2.1.2.1 t (Array.getElem?_eq_some_iff.mp hs1).1 hs7]; exact hs1
  have hc1 : H[z + k]? = some (vp_cell (T 0) (3, .inl g)) := G.1 k _ ha1
  obtain ⟨hs6, k0, hk0, cm0, hkk0⟩ := hs2
  obtain ⟨-, k1, hk1, cm1, hkk1⟩ := (G.2.1.2 0 (T 0, .int) rfl).1 3 (fun j => .int (g j))
  have t3 : (kI 3).toInt = 3 := by decide
  have t0 : (kI 0).toInt = 0 := by decide
  have n3 : (kI 3).toNatClampNeg = 3 := by decide
  have n0 : (kI 0).toNatClampNeg = 0 := by decide
  obtain ⟨vm', X', step⟩ := X.arraycopy hx hown (hts _ hlink) (hts _ qNat_J10_arraycopy_LjavalangObjectILjavalangObjectIIV) (hts _ qS_J10_arraycopy_LjavalangObjectILjavalangObjectIIV) (hts _ qN_J10) (src := t) (dst := z + k) (cs := scr) (cd := vp_cell (T 0) (3, .inl g)) (srcPos := kI 0) (destPos := kI 0) (n := kI 3) (by rw [hT]; exact hc0) (by rw [hT]; exact hc1)
    hs6 (fun _ h => by cases h) hs3 (fun h => by cases h) hk0 hk1 hkk0 hkk1 (by simp [refKind]) (by decide) (by decide) (by decide)
    (by rw [t3, t0]; omega)
    (by rw [t3, t0]; show ¬ _ > ((arrV (T 0) 3 (fun j => .int (g j))).slots.size : Int); rw [arrV_size]; decide)
    (fun vm₁ _ i hi => by
      rw [n3] at hi
      rw [n0]
      have e : scr.slots.getD (0 + i) .null = .int (kI (f (0 + i))) := by
        rw [Array.getD_eq_getD_getElem?, hs5 _ (by omega)]
        rfl
      refine ⟨?_, ?_⟩
      · rw [e]
        rfl
      · rw [e]
        exact trivial)
    (g := F0 m pc ls (.int (kI 3) :: .int (kI 0) :: .ref (z + k) :: .int (kI 0) :: .ref t :: rest)) rfl (by rw [hml]) (rest := rest) rfl (by rw [hb]; exact hdg) hR.1 (by show 2 * 0 + _ + _ ≤ _; omega)
  have e1 : copied scr (vp_cell (T 0) (3, .inl g)) (kI 0) (kI 0) (kI 3) = vp_cell (T 0) (3, .inl (va_cpy (fun j => kI (f j)) g 0 0 3)) := va_copiedX (n0 := 3) (sp := 0) (dp := 0) (n := 3) (fun z => .int z) scr (T 0) (fun j => kI (f j)) g hs5 (by decide)
  rw [e1] at X' step
  have hl : z + k < H.size := (Array.getElem?_eq_some_iff.mp hc1).1
  generalize hC : vp_cell (T 0) (3, .inl (va_cpy (fun j => kI (f j)) g 0 0 3)) = C at X' step
  have hheap : ((St.setVm vm').setCell (z + k) C).heap = H.setIfInBounds (z + k) C := by rw [← hT]; rfl
  have oq : ∀ q : Nat, q ≠ z + k → (H.setIfInBounds (z + k) C)[q]? = H[q]? := fun q hq => by simp [Array.getElem?_setIfInBounds, Ne.symm hq]
  have hset : va_at D vwCl (z + k, .inl (T 0, 3, .inl (va_cpy (fun j => kI (f j)) g 0 0 3))) (H.setIfInBounds (z + k) C) := by
    show (H.setIfInBounds (z + k) C)[z + k]? = some (vp_cell (T 0) (3, .inl (va_cpy (fun j => kI (f j)) g 0 0 3)))
    rw [hC]
    simp [Array.getElem?_setIfInBounds, hl]
  have hP := G.1.set (gW_D G.2.2.2.2.2) ha1 hset oq
  have hA : Own T z (z + k) := ⟨Nat.le_add_right _ _, by have h1 := G.2.2.2.2.2; omega⟩
  obtain ⟨t2, a1, b1⟩ := kk _ _ ⟨by rw [← gW_set]; exact hP, G.2.1, ⟨by simp; exact G.2.2.1.1, fun q g1 g2 => by
      rw [oq q (fun e => g2 (by rw [e]; exact hA))]
      exact G.2.2.1.2.1 q g1 g2, fun q hq => by
      rcases List.mem_append.mp hq with h | h
      · exact G.2.2.1.2.2 q h
      · obtain ⟨z', -, hz⟩ := List.mem_map.mp h
        rw [← hz]
        exact hA⟩, G.2.2.2⟩ _ hheap X'
  exact ⟨t2, step t2 a1, b1⟩
theorem upE_e {E : Nat → va_E} {c c' : Nat} {e : va_E} (h : c' = c) : upE E c e c' = e := by rw [h]; exact upE_s
theorem arrV_congr {cA : ClassId} {N : Nat} {f g : Nat → Value} (h : ∀ j, j < N → f j = g j) : arrV cA N f = arrV cA N g := by
  unfold arrV
  congr 1
  exact congrArg Array.ofFn (funext fun j => h j.val j.isLt)
/-- a row of references: what lies behind its end says nothing -/
theorem Gd.rq {D : va_G} {T : Nat → ClassId} {z n : Nat} {E : Nat → va_E} {s : State} {H : Heap} {locs : List Loc} (G : Gd D T z n E s H locs) (k : Nat) {N : Nat} {f g : Nat → Option Nat} (he : E k = .inl (T 5, N, .inr (.inr (.inr (.inr f))))) (h : ∀ j, j < N → f j = g j) : Gd D T z n (upE E k (.inl (T 5, N, .inr (.inr (.inr (.inr g)))))) s H locs := by
  refine ⟨fun j q hq => ?_, G.2⟩
  obtain ⟨hj, rfl⟩ := gW_at hq
  have h1 := G.1 j _ (gW_get hj)
  by_cases e : j = k
  · subst e
    rw [upE_s]
    rw [he] at h1
    show H[z + j]? = some (vp_cell (T 5) (N, .inr (.inr (.inr (.inr g)))))
    have h2 : H[z + j]? = some (vp_cell (T 5) (N, .inr (.inr (.inr (.inr f))))) := h1
    rw [h2, vp_cell_q, vp_cell_q]
    congr 1
    exact arrV_congr (fun i hi => by rw [h i hi])
  · rw [upE_o e]; exact h1
theorem io_z {k : Nat} (h2 : k ≠ 2) (h13 : k ≠ 13) : (fun j : Nat => kI (io k (j : Int))) = fun _ => 0 := by
  funext j
  unfold io
  rw [if_neg (fun q => h2 q.1), if_neg (fun q => h13 q.1)]
  rfl
theorem io_2 : upd (upd (upd (upd (fun _ => 0) (0 : Int).toNat (kI 5)) (1 : Int).toNat (kI 5)) (2 : Int).toNat (kI 5)) (3 : Int).toNat (kI 5) = fun j : Nat => kI (io 2 (j : Int)) := by
  funext j
  by_cases h : j < 4
  · rcases (by omega : j = 0 ∨ j = 1 ∨ j = 2 ∨ j = 3) with rfl | rfl | rfl | rfl <;> rfl
  · have e : io 2 (j : Int) = 0 := by unfold io; rw [if_neg (by omega), if_neg (by omega)]
    show (if j = 3 then _ else if j = 2 then _ else if j = 1 then _ else if j = 0 then _ else (0 : Int32)) = _
    rw [if_neg (by omega), if_neg (by omega), if_neg (by omega), if_neg (by omega), e]; rfl
theorem io_13 : va_cpy (fun j => kI (sFirst j)) (fun _ => 0) 0 0 3 = fun j : Nat => kI (io 13 (j : Int)) := by
  funext j
  unfold va_cpy io
  by_cases h : j < 3
  · rw [if_pos (by omega), if_neg (by omega), if_pos (by omega)]
    congr 1
    rw [show 0 + (j - 0) = ((j : Int)).toNat by omega]
  · rw [if_neg (by omega), if_neg (by omega), if_neg (by omega)]; rfl
/-- the memory at first -/
def σ0 : Mem := fun c j => if 1 ≤ c ∧ c < 15 then io (c - 1) j else if 17 ≤ c ∧ c < 101 then io ((c - 17) % 14) j else if 102 ≤ c ∧ c < 130 then io ((c - 102) % 14) j else if c = 16 then j else 0
theorem σ0_B {b k : Nat} (hb : isB b) (hk : k < 14) : σ0 (b + k) = io k := by
  funext j
  unfold σ0
  rcases hb with rfl | ⟨p, hp, rfl⟩ | ⟨i, hi, rfl⟩
  · rw [if_pos (by omega), show 1 + k - 1 = k by omega]
  · rw [if_neg (by omega), if_pos (by omega), show (17 + 14 * p + k - 17) % 14 = k by omega]
  · rw [if_neg (by omega), if_neg (by omega), if_pos (by omega), show (102 + 14 * i + k - 102) % 14 = k by omega]
theorem shp_0 {T : Nat → ClassId} {z b k : Nat} (hb : isB b) (hk : k < 14) : shp T z (b + k) (σ0 (b + k)) = shC T z b k (io k) := by rw [shp_B hb hk, σ0_B hb hk]
theorem ext_B {T : Nat → ClassId} {z b c : Nat} {E : Nat → va_E} (hb : isB b) (h : b ≤ c ∧ c < b + 14) : ext E b (fun i => shC T z b i (io i)) c = shp T z c (σ0 c) := by
  obtain ⟨i, rfl⟩ : ∃ i, c = b + i := ⟨c - b, by omega⟩
  rw [ext_ge, shp_0 hb (by omega)]
theorem ext_P {T : Nat → ClassId} {z b c : Nat} {E : Nat → va_E} (h : b ≤ c) : ext E b (fun i => shp T z (b + i) (σ0 (b + i))) c = shp T z c (σ0 c) := by
  obtain ⟨i, rfl⟩ : ∃ i, c = b + i := ⟨c - b, by omega⟩
  rw [ext_ge]
set_option maxRecDepth 100000 in
set_option maxHeartbeats 4000000 in
theorem k_X3_init (l : Launch) (D : va_G) (T : Nat → ClassId) (z : Nat) {b : Nat} {E : Nat → va_E} (hE : E (b + 1) = .inr (3, [.int 0, .null, .null, .null, .null, .null])) : CtG l yX3_init (Cond.code yX3_init cX3_init 2 none) 1 12 5 260 [.ref (z + (b + 1))] D T z (b + 2) (b + 7) E (ext E (b + 1) (fun i => shC T z b (i + 1) (io (i + 1)))) := by
  refine CtG_of (by decide) rfl (Nat.le_of_ble_eq_true rfl) ?_
  intro p e s m below meth c ls hx hb hml hr hts hown hlk hin G hsz hxg hl
  have hown : s.vm.findClass RX3 = some m.cls := hown
  have hl : lv_has ls 2 [(0, .ref (z + (b + 1)))] := hl
  refine lv_aload_n hx hb dX3_init_0 rfl (lv_at hl 0 rfl) ?_
  refine g_obj hx hb hts hown (hml.trans hl.1.symm) qM_X3_3 rfl ⟨Nat.le_of_ble_eq_true rfl, Nat.le_of_ble_eq_true rfl⟩ dX3_init_1 ?_
  refine lv_aload_n hx hb dX3_init_4 rfl (lv_at hl 0 rfl) ?_
  refine r_iconst hx hb dX3_init_5 ?_
  refine g_newa hx hb hts G (by omega) (atype := .int) (i := 0) rfl (fun _ h => h) qA_int (N' := 4) (a0 := (4, .inl (fun _ => 0))) (fun _ => rfl) ⟨by decide, by decide⟩ (by decide) ⟨Nat.le_of_ble_eq_true rfl, Nat.le_of_ble_eq_true rfl⟩ dX3_init_6 (fun H G => ?_)
  refine g_putF hx hb hts hown hin G uX3 tyX3 tyX3_ok nmX3 rfl (b + 1) 1 (by omega) (fs := [.int 0, .null, .null, .null, .null, .null]) (by repeat (first | exact upE_s | rw [upE_o (by omega)] | rw [ext_lt (by omega)] | exact hE | exact ext_at (i := 0) (by omega))) (by decide) qF_X3_9 rfl rfl (tyX3_ok 1 (by decide)) rfl rfl (by simp) dX3_init_8 (fun H locs G => ?_)
  refine r_iconst hx hb dX3_init_11 ?_
  refine lv_istore_n (lv' := [(1, .int (kI 0)), (0, .ref (z + (b + 1)))]) hx hb dX3_init_12 rfl hl (by decide) rfl (fun ls hl => ?_)
  refine lv_iload_n hx hb dX3_init_13 rfl (lv_at hl 0 rfl) ?_
  refine r_iconst hx hb dX3_init_14 ?_
  refine r_icmp_ge (tgt := 31) hx hb ⟨by decide, by decide⟩ ⟨by decide, by decide⟩ dX3_init_15 (by decide) (fun h => absurd h (by decide)) (fun _ => ?_)
  refine lv_aload_n hx hb dX3_init_18 rfl (lv_at hl 1 rfl) ?_
  refine g_get hx hb hts hown G uX3 rfl (b + 1) 1 (by omega) (fs := [.int 0, .ref (z + (b + 2)), .null, .null, .null, .null]) (by repeat (first | exact upE_s | rw [upE_o (by omega)] | rw [ext_lt (by omega)] | exact hE | exact ext_at (i := 0) (by omega))) (by decide) rfl qF_X3_9 rfl dX3_init_19 ?_
  refine lv_iload_n hx hb dX3_init_22 rfl (lv_at hl 0 rfl) ?_
  refine r_iconst hx hb dX3_init_23 ?_
  refine g_iast hx hb G (b + 2) (by omega) (N := 4) (f := fun _ => 0) (by repeat (first | exact upE_s | rw [upE_o (by omega)] | rw [ext_lt (by omega)] | exact hE | exact ext_at (i := 0) (by omega))) ⟨by decide, by decide, by decide⟩ dX3_init_24 (fun H locs G => ?_)
  refine r_iinc (lv' := [(1, .int (kI 1)), (0, .ref (z + (b + 1)))]) hx hb dX3_init_25 hl (k := 0) rfl (by decide) rfl (fun ls hl => ?_)
  refine lv_goto (tgt := 13) hx hb dX3_init_28 (by decide) ?_
  refine lv_iload_n hx hb dX3_init_13 rfl (lv_at hl 0 rfl) ?_
  refine r_iconst hx hb dX3_init_14 ?_
  refine r_icmp_ge (tgt := 31) hx hb ⟨by decide, by decide⟩ ⟨by decide, by decide⟩ dX3_init_15 (by decide) (fun h => absurd h (by decide)) (fun _ => ?_)
  refine lv_aload_n hx hb dX3_init_18 rfl (lv_at hl 1 rfl) ?_
  refine g_get hx hb hts hown G uX3 rfl (b + 1) 1 (by omega) (fs := [.int 0, .ref (z + (b + 2)), .null, .null, .null, .null]) (by repeat (first | exact upE_s | rw [upE_o (by omega)] | rw [ext_lt (by omega)] | exact hE | exact ext_at (i := 0) (by omega))) (by decide) rfl qF_X3_9 rfl dX3_init_19 ?_
  refine lv_iload_n hx hb dX3_init_22 rfl (lv_at hl 0 rfl) ?_
  refine r_iconst hx hb dX3_init_23 ?_
  refine g_iast hx hb G (b + 2) (by omega) (N := 4) (f := upd (fun _ => 0) (0 : Int).toNat (kI 5)) (by repeat (first | exact upE_s | rw [upE_o (by omega)] | rw [ext_lt (by omega)] | exact hE | exact ext_at (i := 0) (by omega))) ⟨by decide, by decide, by decide⟩ dX3_init_24 (fun H locs G => ?_)
  refine r_iinc (lv' := [(1, .int (kI 2)), (0, .ref (z + (b + 1)))]) hx hb dX3_init_25 hl (k := 0) rfl (by decide) rfl (fun ls hl => ?_)
  refine lv_goto (tgt := 13) hx hb dX3_init_28 (by decide) ?_
  refine lv_iload_n hx hb dX3_init_13 rfl (lv_at hl 0 rfl) ?_
  refine r_iconst hx hb dX3_init_14 ?_
  refine r_icmp_ge (tgt := 31) hx hb ⟨by decide, by decide⟩ ⟨by decide, by decide⟩ dX3_init_15 (by decide) (fun h => absurd h (by decide)) (fun _ => ?_)
  refine lv_aload_n hx hb dX3_init_18 rfl (lv_at hl 1 rfl) ?_
  refine g_get hx hb hts hown G uX3 rfl (b + 1) 1 (by omega) (fs := [.int 0, .ref (z + (b + 2)), .null, .null, .null, .null]) (by repeat (first | exact upE_s | rw [upE_o (by omega)] | rw [ext_lt (by omega)] | exact hE | exact ext_at (i := 0) (by omega))) (by decide) rfl qF_X3_9 rfl dX3_init_19 ?_
  refine lv_iload_n hx hb dX3_init_22 rfl (lv_at hl 0 rfl) ?_
  refine r_iconst hx hb dX3_init_23 ?_
  refine g_iast hx hb G (b + 2) (by omega) (N := 4) (f := upd (upd (fun _ => 0) (0 : Int).toNat (kI 5)) (1 : Int).toNat (kI 5)) (by repeat (first | exact upE_s | rw [upE_o (by omega)] | rw [ext_lt (by omega)] | exact hE | exact ext_at (i := 0) (by omega))) ⟨by decide, by decide, by decide⟩ dX3_init_24 (fun H locs G => ?_)
  refine r_iinc (lv' := [(1, .int (kI 3)), (0, .ref (z + (b + 1)))]) hx hb dX3_init_25 hl (k := 0) rfl (by decide) rfl (fun ls hl => ?_)
  refine lv_goto (tgt := 13) hx hb dX3_init_28 (by decide) ?_
  refine lv_iload_n hx hb dX3_init_13 rfl (lv_at hl 0 rfl) ?_
  refine r_iconst hx hb dX3_init_14 ?_
  refine r_icmp_ge (tgt := 31) hx hb ⟨by decide, by decide⟩ ⟨by decide, by decide⟩ dX3_init_15 (by decide) (fun h => absurd h (by decide)) (fun _ => ?_)
  refine lv_aload_n hx hb dX3_init_18 rfl (lv_at hl 1 rfl) ?_
  refine g_get hx hb hts hown G uX3 rfl (b + 1) 1 (by omega) (fs := [.int 0, .ref (z + (b + 2)), .null, .null, .null, .null]) (by repeat (first | exact upE_s | rw [upE_o (by omega)] | rw [ext_lt (by omega)] | exact hE | exact ext_at (i := 0) (by omega))) (by decide) rfl qF_X3_9 rfl dX3_init_19 ?_
  refine lv_iload_n hx hb dX3_init_22 rfl (lv_at hl 0 rfl) ?_
  refine r_iconst hx hb dX3_init_23 ?_
  refine g_iast hx hb G (b + 2) (by omega) (N := 4) (f := upd (upd (upd (fun _ => 0) (0 : Int).toNat (kI 5)) (1 : Int).toNat (kI 5)) (2 : Int).toNat (kI 5)) (by repeat (first | exact upE_s | rw [upE_o (by omega)] | rw [ext_lt (by omega)] | exact hE | exact ext_at (i := 0) (by omega))) ⟨by decide, by decide, by decide⟩ dX3_init_24 (fun H locs G => ?_)
  refine r_iinc (lv' := [(1, .int (kI 4)), (0, .ref (z + (b + 1)))]) hx hb dX3_init_25 hl (k := 0) rfl (by decide) rfl (fun ls hl => ?_)
  refine lv_goto (tgt := 13) hx hb dX3_init_28 (by decide) ?_
  refine lv_iload_n hx hb dX3_init_13 rfl (lv_at hl 0 rfl) ?_
  refine r_iconst hx hb dX3_init_14 ?_
  refine r_icmp_ge (tgt := 31) hx hb ⟨by decide, by decide⟩ ⟨by decide, by decide⟩ dX3_init_15 (by decide) (fun _ => ?_) (fun h => absurd (by decide) h)
  refine lv_aload_n hx hb dX3_init_31 rfl (lv_at hl 1 rfl) ?_
  refine r_bipush hx hb dX3_init_32 (by decide +kernel) ?_
  refine g_newa hx hb hts G (by omega) (atype := .int) (i := 0) rfl (fun _ h => h) qA_int (N' := 64) (a0 := (64, .inl (fun _ => 0))) (fun _ => rfl) ⟨by decide, by decide⟩ (by decide) ⟨Nat.le_of_ble_eq_true rfl, Nat.le_of_ble_eq_true rfl⟩ dX3_init_34 (fun H G => ?_)
  refine g_putF hx hb hts hown hin G uX3 tyX3 tyX3_ok nmX3 rfl (b + 1) 2 (by omega) (fs := [.int 0, .ref (z + (b + 2)), .null, .null, .null, .null]) (by repeat (first | exact upE_s | rw [upE_o (by omega)] | rw [ext_lt (by omega)] | exact hE | exact ext_at (i := 0) (by omega))) (by decide) qF_X3_15 rfl rfl (tyX3_ok 2 (by decide)) rfl rfl (by simp) dX3_init_36 (fun H locs G => ?_)
  refine lv_aload_n hx hb dX3_init_39 rfl (lv_at hl 1 rfl) ?_
  refine r_bipush hx hb dX3_init_40 (by decide +kernel) ?_
  refine g_newa hx hb hts G (by omega) (atype := .int) (i := 0) rfl (fun _ h => h) qA_int (N' := 64) (a0 := (64, .inl (fun _ => 0))) (fun _ => rfl) ⟨by decide, by decide⟩ (by decide) ⟨Nat.le_of_ble_eq_true rfl, Nat.le_of_ble_eq_true rfl⟩ dX3_init_42 (fun H G => ?_)
  refine g_putF hx hb hts hown hin G uX3 tyX3 tyX3_ok nmX3 rfl (b + 1) 3 (by omega) (fs := [.int 0, .ref (z + (b + 2)), .ref (z + (b + 3)), .null, .null, .null]) (by repeat (first | exact upE_s | rw [upE_o (by omega)] | rw [ext_lt (by omega)] | exact hE | exact ext_at (i := 0) (by omega))) (by decide) qF_X3_18 rfl rfl (tyX3_ok 3 (by decide)) rfl rfl (by simp) dX3_init_44 (fun H locs G => ?_)
  refine lv_aload_n hx hb dX3_init_47 rfl (lv_at hl 1 rfl) ?_
  refine r_bipush hx hb dX3_init_48 (by decide +kernel) ?_
  refine g_newa hx hb hts G (by omega) (atype := .int) (i := 0) rfl (fun _ h => h) qA_int (N' := 64) (a0 := (64, .inl (fun _ => 0))) (fun _ => rfl) ⟨by decide, by decide⟩ (by decide) ⟨Nat.le_of_ble_eq_true rfl, Nat.le_of_ble_eq_true rfl⟩ dX3_init_50 (fun H G => ?_)
  refine g_putF hx hb hts hown hin G uX3 tyX3 tyX3_ok nmX3 rfl (b + 1) 4 (by omega) (fs := [.int 0, .ref (z + (b + 2)), .ref (z + (b + 3)), .ref (z + (b + 4)), .null, .null]) (by repeat (first | exact upE_s | rw [upE_o (by omega)] | rw [ext_lt (by omega)] | exact hE | exact ext_at (i := 0) (by omega))) (by decide) qF_X3_21 rfl rfl (tyX3_ok 4 (by decide)) rfl rfl (by simp) dX3_init_52 (fun H locs G => ?_)
  refine lv_aload_n hx hb dX3_init_55 rfl (lv_at hl 1 rfl) ?_
  refine r_bipush hx hb dX3_init_56 (by decide +kernel) ?_
  refine g_newa hx hb hts G (by omega) (atype := .int) (i := 0) rfl (fun _ h => h) qA_int (N' := 64) (a0 := (64, .inl (fun _ => 0))) (fun _ => rfl) ⟨by decide, by decide⟩ (by decide) ⟨Nat.le_of_ble_eq_true rfl, Nat.le_of_ble_eq_true rfl⟩ dX3_init_58 (fun H G => ?_)
  refine g_putF hx hb hts hown hin G uX3 tyX3 tyX3_ok nmX3 rfl (b + 1) 5 (by omega) (fs := [.int 0, .ref (z + (b + 2)), .ref (z + (b + 3)), .ref (z + (b + 4)), .ref (z + (b + 5)), .null]) (by repeat (first | exact upE_s | rw [upE_o (by omega)] | rw [ext_lt (by omega)] | exact hE | exact ext_at (i := 0) (by omega))) (by decide) qF_X3_24 rfl rfl (tyX3_ok 5 (by decide)) rfl rfl (by simp) dX3_init_60 (fun H locs G => ?_)
  refine g_ret hx hb hr hlk G (fun c hc => ?_) ⟨Nat.le_of_ble_eq_true rfl, Nat.le_of_ble_eq_true rfl⟩ dX3_init_63
  by_cases h0 : c < b + 1
  · rw [ext_lt h0]; repeat (first | rw [upE_o (by omega)] | rw [ext_lt (by omega)])
  · obtain ⟨i, rfl⟩ : ∃ i, c = b + 1 + i := ⟨c - (b + 1), by omega⟩
    rw [ext_ge]
    by_cases e0 : i = 0
    · subst e0
      repeat (first | rw [upE_o (by omega)] | rw [ext_lt (by omega)])
      rw [upE_e (by omega)]
      rfl
    by_cases e1 : i = 1
    · subst e1
      repeat (first | rw [upE_o (by omega)] | rw [ext_lt (by omega)])
      rw [upE_e (by omega)]
      show (Sum.inl (T 0, 4, Sum.inl _) : va_E) = Sum.inl (T 0, 4, Sum.inl (fun j : Nat => kI (io 2 (j : Int)))); rw [← io_2]
    by_cases e2 : i = 2
    · subst e2
      repeat (first | rw [upE_o (by omega)] | rw [ext_lt (by omega)])
      rw [upE_e (by omega)]
      show (Sum.inl (T 0, 64, Sum.inl (fun _ => 0)) : va_E) = Sum.inl (T 0, 64, Sum.inl (fun j : Nat => kI (io 3 (j : Int)))); rw [io_z (by decide) (by decide)]
    by_cases e3 : i = 3
    · subst e3
      repeat (first | rw [upE_o (by omega)] | rw [ext_lt (by omega)])
      rw [upE_e (by omega)]
      show (Sum.inl (T 0, 64, Sum.inl (fun _ => 0)) : va_E) = Sum.inl (T 0, 64, Sum.inl (fun j : Nat => kI (io 4 (j : Int)))); rw [io_z (by decide) (by decide)]
    by_cases e4 : i = 4
    · subst e4
      repeat (first | rw [upE_o (by omega)] | rw [ext_lt (by omega)])
      rw [upE_e (by omega)]
      show (Sum.inl (T 0, 64, Sum.inl (fun _ => 0)) : va_E) = Sum.inl (T 0, 64, Sum.inl (fun j : Nat => kI (io 5 (j : Int)))); rw [io_z (by decide) (by decide)]
    by_cases e5 : i = 5
    · subst e5
      repeat (first | rw [upE_o (by omega)] | rw [ext_lt (by omega)])
      rw [upE_e (by omega)]
      show (Sum.inl (T 0, 64, Sum.inl (fun _ => 0)) : va_E) = Sum.inl (T 0, 64, Sum.inl (fun j : Nat => kI (io 6 (j : Int)))); rw [io_z (by decide) (by decide)]
    omega
set_option maxRecDepth 100000 in
set_option maxHeartbeats 4000000 in
theorem k_X0_init (l : Launch) (D : va_G) (T : Nat → ClassId) (z : Nat) {b : Nat} {E : Nat → va_E} (hE : E (b + 7) = .inr (0, [.null, .null, .null, .null, .null, .int 0, .int 0, .int 0])) : CtG l yX0_init (Cond.code yX0_init cX0_init 1 none) 1 12 5 20 [.ref (z + (b + 7))] D T z (b + 8) (b + 13) E (ext E (b + 7) (fun i => shC T z b (i + 7) (io (i + 7)))) := by
  refine CtG_of (by decide) rfl (Nat.le_of_ble_eq_true rfl) ?_
  intro p e s m below meth c ls hx hb hml hr hts hown hlk hin G hsz hxg hl
  have hown : s.vm.findClass RX0 = some m.cls := hown
  have hl : lv_has ls 1 [(0, .ref (z + (b + 7)))] := hl
  refine lv_aload_n hx hb dX0_init_0 rfl (lv_at hl 0 rfl) ?_
  refine g_obj hx hb hts hown (hml.trans hl.1.symm) qM_X0_3 rfl ⟨Nat.le_of_ble_eq_true rfl, Nat.le_of_ble_eq_true rfl⟩ dX0_init_1 ?_
  refine lv_aload_n hx hb dX0_init_4 rfl (lv_at hl 0 rfl) ?_
  refine r_iconst hx hb dX0_init_5 ?_
  refine g_newa hx hb hts G (by omega) (atype := .int) (i := 0) rfl (fun _ h => h) qA_int (N' := 4) (a0 := (4, .inl (fun _ => 0))) (fun _ => rfl) ⟨by decide, by decide⟩ (by decide) ⟨Nat.le_of_ble_eq_true rfl, Nat.le_of_ble_eq_true rfl⟩ dX0_init_6 (fun H G => ?_)
  refine g_putF hx hb hts hown hin G uX0 tyX0 tyX0_ok nmX0 rfl (b + 7) 0 (by omega) (fs := [.null, .null, .null, .null, .null, .int 0, .int 0, .int 0]) (by repeat (first | exact upE_s | rw [upE_o (by omega)] | rw [ext_lt (by omega)] | exact hE | exact ext_at (i := 0) (by omega))) (by decide) qF_X0_9 rfl rfl (tyX0_ok 0 (by decide)) rfl rfl (by simp) dX0_init_8 (fun H locs G => ?_)
  refine lv_aload_n hx hb dX0_init_11 rfl (lv_at hl 0 rfl) ?_
  refine r_iconst hx hb dX0_init_12 ?_
  refine g_newa hx hb hts G (by omega) (atype := .int) (i := 0) rfl (fun _ h => h) qA_int (N' := 4) (a0 := (4, .inl (fun _ => 0))) (fun _ => rfl) ⟨by decide, by decide⟩ (by decide) ⟨Nat.le_of_ble_eq_true rfl, Nat.le_of_ble_eq_true rfl⟩ dX0_init_13 (fun H G => ?_)
  refine g_putF hx hb hts hown hin G uX0 tyX0 tyX0_ok nmX0 rfl (b + 7) 1 (by omega) (fs := [.ref (z + (b + 8)), .null, .null, .null, .null, .int 0, .int 0, .int 0]) (by repeat (first | exact upE_s | rw [upE_o (by omega)] | rw [ext_lt (by omega)] | exact hE | exact ext_at (i := 0) (by omega))) (by decide) qF_X0_15 rfl rfl (tyX0_ok 1 (by decide)) rfl rfl (by simp) dX0_init_15 (fun H locs G => ?_)
  refine lv_aload_n hx hb dX0_init_18 rfl (lv_at hl 0 rfl) ?_
  refine r_iconst hx hb dX0_init_19 ?_
  refine g_newa hx hb hts G (by omega) (atype := .int) (i := 0) rfl (fun _ h => h) qA_int (N' := 4) (a0 := (4, .inl (fun _ => 0))) (fun _ => rfl) ⟨by decide, by decide⟩ (by decide) ⟨Nat.le_of_ble_eq_true rfl, Nat.le_of_ble_eq_true rfl⟩ dX0_init_20 (fun H G => ?_)
  refine g_putF hx hb hts hown hin G uX0 tyX0 tyX0_ok nmX0 rfl (b + 7) 2 (by omega) (fs := [.ref (z + (b + 8)), .ref (z + (b + 9)), .null, .null, .null, .int 0, .int 0, .int 0]) (by repeat (first | exact upE_s | rw [upE_o (by omega)] | rw [ext_lt (by omega)] | exact hE | exact ext_at (i := 0) (by omega))) (by decide) qF_X0_18 rfl rfl (tyX0_ok 2 (by decide)) rfl rfl (by simp) dX0_init_22 (fun H locs G => ?_)
  refine lv_aload_n hx hb dX0_init_25 rfl (lv_at hl 0 rfl) ?_
  refine r_iconst hx hb dX0_init_26 ?_
  refine g_newa hx hb hts G (by omega) (atype := .int) (i := 0) rfl (fun _ h => h) qA_int (N' := 4) (a0 := (4, .inl (fun _ => 0))) (fun _ => rfl) ⟨by decide, by decide⟩ (by decide) ⟨Nat.le_of_ble_eq_true rfl, Nat.le_of_ble_eq_true rfl⟩ dX0_init_27 (fun H G => ?_)
  refine g_putF hx hb hts hown hin G uX0 tyX0 tyX0_ok nmX0 rfl (b + 7) 3 (by omega) (fs := [.ref (z + (b + 8)), .ref (z + (b + 9)), .ref (z + (b + 10)), .null, .null, .int 0, .int 0, .int 0]) (by repeat (first | exact upE_s | rw [upE_o (by omega)] | rw [ext_lt (by omega)] | exact hE | exact ext_at (i := 0) (by omega))) (by decide) qF_X0_21 rfl rfl (tyX0_ok 3 (by decide)) rfl rfl (by simp) dX0_init_29 (fun H locs G => ?_)
  refine lv_aload_n hx hb dX0_init_32 rfl (lv_at hl 0 rfl) ?_
  refine r_iconst hx hb dX0_init_33 ?_
  refine g_newa hx hb hts G (by omega) (atype := .int) (i := 0) rfl (fun _ h => h) qA_int (N' := 4) (a0 := (4, .inl (fun _ => 0))) (fun _ => rfl) ⟨by decide, by decide⟩ (by decide) ⟨Nat.le_of_ble_eq_true rfl, Nat.le_of_ble_eq_true rfl⟩ dX0_init_34 (fun H G => ?_)
  refine g_putF hx hb hts hown hin G uX0 tyX0 tyX0_ok nmX0 rfl (b + 7) 4 (by omega) (fs := [.ref (z + (b + 8)), .ref (z + (b + 9)), .ref (z + (b + 10)), .ref (z + (b + 11)), .null, .int 0, .int 0, .int 0]) (by repeat (first | exact upE_s | rw [upE_o (by omega)] | rw [ext_lt (by omega)] | exact hE | exact ext_at (i := 0) (by omega))) (by decide) qF_X0_24 rfl rfl (tyX0_ok 4 (by decide)) rfl rfl (by simp) dX0_init_36 (fun H locs G => ?_)
  refine g_ret hx hb hr hlk G (fun c hc => ?_) ⟨Nat.le_of_ble_eq_true rfl, Nat.le_of_ble_eq_true rfl⟩ dX0_init_39
  by_cases h0 : c < b + 7
  · rw [ext_lt h0]; repeat (first | rw [upE_o (by omega)] | rw [ext_lt (by omega)])
  · obtain ⟨i, rfl⟩ : ∃ i, c = b + 7 + i := ⟨c - (b + 7), by omega⟩
    rw [ext_ge]
    by_cases e0 : i = 0
    · subst e0
      repeat (first | rw [upE_o (by omega)] | rw [ext_lt (by omega)])
      rw [upE_e (by omega)]
      rfl
    by_cases e1 : i = 1
    · subst e1
      repeat (first | rw [upE_o (by omega)] | rw [ext_lt (by omega)])
      rw [upE_e (by omega)]
      show (Sum.inl (T 0, 4, Sum.inl (fun _ => 0)) : va_E) = Sum.inl (T 0, 4, Sum.inl (fun j : Nat => kI (io 8 (j : Int)))); rw [io_z (by decide) (by decide)]
    by_cases e2 : i = 2
    · subst e2
      repeat (first | rw [upE_o (by omega)] | rw [ext_lt (by omega)])
      rw [upE_e (by omega)]
      show (Sum.inl (T 0, 4, Sum.inl (fun _ => 0)) : va_E) = Sum.inl (T 0, 4, Sum.inl (fun j : Nat => kI (io 9 (j : Int)))); rw [io_z (by decide) (by decide)]
    by_cases e3 : i = 3
    · subst e3
      repeat (first | rw [upE_o (by omega)] | rw [ext_lt (by omega)])
      rw [upE_e (by omega)]
      show (Sum.inl (T 0, 4, Sum.inl (fun _ => 0)) : va_E) = Sum.inl (T 0, 4, Sum.inl (fun j : Nat => kI (io 10 (j : Int)))); rw [io_z (by decide) (by decide)]
    by_cases e4 : i = 4
    · subst e4
      repeat (first | rw [upE_o (by omega)] | rw [ext_lt (by omega)])
      rw [upE_e (by omega)]
      show (Sum.inl (T 0, 4, Sum.inl (fun _ => 0)) : va_E) = Sum.inl (T 0, 4, Sum.inl (fun j : Nat => kI (io 11 (j : Int)))); rw [io_z (by decide) (by decide)]
    by_cases e5 : i = 5
    · subst e5
      repeat (first | rw [upE_o (by omega)] | rw [ext_lt (by omega)])
      rw [upE_e (by omega)]
      show (Sum.inl (T 0, 4, Sum.inl (fun _ => 0)) : va_E) = Sum.inl (T 0, 4, Sum.inl (fun j : Nat => kI (io 12 (j : Int)))); rw [io_z (by decide) (by decide)]
    omega
set_option maxRecDepth 100000 in
set_option maxHeartbeats 4000000 in
theorem k_X1_init (l : Launch) (D : va_G) (T : Nat → ClassId) (z : Nat) {b : Nat} {E : Nat → va_E} (hE : E (b + 0) = .inr (1, [.null, .null, .null])) : CtG l yX1_init (Cond.code yX1_init cX1_init 1 none) 2 33 13 297 [.ref (z + (b + 0))] D T z (b + 1) (b + 14) E (ext E b (fun i => shC T z b i (io i))) := by
  refine CtG_of (by decide) rfl (Nat.le_of_ble_eq_true rfl) ?_
  intro p e s m below meth c ls hx hb hml hr hts hown hlk hin G hsz hxg hl
  have hown : s.vm.findClass RX1 = some m.cls := hown
  have hl : lv_has ls 1 [(0, .ref (z + (b + 0)))] := hl
  refine lv_aload_n hx hb dX1_init_0 rfl (lv_at hl 0 rfl) ?_
  refine g_obj hx hb hts hown (hml.trans hl.1.symm) qM_X1_3 rfl ⟨Nat.le_of_ble_eq_true rfl, Nat.le_of_ble_eq_true rfl⟩ dX1_init_1 ?_
  refine lv_aload_n hx hb dX1_init_4 rfl (lv_at hl 0 rfl) ?_
  refine g_new hx hb hts hown G (by omega) uX3 tyX3 tyX3_ok qK_X1_9 qB_X3 qN_X3 (ci := 3) rfl (fs := [.int 0, .null, .null, .null, .null, .null]) (fun j hj => by rcases (by omega : j = 0 ∨ j = 1 ∨ j = 2 ∨ j = 3 ∨ j = 4 ∨ j = 5) with rfl | rfl | rfl | rfl | rfl | rfl <;> rfl) ⟨Nat.le_of_ble_eq_true rfl, Nat.le_of_ble_eq_true rfl⟩ dX1_init_5 (fun H G => ?_)
  refine lv_dup hx hb dX1_init_8 rfl ?_
  refine g_init (mc := 5) (ms := 260) ⟨hx, hb, hml, hown, hts⟩ hxg G (by omega) (k_X3_init l D T z (b := b) (by repeat (first | exact upE_s | rw [upE_o (by omega)] | rw [ext_lt (by omega)] | exact hE | exact ext_at (i := 0) (by omega)))) qM_X1_11 qI_X3_init qN_X3 qC_X3_init rfl (by decide +kernel) ⟨Nat.le_of_ble_eq_true rfl, Nat.le_of_ble_eq_true rfl⟩ hl.1 (Nat.le_of_ble_eq_true rfl) dX1_init_9 ⟨Nat.le_of_ble_eq_true rfl, Nat.le_of_ble_eq_true rfl⟩ (fun H locs G => ?_)
  refine g_putF hx hb hts hown hin G uX1 tyX1 tyX1_ok nmX1 rfl (b + 0) 0 (by omega) (fs := [.null, .null, .null]) (by repeat (first | exact upE_s | rw [upE_o (by omega)] | rw [ext_lt (by omega)] | exact hE | exact ext_at (i := 0) (by omega))) (by decide) qF_X1_12 rfl rfl (tyX1_ok 0 (by decide)) rfl rfl (by simp) dX1_init_12 (fun H locs G => ?_)
  refine lv_aload_n hx hb dX1_init_15 rfl (lv_at hl 0 rfl) ?_
  refine g_new hx hb hts hown G (by omega) uX0 tyX0 tyX0_ok qK_X1_18 qB_X0 qN_X0 (ci := 0) rfl (fs := [.null, .null, .null, .null, .null, .int 0, .int 0, .int 0]) (fun j hj => by rcases (by omega : j = 0 ∨ j = 1 ∨ j = 2 ∨ j = 3 ∨ j = 4 ∨ j = 5 ∨ j = 6 ∨ j = 7) with rfl | rfl | rfl | rfl | rfl | rfl | rfl | rfl <;> rfl) ⟨Nat.le_of_ble_eq_true rfl, Nat.le_of_ble_eq_true rfl⟩ dX1_init_16 (fun H G => ?_)
  refine lv_dup hx hb dX1_init_19 rfl ?_
  refine g_init (mc := 5) (ms := 20) ⟨hx, hb, hml, hown, hts⟩ hxg G (by omega) (k_X0_init l D T z (b := b) (by repeat (first | exact upE_s | rw [upE_o (by omega)] | rw [ext_lt (by omega)] | exact hE | exact ext_at (i := 0) (by omega)))) qM_X1_20 qI_X0_init qN_X0 qC_X0_init rfl (by decide +kernel) ⟨Nat.le_of_ble_eq_true rfl, Nat.le_of_ble_eq_true rfl⟩ hl.1 (Nat.le_of_ble_eq_true rfl) dX1_init_20 ⟨Nat.le_of_ble_eq_true rfl, Nat.le_of_ble_eq_true rfl⟩ (fun H locs G => ?_)
  refine g_putF hx hb hts hown hin G uX1 tyX1 tyX1_ok nmX1 rfl (b + 0) 1 (by omega) (fs := [.ref (z + (b + 1)), .null, .null]) (by repeat (first | exact upE_s | rw [upE_o (by omega)] | rw [ext_lt (by omega)] | exact hE | exact ext_at (i := 0) (by omega))) (by decide) qF_X1_21 rfl rfl (tyX1_ok 1 (by decide)) rfl rfl (by simp) dX1_init_23 (fun H locs G => ?_)
  refine lv_aload_n hx hb dX1_init_26 rfl (lv_at hl 0 rfl) ?_
  refine r_iconst hx hb dX1_init_27 ?_
  refine g_newa hx hb hts G (by omega) (atype := .int) (i := 0) rfl (fun _ h => h) qA_int (N' := 3) (a0 := (3, .inl (fun _ => 0))) (fun _ => rfl) ⟨by decide, by decide⟩ (by decide) ⟨Nat.le_of_ble_eq_true rfl, Nat.le_of_ble_eq_true rfl⟩ dX1_init_28 (fun H G => ?_)
  refine g_putF hx hb hts hown hin G uX1 tyX1 tyX1_ok nmX1 rfl (b + 0) 2 (by omega) (fs := [.ref (z + (b + 1)), .ref (z + (b + 7)), .null]) (by repeat (first | exact upE_s | rw [upE_o (by omega)] | rw [ext_lt (by omega)] | exact hE | exact ext_at (i := 0) (by omega))) (by decide) qF_X1_25 rfl rfl (tyX1_ok 2 (by decide)) rfl rfl (by simp) dX1_init_30 (fun H locs G => ?_)
  obtain ⟨t0, hz0, ht0⟩ := G.2.2.2.1.2.2.1
  refine va_getsN hx hb hz0 G.2.2.1 hown (va_Nw.use rfl hxg.2) (fun _ h => h) dX1_init_33 ?_
  refine r_iconst hx hb dX1_init_36 ?_
  refine lv_aload_n hx hb dX1_init_37 rfl (lv_at hl 0 rfl) ?_
  refine g_get hx hb hts hown G uX1 rfl (b + 0) 2 (by omega) (fs := [.ref (z + (b + 1)), .ref (z + (b + 7)), .ref (z + (b + 13))]) (by repeat (first | exact upE_s | rw [upE_o (by omega)] | rw [ext_lt (by omega)] | exact hE | exact ext_at (i := 0) (by omega))) (by decide) rfl qF_X1_25 rfl dX1_init_38 ?_
  refine r_iconst hx hb dX1_init_41 ?_
  refine r_iconst hx hb dX1_init_42 ?_
  refine g_sett hx hb (hml.trans hl.1.symm) hts hown qM_X1_32 G ht0 (b + 13) (by omega) (g := fun _ => 0) (by repeat (first | exact upE_s | rw [upE_o (by omega)] | rw [ext_lt (by omega)] | exact hE | exact ext_at (i := 0) (by omega))) ⟨Nat.le_of_ble_eq_true rfl, Nat.le_of_ble_eq_true rfl⟩ dX1_init_43 (fun H locs G => ?_)
  refine g_ret hx hb hr hlk G (fun c hc => ?_) ⟨Nat.le_of_ble_eq_true rfl, Nat.le_of_ble_eq_true rfl⟩ dX1_init_46
  by_cases h0 : c < b
  · rw [ext_lt h0]; repeat (first | rw [upE_o (by omega)] | rw [ext_lt (by omega)])
  · obtain ⟨i, rfl⟩ : ∃ i, c = b + i := ⟨c - b, by omega⟩
    rw [ext_ge]
    by_cases e0 : i = 0
    · subst e0
      repeat (first | rw [upE_o (by omega)] | rw [ext_lt (by omega)])
      rw [upE_e (by omega)]; rfl
    by_cases e13 : i = 13
    · subst e13
      repeat (first | rw [upE_o (by omega)] | rw [ext_lt (by omega)])
      rw [upE_e (by omega)]
      show (Sum.inl (T 0, 3, Sum.inl _) : va_E) = Sum.inl (T 0, 3, Sum.inl (fun j : Nat => kI (io 13 (j : Int)))); rw [← io_13]
    by_cases e7 : i < 7
    · obtain ⟨j, rfl⟩ : ∃ j, i = j + 1 := ⟨i - 1, by omega⟩
      repeat (first | rw [upE_o (by omega)] | rw [ext_lt (by omega)])
      exact ext_at (by omega)
    · obtain ⟨j, rfl⟩ : ∃ j, i = j + 7 := ⟨i - 7, by omega⟩
      repeat (first | rw [upE_o (by omega)] | rw [ext_lt (by omega)])
      exact ext_at (by omega)
set_option maxRecDepth 100000 in
set_option maxHeartbeats 4000000 in
theorem k_X4_init (l : Launch) (D : va_G) (T : Nat → ClassId) (z : Nat) {E : Nat → va_E} (hE : E 15 = .inr (4, [.null, .int 0])) : CtG l yX4_init (Cond.code yX4_init cX4_init 2 none) 3 53 85 1806 [.ref (z + 15)] D T z 16 101 E (ext E 15 (fun i => shp T z (15 + i) (σ0 (15 + i)))) := by
  refine CtG_of (by decide) rfl (Nat.le_of_ble_eq_true rfl) ?_
  intro p e s m below meth c ls hx hb hml hr hts hown hlk hin G hsz hxg hl
  have hown : s.vm.findClass RX4 = some m.cls := hown
  have hl : lv_has ls 2 [(0, .ref (z + 15))] := hl
  refine lv_aload_n hx hb dX4_init_0 rfl (lv_at hl 0 rfl) ?_
  refine g_obj hx hb hts hown (hml.trans hl.1.symm) qM_X4_3 rfl ⟨Nat.le_of_ble_eq_true rfl, Nat.le_of_ble_eq_true rfl⟩ dX4_init_1 ?_
  refine lv_aload_n hx hb dX4_init_4 rfl (lv_at hl 0 rfl) ?_
  refine r_bipush hx hb dX4_init_5 (by decide +kernel) ?_
  refine g_newq hx hb hts hown hxg G (by omega) qK_X4_9 (N' := 6) ⟨by decide, by decide⟩ ⟨Nat.le_of_ble_eq_true rfl, Nat.le_of_ble_eq_true rfl⟩ dX4_init_7 (fun H G => ?_)
  refine g_putF hx hb hts hown hin G uX4 tyX4 tyX4_ok nmX4 rfl 15 0 (by omega) (fs := [.null, .int 0]) (by repeat (first | exact upE_s | rw [upE_o (by omega)] | rw [ext_lt (by omega)] | exact hE | exact ext_at (i := 0) (by omega))) (by decide) qF_X4_11 rfl rfl (tyX4_ok 0 (by decide)) rfl rfl (by simp) dX4_init_10 (fun H locs G => ?_)
  refine r_iconst hx hb dX4_init_13 ?_
  refine lv_istore_n (lv' := [(1, .int (kI 0)), (0, .ref (z + 15))]) hx hb dX4_init_14 rfl hl (by decide) rfl (fun ls hl => ?_)
  refine lv_iload_n hx hb dX4_init_15 rfl (lv_at hl 0 rfl) ?_
  refine r_bipush hx hb dX4_init_16 (by decide +kernel) ?_
  refine r_icmp_ge (tgt := 40) hx hb ⟨by decide, by decide⟩ ⟨by decide, by decide⟩ dX4_init_18 (by decide) (fun h => absurd h (by decide)) (fun _ => ?_)
  refine lv_aload_n hx hb dX4_init_21 rfl (lv_at hl 1 rfl) ?_
  refine g_get hx hb hts hown G uX4 rfl 15 0 (by omega) (fs := [.ref (z + 16), .int 0]) (by repeat (first | exact upE_s | rw [upE_o (by omega)] | rw [ext_lt (by omega)] | exact hE | exact ext_at (i := 0) (by omega))) (by decide) rfl qF_X4_11 rfl dX4_init_22 ?_
  refine lv_iload_n hx hb dX4_init_25 rfl (lv_at hl 0 rfl) ?_
  refine g_new hx hb hts hown G (by omega) uX1 tyX1 tyX1_ok qK_X4_9 qB_X1 qN_X1 (ci := 1) rfl (fs := [.null, .null, .null]) (fun j hj => by rcases (by omega : j = 0 ∨ j = 1 ∨ j = 2) with rfl | rfl | rfl <;> rfl) ⟨Nat.le_of_ble_eq_true rfl, Nat.le_of_ble_eq_true rfl⟩ dX4_init_26 (fun H G => ?_)
  refine lv_dup hx hb dX4_init_29 rfl ?_
  refine g_init (mc := 13) (ms := 297) ⟨hx, hb, hml, hown, hts⟩ hxg G (by omega) (k_X1_init l D T z (b := 17) (by repeat (first | exact upE_s | rw [upE_o (by omega)] | rw [ext_lt (by omega)] | exact hE | exact ext_at (i := 0) (by omega)))) qM_X4_17 qI_X1_init qN_X1 qC_X1_init rfl (by decide +kernel) ⟨Nat.le_of_ble_eq_true rfl, Nat.le_of_ble_eq_true rfl⟩ hl.1 (Nat.le_of_ble_eq_true rfl) dX4_init_30 ⟨Nat.le_of_ble_eq_true rfl, Nat.le_of_ble_eq_true rfl⟩ (fun H locs G => ?_)
  refine g_astq hx hb G 16 17 ⟨by omega, by omega⟩ (N := 6) (f := fun _ => none) (by repeat (first | exact upE_s | rw [upE_o (by omega)] | rw [ext_lt (by omega)] | exact hE | exact ext_at (i := 0) (by omega))) (vs := [.ref (z + (17 + 1)), .ref (z + (17 + 7)), .ref (z + (17 + 13))]) (by repeat (first | exact upE_s | rw [upE_o (by omega)] | rw [ext_lt (by omega)] | exact hE | exact ext_at (i := 0) (by omega))) ⟨by decide, by decide, by decide⟩ dX4_init_33 (fun H locs G => ?_)
  refine r_iinc (lv' := [(1, .int (kI 1)), (0, .ref (z + 15))]) hx hb dX4_init_34 hl (k := 0) rfl (by decide) rfl (fun ls hl => ?_)
  refine lv_goto (tgt := 15) hx hb dX4_init_37 (by decide) ?_
  refine lv_iload_n hx hb dX4_init_15 rfl (lv_at hl 0 rfl) ?_
  refine r_bipush hx hb dX4_init_16 (by decide +kernel) ?_
  refine r_icmp_ge (tgt := 40) hx hb ⟨by decide, by decide⟩ ⟨by decide, by decide⟩ dX4_init_18 (by decide) (fun h => absurd h (by decide)) (fun _ => ?_)
  refine lv_aload_n hx hb dX4_init_21 rfl (lv_at hl 1 rfl) ?_
  refine g_get hx hb hts hown G uX4 rfl 15 0 (by omega) (fs := [.ref (z + 16), .int 0]) (by repeat (first | exact upE_s | rw [upE_o (by omega)] | rw [ext_lt (by omega)] | exact hE | exact ext_at (i := 0) (by omega))) (by decide) rfl qF_X4_11 rfl dX4_init_22 ?_
  refine lv_iload_n hx hb dX4_init_25 rfl (lv_at hl 0 rfl) ?_
  refine g_new hx hb hts hown G (by omega) uX1 tyX1 tyX1_ok qK_X4_9 qB_X1 qN_X1 (ci := 1) rfl (fs := [.null, .null, .null]) (fun j hj => by rcases (by omega : j = 0 ∨ j = 1 ∨ j = 2) with rfl | rfl | rfl <;> rfl) ⟨Nat.le_of_ble_eq_true rfl, Nat.le_of_ble_eq_true rfl⟩ dX4_init_26 (fun H G => ?_)
  refine lv_dup hx hb dX4_init_29 rfl ?_
  refine g_init (mc := 13) (ms := 297) ⟨hx, hb, hml, hown, hts⟩ hxg G (by omega) (k_X1_init l D T z (b := 31) (by repeat (first | exact upE_s | rw [upE_o (by omega)] | rw [ext_lt (by omega)] | exact hE | exact ext_at (i := 0) (by omega)))) qM_X4_17 qI_X1_init qN_X1 qC_X1_init rfl (by decide +kernel) ⟨Nat.le_of_ble_eq_true rfl, Nat.le_of_ble_eq_true rfl⟩ hl.1 (Nat.le_of_ble_eq_true rfl) dX4_init_30 ⟨Nat.le_of_ble_eq_true rfl, Nat.le_of_ble_eq_true rfl⟩ (fun H locs G => ?_)
  refine g_astq hx hb G 16 31 ⟨by omega, by omega⟩ (N := 6) (f := va_up (fun _ => none) (0 : Int).toNat (some (z + 17))) (by repeat (first | exact upE_s | rw [upE_o (by omega)] | rw [ext_lt (by omega)] | exact hE | exact ext_at (i := 0) (by omega))) (vs := [.ref (z + (31 + 1)), .ref (z + (31 + 7)), .ref (z + (31 + 13))]) (by repeat (first | exact upE_s | rw [upE_o (by omega)] | rw [ext_lt (by omega)] | exact hE | exact ext_at (i := 0) (by omega))) ⟨by decide, by decide, by decide⟩ dX4_init_33 (fun H locs G => ?_)
  refine r_iinc (lv' := [(1, .int (kI 2)), (0, .ref (z + 15))]) hx hb dX4_init_34 hl (k := 0) rfl (by decide) rfl (fun ls hl => ?_)
  refine lv_goto (tgt := 15) hx hb dX4_init_37 (by decide) ?_
  refine lv_iload_n hx hb dX4_init_15 rfl (lv_at hl 0 rfl) ?_
  refine r_bipush hx hb dX4_init_16 (by decide +kernel) ?_
  refine r_icmp_ge (tgt := 40) hx hb ⟨by decide, by decide⟩ ⟨by decide, by decide⟩ dX4_init_18 (by decide) (fun h => absurd h (by decide)) (fun _ => ?_)
  refine lv_aload_n hx hb dX4_init_21 rfl (lv_at hl 1 rfl) ?_
  refine g_get hx hb hts hown G uX4 rfl 15 0 (by omega) (fs := [.ref (z + 16), .int 0]) (by repeat (first | exact upE_s | rw [upE_o (by omega)] | rw [ext_lt (by omega)] | exact hE | exact ext_at (i := 0) (by omega))) (by decide) rfl qF_X4_11 rfl dX4_init_22 ?_
  refine lv_iload_n hx hb dX4_init_25 rfl (lv_at hl 0 rfl) ?_
  refine g_new hx hb hts hown G (by omega) uX1 tyX1 tyX1_ok qK_X4_9 qB_X1 qN_X1 (ci := 1) rfl (fs := [.null, .null, .null]) (fun j hj => by rcases (by omega : j = 0 ∨ j = 1 ∨ j = 2) with rfl | rfl | rfl <;> rfl) ⟨Nat.le_of_ble_eq_true rfl, Nat.le_of_ble_eq_true rfl⟩ dX4_init_26 (fun H G => ?_)
  refine lv_dup hx hb dX4_init_29 rfl ?_
  refine g_init (mc := 13) (ms := 297) ⟨hx, hb, hml, hown, hts⟩ hxg G (by omega) (k_X1_init l D T z (b := 45) (by repeat (first | exact upE_s | rw [upE_o (by omega)] | rw [ext_lt (by omega)] | exact hE | exact ext_at (i := 0) (by omega)))) qM_X4_17 qI_X1_init qN_X1 qC_X1_init rfl (by decide +kernel) ⟨Nat.le_of_ble_eq_true rfl, Nat.le_of_ble_eq_true rfl⟩ hl.1 (Nat.le_of_ble_eq_true rfl) dX4_init_30 ⟨Nat.le_of_ble_eq_true rfl, Nat.le_of_ble_eq_true rfl⟩ (fun H locs G => ?_)
  refine g_astq hx hb G 16 45 ⟨by omega, by omega⟩ (N := 6) (f := va_up (va_up (fun _ => none) (0 : Int).toNat (some (z + 17))) (1 : Int).toNat (some (z + 31))) (by repeat (first | exact upE_s | rw [upE_o (by omega)] | rw [ext_lt (by omega)] | exact hE | exact ext_at (i := 0) (by omega))) (vs := [.ref (z + (45 + 1)), .ref (z + (45 + 7)), .ref (z + (45 + 13))]) (by repeat (first | exact upE_s | rw [upE_o (by omega)] | rw [ext_lt (by omega)] | exact hE | exact ext_at (i := 0) (by omega))) ⟨by decide, by decide, by decide⟩ dX4_init_33 (fun H locs G => ?_)
  refine r_iinc (lv' := [(1, .int (kI 3)), (0, .ref (z + 15))]) hx hb dX4_init_34 hl (k := 0) rfl (by decide) rfl (fun ls hl => ?_)
  refine lv_goto (tgt := 15) hx hb dX4_init_37 (by decide) ?_
  refine lv_iload_n hx hb dX4_init_15 rfl (lv_at hl 0 rfl) ?_
  refine r_bipush hx hb dX4_init_16 (by decide +kernel) ?_
  refine r_icmp_ge (tgt := 40) hx hb ⟨by decide, by decide⟩ ⟨by decide, by decide⟩ dX4_init_18 (by decide) (fun h => absurd h (by decide)) (fun _ => ?_)
  refine lv_aload_n hx hb dX4_init_21 rfl (lv_at hl 1 rfl) ?_
  refine g_get hx hb hts hown G uX4 rfl 15 0 (by omega) (fs := [.ref (z + 16), .int 0]) (by repeat (first | exact upE_s | rw [upE_o (by omega)] | rw [ext_lt (by omega)] | exact hE | exact ext_at (i := 0) (by omega))) (by decide) rfl qF_X4_11 rfl dX4_init_22 ?_
  refine lv_iload_n hx hb dX4_init_25 rfl (lv_at hl 0 rfl) ?_
  refine g_new hx hb hts hown G (by omega) uX1 tyX1 tyX1_ok qK_X4_9 qB_X1 qN_X1 (ci := 1) rfl (fs := [.null, .null, .null]) (fun j hj => by rcases (by omega : j = 0 ∨ j = 1 ∨ j = 2) with rfl | rfl | rfl <;> rfl) ⟨Nat.le_of_ble_eq_true rfl, Nat.le_of_ble_eq_true rfl⟩ dX4_init_26 (fun H G => ?_)
  refine lv_dup hx hb dX4_init_29 rfl ?_
  refine g_init (mc := 13) (ms := 297) ⟨hx, hb, hml, hown, hts⟩ hxg G (by omega) (k_X1_init l D T z (b := 59) (by repeat (first | exact upE_s | rw [upE_o (by omega)] | rw [ext_lt (by omega)] | exact hE | exact ext_at (i := 0) (by omega)))) qM_X4_17 qI_X1_init qN_X1 qC_X1_init rfl (by decide +kernel) ⟨Nat.le_of_ble_eq_true rfl, Nat.le_of_ble_eq_true rfl⟩ hl.1 (Nat.le_of_ble_eq_true rfl) dX4_init_30 ⟨Nat.le_of_ble_eq_true rfl, Nat.le_of_ble_eq_true rfl⟩ (fun H locs G => ?_)
  refine g_astq hx hb G 16 59 ⟨by omega, by omega⟩ (N := 6) (f := va_up (va_up (va_up (fun _ => none) (0 : Int).toNat (some (z + 17))) (1 : Int).toNat (some (z + 31))) (2 : Int).toNat (some (z + 45))) (by repeat (first | exact upE_s | rw [upE_o (by omega)] | rw [ext_lt (by omega)] | exact hE | exact ext_at (i := 0) (by omega))) (vs := [.ref (z + (59 + 1)), .ref (z + (59 + 7)), .ref (z + (59 + 13))]) (by repeat (first | exact upE_s | rw [upE_o (by omega)] | rw [ext_lt (by omega)] | exact hE | exact ext_at (i := 0) (by omega))) ⟨by decide, by decide, by decide⟩ dX4_init_33 (fun H locs G => ?_)
  refine r_iinc (lv' := [(1, .int (kI 4)), (0, .ref (z + 15))]) hx hb dX4_init_34 hl (k := 0) rfl (by decide) rfl (fun ls hl => ?_)
  refine lv_goto (tgt := 15) hx hb dX4_init_37 (by decide) ?_
  refine lv_iload_n hx hb dX4_init_15 rfl (lv_at hl 0 rfl) ?_
  refine r_bipush hx hb dX4_init_16 (by decide +kernel) ?_
  refine r_icmp_ge (tgt := 40) hx hb ⟨by decide, by decide⟩ ⟨by decide, by decide⟩ dX4_init_18 (by decide) (fun h => absurd h (by decide)) (fun _ => ?_)
  refine lv_aload_n hx hb dX4_init_21 rfl (lv_at hl 1 rfl) ?_
  refine g_get hx hb hts hown G uX4 rfl 15 0 (by omega) (fs := [.ref (z + 16), .int 0]) (by repeat (first | exact upE_s | rw [upE_o (by omega)] | rw [ext_lt (by omega)] | exact hE | exact ext_at (i := 0) (by omega))) (by decide) rfl qF_X4_11 rfl dX4_init_22 ?_
  refine lv_iload_n hx hb dX4_init_25 rfl (lv_at hl 0 rfl) ?_
  refine g_new hx hb hts hown G (by omega) uX1 tyX1 tyX1_ok qK_X4_9 qB_X1 qN_X1 (ci := 1) rfl (fs := [.null, .null, .null]) (fun j hj => by rcases (by omega : j = 0 ∨ j = 1 ∨ j = 2) with rfl | rfl | rfl <;> rfl) ⟨Nat.le_of_ble_eq_true rfl, Nat.le_of_ble_eq_true rfl⟩ dX4_init_26 (fun H G => ?_)
  refine lv_dup hx hb dX4_init_29 rfl ?_
  refine g_init (mc := 13) (ms := 297) ⟨hx, hb, hml, hown, hts⟩ hxg G (by omega) (k_X1_init l D T z (b := 73) (by repeat (first | exact upE_s | rw [upE_o (by omega)] | rw [ext_lt (by omega)] | exact hE | exact ext_at (i := 0) (by omega)))) qM_X4_17 qI_X1_init qN_X1 qC_X1_init rfl (by decide +kernel) ⟨Nat.le_of_ble_eq_true rfl, Nat.le_of_ble_eq_true rfl⟩ hl.1 (Nat.le_of_ble_eq_true rfl) dX4_init_30 ⟨Nat.le_of_ble_eq_true rfl, Nat.le_of_ble_eq_true rfl⟩ (fun H locs G => ?_)
  refine g_astq hx hb G 16 73 ⟨by omega, by omega⟩ (N := 6) (f := va_up (va_up (va_up (va_up (fun _ => none) (0 : Int).toNat (some (z + 17))) (1 : Int).toNat (some (z + 31))) (2 : Int).toNat (some (z + 45))) (3 : Int).toNat (some (z + 59))) (by repeat (first | exact upE_s | rw [upE_o (by omega)] | rw [ext_lt (by omega)] | exact hE | exact ext_at (i := 0) (by omega))) (vs := [.ref (z + (73 + 1)), .ref (z + (73 + 7)), .ref (z + (73 + 13))]) (by repeat (first | exact upE_s | rw [upE_o (by omega)] | rw [ext_lt (by omega)] | exact hE | exact ext_at (i := 0) (by omega))) ⟨by decide, by decide, by decide⟩ dX4_init_33 (fun H locs G => ?_)
  refine r_iinc (lv' := [(1, .int (kI 5)), (0, .ref (z + 15))]) hx hb dX4_init_34 hl (k := 0) rfl (by decide) rfl (fun ls hl => ?_)
  refine lv_goto (tgt := 15) hx hb dX4_init_37 (by decide) ?_
  refine lv_iload_n hx hb dX4_init_15 rfl (lv_at hl 0 rfl) ?_
  refine r_bipush hx hb dX4_init_16 (by decide +kernel) ?_
  refine r_icmp_ge (tgt := 40) hx hb ⟨by decide, by decide⟩ ⟨by decide, by decide⟩ dX4_init_18 (by decide) (fun h => absurd h (by decide)) (fun _ => ?_)
  refine lv_aload_n hx hb dX4_init_21 rfl (lv_at hl 1 rfl) ?_
  refine g_get hx hb hts hown G uX4 rfl 15 0 (by omega) (fs := [.ref (z + 16), .int 0]) (by repeat (first | exact upE_s | rw [upE_o (by omega)] | rw [ext_lt (by omega)] | exact hE | exact ext_at (i := 0) (by omega))) (by decide) rfl qF_X4_11 rfl dX4_init_22 ?_
  refine lv_iload_n hx hb dX4_init_25 rfl (lv_at hl 0 rfl) ?_
  refine g_new hx hb hts hown G (by omega) uX1 tyX1 tyX1_ok qK_X4_9 qB_X1 qN_X1 (ci := 1) rfl (fs := [.null, .null, .null]) (fun j hj => by rcases (by omega : j = 0 ∨ j = 1 ∨ j = 2) with rfl | rfl | rfl <;> rfl) ⟨Nat.le_of_ble_eq_true rfl, Nat.le_of_ble_eq_true rfl⟩ dX4_init_26 (fun H G => ?_)
  refine lv_dup hx hb dX4_init_29 rfl ?_
  refine g_init (mc := 13) (ms := 297) ⟨hx, hb, hml, hown, hts⟩ hxg G (by omega) (k_X1_init l D T z (b := 87) (by repeat (first | exact upE_s | rw [upE_o (by omega)] | rw [ext_lt (by omega)] | exact hE | exact ext_at (i := 0) (by omega)))) qM_X4_17 qI_X1_init qN_X1 qC_X1_init rfl (by decide +kernel) ⟨Nat.le_of_ble_eq_true rfl, Nat.le_of_ble_eq_true rfl⟩ hl.1 (Nat.le_of_ble_eq_true rfl) dX4_init_30 ⟨Nat.le_of_ble_eq_true rfl, Nat.le_of_ble_eq_true rfl⟩ (fun H locs G => ?_)
  refine g_astq hx hb G 16 87 ⟨by omega, by omega⟩ (N := 6) (f := va_up (va_up (va_up (va_up (va_up (fun _ => none) (0 : Int).toNat (some (z + 17))) (1 : Int).toNat (some (z + 31))) (2 : Int).toNat (some (z + 45))) (3 : Int).toNat (some (z + 59))) (4 : Int).toNat (some (z + 73))) (by repeat (first | exact upE_s | rw [upE_o (by omega)] | rw [ext_lt (by omega)] | exact hE | exact ext_at (i := 0) (by omega))) (vs := [.ref (z + (87 + 1)), .ref (z + (87 + 7)), .ref (z + (87 + 13))]) (by repeat (first | exact upE_s | rw [upE_o (by omega)] | rw [ext_lt (by omega)] | exact hE | exact ext_at (i := 0) (by omega))) ⟨by decide, by decide, by decide⟩ dX4_init_33 (fun H locs G => ?_)
  refine r_iinc (lv' := [(1, .int (kI 6)), (0, .ref (z + 15))]) hx hb dX4_init_34 hl (k := 0) rfl (by decide) rfl (fun ls hl => ?_)
  refine lv_goto (tgt := 15) hx hb dX4_init_37 (by decide) ?_
  refine lv_iload_n hx hb dX4_init_15 rfl (lv_at hl 0 rfl) ?_
  refine r_bipush hx hb dX4_init_16 (by decide +kernel) ?_
  refine r_icmp_ge (tgt := 40) hx hb ⟨by decide, by decide⟩ ⟨by decide, by decide⟩ dX4_init_18 (by decide) (fun _ => ?_) (fun h => absurd (by decide) h)
  have G := G.rq 16 (N := 6) (f := va_up (va_up (va_up (va_up (va_up (va_up (fun _ => none) (0 : Int).toNat (some (z + 17))) (1 : Int).toNat (some (z + 31))) (2 : Int).toNat (some (z + 45))) (3 : Int).toNat (some (z + 59))) (4 : Int).toNat (some (z + 73))) (5 : Int).toNat (some (z + 87))) (g := fun j => some (z + (17 + 14 * (σ0 16 (j : Int)).toNat))) (by repeat (first | exact upE_s | rw [upE_o (by omega)] | rw [ext_lt (by omega)] | exact hE | exact ext_at (i := 0) (by omega))) (fun j hj => by rcases (by omega : j = 0 ∨ j = 1 ∨ j = 2 ∨ j = 3 ∨ j = 4 ∨ j = 5) with rfl | rfl | rfl | rfl | rfl | rfl <;> rfl)
  refine g_ret hx hb hr hlk G (fun c hc => ?_) ⟨Nat.le_of_ble_eq_true rfl, Nat.le_of_ble_eq_true rfl⟩ dX4_init_40
  by_cases h0 : c < 15
  · rw [ext_lt h0]
    repeat (first | rw [upE_o (by omega)] | rw [ext_lt (by omega)])
  · rw [ext_P (by omega)]
    by_cases e15 : c = 15
    · subst e15
      repeat (first | rw [upE_o (by omega)] | rw [ext_lt (by omega)])
      rw [upE_e (by omega)]; rfl
    by_cases e16 : c = 16
    · subst e16
      repeat (first | rw [upE_o (by omega)] | rw [ext_lt (by omega)])
      rw [upE_e (by omega)]; rfl
    by_cases f0 : c < 31
    · repeat (first | rw [upE_o (by omega)] | rw [ext_lt (by omega)])
      exact ext_B (Or.inr (Or.inl ⟨0, by decide, rfl⟩)) ⟨by omega, by omega⟩
    by_cases f1 : c < 45
    · repeat (first | rw [upE_o (by omega)] | rw [ext_lt (by omega)])
      exact ext_B (Or.inr (Or.inl ⟨1, by decide, rfl⟩)) ⟨by omega, by omega⟩
    by_cases f2 : c < 59
    · repeat (first | rw [upE_o (by omega)] | rw [ext_lt (by omega)])
      exact ext_B (Or.inr (Or.inl ⟨2, by decide, rfl⟩)) ⟨by omega, by omega⟩
    by_cases f3 : c < 73
    · repeat (first | rw [upE_o (by omega)] | rw [ext_lt (by omega)])
      exact ext_B (Or.inr (Or.inl ⟨3, by decide, rfl⟩)) ⟨by omega, by omega⟩
    by_cases f4 : c < 87
    · repeat (first | rw [upE_o (by omega)] | rw [ext_lt (by omega)])
      exact ext_B (Or.inr (Or.inl ⟨4, by decide, rfl⟩)) ⟨by omega, by omega⟩
    by_cases f5 : c < 101
    · repeat (first | rw [upE_o (by omega)] | rw [ext_lt (by omega)])
      exact ext_B (Or.inr (Or.inl ⟨5, by decide, rfl⟩)) ⟨by omega, by omega⟩
    omega
set_option maxRecDepth 100000 in
set_option maxHeartbeats 4000000 in
theorem k_X2_init (l : Launch) (D : va_G) (T : Nat → ClassId) (z : Nat) {E : Nat → va_E} (hE : E 131 = .inr (2, [.null, .int 0])) : CtG l yX2_init (Cond.code yX2_init cX2_init 1 none) 1 12 1 60 [.ref (z + 131)] D T z 132 133 E (ext E 131 (fun i => shp T z (131 + i) (σ0 (131 + i)))) := by
  refine CtG_of (by decide) rfl (Nat.le_of_ble_eq_true rfl) ?_
  intro p e s m below meth c ls hx hb hml hr hts hown hlk hin G hsz hxg hl
  have hown : s.vm.findClass RX2 = some m.cls := hown
  have hl : lv_has ls 1 [(0, .ref (z + 131))] := hl
  refine lv_aload_n hx hb dX2_init_0 rfl (lv_at hl 0 rfl) ?_
  refine g_obj hx hb hts hown (hml.trans hl.1.symm) qM_X2_3 rfl ⟨Nat.le_of_ble_eq_true rfl, Nat.le_of_ble_eq_true rfl⟩ dX2_init_1 ?_
  refine lv_aload_n hx hb dX2_init_4 rfl (lv_at hl 0 rfl) ?_
  refine r_bipush hx hb dX2_init_5 (by decide +kernel) ?_
  refine g_newa hx hb hts G (by omega) (atype := .int) (i := 0) rfl (fun _ h => h) qA_int (N' := 60) (a0 := (60, .inl (fun _ => 0))) (fun _ => rfl) ⟨by decide, by decide⟩ (by decide) ⟨Nat.le_of_ble_eq_true rfl, Nat.le_of_ble_eq_true rfl⟩ dX2_init_7 (fun H G => ?_)
  refine g_putF hx hb hts hown hin G uX2 tyX2 tyX2_ok nmX2 rfl 131 0 (by omega) (fs := [.null, .int 0]) (by repeat (first | exact upE_s | rw [upE_o (by omega)] | rw [ext_lt (by omega)] | exact hE | exact ext_at (i := 0) (by omega))) (by decide) qF_X2_9 rfl rfl (tyX2_ok 0 (by decide)) rfl rfl (by simp) dX2_init_9 (fun H locs G => ?_)
  refine g_ret hx hb hr hlk G (fun c hc => ?_) ⟨Nat.le_of_ble_eq_true rfl, Nat.le_of_ble_eq_true rfl⟩ dX2_init_12
  by_cases h0 : c < 131
  · rw [ext_lt h0]
    repeat (first | rw [upE_o (by omega)] | rw [ext_lt (by omega)])
  · rw [ext_P (by omega)]
    by_cases e1 : c = 131
    · subst e1
      repeat (first | rw [upE_o (by omega)] | rw [ext_lt (by omega)])
      rw [upE_e (by omega)]; rfl
    by_cases e2 : c = 132
    · subst e2
      repeat (first | rw [upE_o (by omega)] | rw [ext_lt (by omega)])
      rw [upE_e (by omega)]; rfl
    omega
set_option maxRecDepth 100000 in
set_option maxHeartbeats 4000000 in
theorem k_X5_init (l : Launch) (D : va_G) (T : Nat → ClassId) (z : Nat) {E : Nat → va_E} (hE : E 0 = .inr (5, [.null, .null, .null, .null, .null])) : CtG l yX5_init (Cond.code yX5_init cX5_init 2 none) 4 74 132 2774 [.ref (z + 0)] D T z 1 133 E (ext E 0 (fun i => shp T z (0 + i) (σ0 (0 + i)))) := by
  refine CtG_of (by decide) rfl (Nat.le_of_ble_eq_true rfl) ?_
  intro p e s m below meth c ls hx hb hml hr hts hown hlk hin G hsz hxg hl
  have hown : s.vm.findClass RX5 = some m.cls := hown
  have hl : lv_has ls 2 [(0, .ref (z + 0))] := hl
  refine lv_aload_n hx hb dX5_init_0 rfl (lv_at hl 0 rfl) ?_
  refine g_obj hx hb hts hown (hml.trans hl.1.symm) qM_X5_1 rfl ⟨Nat.le_of_ble_eq_true rfl, Nat.le_of_ble_eq_true rfl⟩ dX5_init_1 ?_
  refine lv_aload_n hx hb dX5_init_4 rfl (lv_at hl 0 rfl) ?_
  refine g_new hx hb hts hown G (by omega) uX1 tyX1 tyX1_ok qK_X5_7 qB_X1 qN_X1 (ci := 1) rfl (fs := [.null, .null, .null]) (fun j hj => by rcases (by omega : j = 0 ∨ j = 1 ∨ j = 2) with rfl | rfl | rfl <;> rfl) ⟨Nat.le_of_ble_eq_true rfl, Nat.le_of_ble_eq_true rfl⟩ dX5_init_5 (fun H G => ?_)
  refine lv_dup hx hb dX5_init_8 rfl ?_
  refine g_init (mc := 13) (ms := 297) ⟨hx, hb, hml, hown, hts⟩ hxg G (by omega) (k_X1_init l D T z (b := 1) (by repeat (first | exact upE_s | rw [upE_o (by omega)] | rw [ext_lt (by omega)] | exact hE | exact ext_at (i := 0) (by omega)))) qM_X5_9 qI_X1_init qN_X1 qC_X1_init rfl (by decide +kernel) ⟨Nat.le_of_ble_eq_true rfl, Nat.le_of_ble_eq_true rfl⟩ hl.1 (Nat.le_of_ble_eq_true rfl) dX5_init_9 ⟨Nat.le_of_ble_eq_true rfl, Nat.le_of_ble_eq_true rfl⟩ (fun H locs G => ?_)
  refine g_putF hx hb hts hown hin G uX5 tyX5 tyX5_ok nmX5 rfl 0 0 (by omega) (fs := [.null, .null, .null, .null, .null]) (by repeat (first | exact upE_s | rw [upE_o (by omega)] | rw [ext_lt (by omega)] | exact hE | exact ext_at (i := 0) (by omega))) (by decide) qF_X5_10 rfl rfl (tyX5_ok 0 (by decide)) rfl rfl (by simp) dX5_init_12 (fun H locs G => ?_)
  refine lv_aload_n hx hb dX5_init_15 rfl (lv_at hl 0 rfl) ?_
  refine g_new hx hb hts hown G (by omega) uX4 tyX4 tyX4_ok qK_X5_16 qB_X4 qN_X4 (ci := 4) rfl (fs := [.null, .int 0]) (fun j hj => by rcases (by omega : j = 0 ∨ j = 1) with rfl | rfl <;> rfl) ⟨Nat.le_of_ble_eq_true rfl, Nat.le_of_ble_eq_true rfl⟩ dX5_init_16 (fun H G => ?_)
  refine lv_dup hx hb dX5_init_19 rfl ?_
  refine g_init (mc := 85) (ms := 1806) ⟨hx, hb, hml, hown, hts⟩ hxg G (by omega) (k_X4_init l D T z (by repeat (first | exact upE_s | rw [upE_o (by omega)] | rw [ext_lt (by omega)] | exact hE | exact ext_at (i := 0) (by omega)))) qM_X5_18 qI_X4_init qN_X4 qC_X4_init rfl (by decide +kernel) ⟨Nat.le_of_ble_eq_true rfl, Nat.le_of_ble_eq_true rfl⟩ hl.1 (Nat.le_of_ble_eq_true rfl) dX5_init_20 ⟨Nat.le_of_ble_eq_true rfl, Nat.le_of_ble_eq_true rfl⟩ (fun H locs G => ?_)
  refine g_putF hx hb hts hown hin G uX5 tyX5 tyX5_ok nmX5 rfl 0 1 (by omega) (fs := [.ref (z + 1), .null, .null, .null, .null]) (by repeat (first | exact upE_s | rw [upE_o (by omega)] | rw [ext_lt (by omega)] | exact hE | exact ext_at (i := 0) (by omega))) (by decide) qF_X5_19 rfl rfl (tyX5_ok 1 (by decide)) rfl rfl (by simp) dX5_init_23 (fun H locs G => ?_)
  refine lv_aload_n hx hb dX5_init_26 rfl (lv_at hl 0 rfl) ?_
  refine r_iconst hx hb dX5_init_27 ?_
  refine g_newq hx hb hts hown hxg G (by omega) qK_X5_7 (N' := 2) ⟨by decide, by decide⟩ ⟨Nat.le_of_ble_eq_true rfl, Nat.le_of_ble_eq_true rfl⟩ dX5_init_28 (fun H G => ?_)
  refine g_putF hx hb hts hown hin G uX5 tyX5 tyX5_ok nmX5 rfl 0 2 (by omega) (fs := [.ref (z + 1), .ref (z + 15), .null, .null, .null]) (by repeat (first | exact upE_s | rw [upE_o (by omega)] | rw [ext_lt (by omega)] | exact hE | exact ext_at (i := 0) (by omega))) (by decide) qF_X5_23 rfl rfl (tyX5_ok 2 (by decide)) rfl rfl (by simp) dX5_init_31 (fun H locs G => ?_)
  refine r_iconst hx hb dX5_init_34 ?_
  refine lv_istore_n (lv' := [(1, .int (kI 0)), (0, .ref (z + 0))]) hx hb dX5_init_35 rfl hl (by decide) rfl (fun ls hl => ?_)
  refine lv_iload_n hx hb dX5_init_36 rfl (lv_at hl 0 rfl) ?_
  refine r_iconst hx hb dX5_init_37 ?_
  refine r_icmp_ge (tgt := 60) hx hb ⟨by decide, by decide⟩ ⟨by decide, by decide⟩ dX5_init_38 (by decide) (fun h => absurd h (by decide)) (fun _ => ?_)
  refine lv_aload_n hx hb dX5_init_41 rfl (lv_at hl 1 rfl) ?_
  refine g_get hx hb hts hown G uX5 rfl 0 2 (by omega) (fs := [.ref (z + 1), .ref (z + 15), .ref (z + 101), .null, .null]) (by repeat (first | exact upE_s | rw [upE_o (by omega)] | rw [ext_lt (by omega)] | exact hE | exact ext_at (i := 0) (by omega))) (by decide) rfl qF_X5_23 rfl dX5_init_42 ?_
  refine lv_iload_n hx hb dX5_init_45 rfl (lv_at hl 0 rfl) ?_
  refine g_new hx hb hts hown G (by omega) uX1 tyX1 tyX1_ok qK_X5_7 qB_X1 qN_X1 (ci := 1) rfl (fs := [.null, .null, .null]) (fun j hj => by rcases (by omega : j = 0 ∨ j = 1 ∨ j = 2) with rfl | rfl | rfl <;> rfl) ⟨Nat.le_of_ble_eq_true rfl, Nat.le_of_ble_eq_true rfl⟩ dX5_init_46 (fun H G => ?_)
  refine lv_dup hx hb dX5_init_49 rfl ?_
  refine g_init (mc := 13) (ms := 297) ⟨hx, hb, hml, hown, hts⟩ hxg G (by omega) (k_X1_init l D T z (b := 102) (by repeat (first | exact upE_s | rw [upE_o (by omega)] | rw [ext_lt (by omega)] | exact hE | exact ext_at (i := 0) (by omega)))) qM_X5_9 qI_X1_init qN_X1 qC_X1_init rfl (by decide +kernel) ⟨Nat.le_of_ble_eq_true rfl, Nat.le_of_ble_eq_true rfl⟩ hl.1 (Nat.le_of_ble_eq_true rfl) dX5_init_50 ⟨Nat.le_of_ble_eq_true rfl, Nat.le_of_ble_eq_true rfl⟩ (fun H locs G => ?_)
  refine g_astq hx hb G 101 102 ⟨by omega, by omega⟩ (N := 2) (f := fun _ => none) (by repeat (first | exact upE_s | rw [upE_o (by omega)] | rw [ext_lt (by omega)] | exact hE | exact ext_at (i := 0) (by omega))) (vs := [.ref (z + (102 + 1)), .ref (z + (102 + 7)), .ref (z + (102 + 13))]) (by repeat (first | exact upE_s | rw [upE_o (by omega)] | rw [ext_lt (by omega)] | exact hE | exact ext_at (i := 0) (by omega))) ⟨by decide, by decide, by decide⟩ dX5_init_53 (fun H locs G => ?_)
  refine r_iinc (lv' := [(1, .int (kI 1)), (0, .ref (z + 0))]) hx hb dX5_init_54 hl (k := 0) rfl (by decide) rfl (fun ls hl => ?_)
  refine lv_goto (tgt := 36) hx hb dX5_init_57 (by decide) ?_
  refine lv_iload_n hx hb dX5_init_36 rfl (lv_at hl 0 rfl) ?_
  refine r_iconst hx hb dX5_init_37 ?_
  refine r_icmp_ge (tgt := 60) hx hb ⟨by decide, by decide⟩ ⟨by decide, by decide⟩ dX5_init_38 (by decide) (fun h => absurd h (by decide)) (fun _ => ?_)
  refine lv_aload_n hx hb dX5_init_41 rfl (lv_at hl 1 rfl) ?_
  refine g_get hx hb hts hown G uX5 rfl 0 2 (by omega) (fs := [.ref (z + 1), .ref (z + 15), .ref (z + 101), .null, .null]) (by repeat (first | exact upE_s | rw [upE_o (by omega)] | rw [ext_lt (by omega)] | exact hE | exact ext_at (i := 0) (by omega))) (by decide) rfl qF_X5_23 rfl dX5_init_42 ?_
  refine lv_iload_n hx hb dX5_init_45 rfl (lv_at hl 0 rfl) ?_
  refine g_new hx hb hts hown G (by omega) uX1 tyX1 tyX1_ok qK_X5_7 qB_X1 qN_X1 (ci := 1) rfl (fs := [.null, .null, .null]) (fun j hj => by rcases (by omega : j = 0 ∨ j = 1 ∨ j = 2) with rfl | rfl | rfl <;> rfl) ⟨Nat.le_of_ble_eq_true rfl, Nat.le_of_ble_eq_true rfl⟩ dX5_init_46 (fun H G => ?_)
  refine lv_dup hx hb dX5_init_49 rfl ?_
  refine g_init (mc := 13) (ms := 297) ⟨hx, hb, hml, hown, hts⟩ hxg G (by omega) (k_X1_init l D T z (b := 116) (by repeat (first | exact upE_s | rw [upE_o (by omega)] | rw [ext_lt (by omega)] | exact hE | exact ext_at (i := 0) (by omega)))) qM_X5_9 qI_X1_init qN_X1 qC_X1_init rfl (by decide +kernel) ⟨Nat.le_of_ble_eq_true rfl, Nat.le_of_ble_eq_true rfl⟩ hl.1 (Nat.le_of_ble_eq_true rfl) dX5_init_50 ⟨Nat.le_of_ble_eq_true rfl, Nat.le_of_ble_eq_true rfl⟩ (fun H locs G => ?_)
  refine g_astq hx hb G 101 116 ⟨by omega, by omega⟩ (N := 2) (f := va_up (fun _ => none) (0 : Int).toNat (some (z + 102))) (by repeat (first | exact upE_s | rw [upE_o (by omega)] | rw [ext_lt (by omega)] | exact hE | exact ext_at (i := 0) (by omega))) (vs := [.ref (z + (116 + 1)), .ref (z + (116 + 7)), .ref (z + (116 + 13))]) (by repeat (first | exact upE_s | rw [upE_o (by omega)] | rw [ext_lt (by omega)] | exact hE | exact ext_at (i := 0) (by omega))) ⟨by decide, by decide, by decide⟩ dX5_init_53 (fun H locs G => ?_)
  refine r_iinc (lv' := [(1, .int (kI 2)), (0, .ref (z + 0))]) hx hb dX5_init_54 hl (k := 0) rfl (by decide) rfl (fun ls hl => ?_)
  refine lv_goto (tgt := 36) hx hb dX5_init_57 (by decide) ?_
  refine lv_iload_n hx hb dX5_init_36 rfl (lv_at hl 0 rfl) ?_
  refine r_iconst hx hb dX5_init_37 ?_
  refine r_icmp_ge (tgt := 60) hx hb ⟨by decide, by decide⟩ ⟨by decide, by decide⟩ dX5_init_38 (by decide) (fun _ => ?_) (fun h => absurd (by decide) h)
  refine lv_aload_n hx hb dX5_init_60 rfl (lv_at hl 1 rfl) ?_
  refine r_iconst hx hb dX5_init_61 ?_
  refine g_newa hx hb hts G (by omega) (atype := .boolean) (i := 1) rfl (fun _ h => h) qA_boolean (N' := 2) (a0 := (2, .inl (fun _ => 0))) (fun _ => rfl) ⟨by decide, by decide⟩ (by decide) ⟨Nat.le_of_ble_eq_true rfl, Nat.le_of_ble_eq_true rfl⟩ dX5_init_62 (fun H G => ?_)
  refine g_putF hx hb hts hown hin G uX5 tyX5 tyX5_ok nmX5 rfl 0 3 (by omega) (fs := [.ref (z + 1), .ref (z + 15), .ref (z + 101), .null, .null]) (by repeat (first | exact upE_s | rw [upE_o (by omega)] | rw [ext_lt (by omega)] | exact hE | exact ext_at (i := 0) (by omega))) (by decide) qF_X5_27 rfl rfl (tyX5_ok 3 (by decide)) rfl rfl (by simp) dX5_init_64 (fun H locs G => ?_)
  refine lv_aload_n hx hb dX5_init_67 rfl (lv_at hl 1 rfl) ?_
  refine g_new hx hb hts hown G (by omega) uX2 tyX2 tyX2_ok qK_X5_31 qB_X2 qN_X2 (ci := 2) rfl (fs := [.null, .int 0]) (fun j hj => by rcases (by omega : j = 0 ∨ j = 1) with rfl | rfl <;> rfl) ⟨Nat.le_of_ble_eq_true rfl, Nat.le_of_ble_eq_true rfl⟩ dX5_init_68 (fun H G => ?_)
  refine lv_dup hx hb dX5_init_71 rfl ?_
  refine g_init (mc := 1) (ms := 60) ⟨hx, hb, hml, hown, hts⟩ hxg G (by omega) (k_X2_init l D T z (by repeat (first | exact upE_s | rw [upE_o (by omega)] | rw [ext_lt (by omega)] | exact hE | exact ext_at (i := 0) (by omega)))) qM_X5_33 qI_X2_init qN_X2 qC_X2_init rfl (by decide +kernel) ⟨Nat.le_of_ble_eq_true rfl, Nat.le_of_ble_eq_true rfl⟩ hl.1 (Nat.le_of_ble_eq_true rfl) dX5_init_72 ⟨Nat.le_of_ble_eq_true rfl, Nat.le_of_ble_eq_true rfl⟩ (fun H locs G => ?_)
  refine g_putF hx hb hts hown hin G uX5 tyX5 tyX5_ok nmX5 rfl 0 4 (by omega) (fs := [.ref (z + 1), .ref (z + 15), .ref (z + 101), .ref (z + 130), .null]) (by repeat (first | exact upE_s | rw [upE_o (by omega)] | rw [ext_lt (by omega)] | exact hE | exact ext_at (i := 0) (by omega))) (by decide) qF_X5_34 rfl rfl (tyX5_ok 4 (by decide)) rfl rfl (by simp) dX5_init_75 (fun H locs G => ?_)
  have G := G.rq 101 (N := 2) (f := va_up (va_up (fun _ => none) (0 : Int).toNat (some (z + 102))) (1 : Int).toNat (some (z + 116))) (g := fun j => some (z + (102 + 14 * j))) (by repeat (first | exact upE_s | rw [upE_o (by omega)] | rw [ext_lt (by omega)] | exact hE | exact ext_at (i := 0) (by omega))) (fun j hj => by rcases (by omega : j = 0 ∨ j = 1) with rfl | rfl <;> rfl)
  refine g_ret hx hb hr hlk G (fun c hc => ?_) ⟨Nat.le_of_ble_eq_true rfl, Nat.le_of_ble_eq_true rfl⟩ dX5_init_78
  have e0 : ext E 0 (fun i => shp T z (0 + i) (σ0 (0 + i))) c = shp T z c (σ0 c) := ext_P (by omega)
  rw [e0]
  by_cases g0 : c = 0
  · subst g0
    repeat (first | rw [upE_o (by omega)] | rw [ext_lt (by omega)])
    rw [upE_e (by omega)]; rfl
  by_cases g101 : c = 101
  · subst g101
    repeat (first | rw [upE_o (by omega)] | rw [ext_lt (by omega)])
    rw [upE_e (by omega)]; rfl
  by_cases g130 : c = 130
  · subst g130
    repeat (first | rw [upE_o (by omega)] | rw [ext_lt (by omega)])
    rw [upE_e (by omega)]; rfl
  by_cases f1 : c < 15
  · repeat (first | rw [upE_o (by omega)] | rw [ext_lt (by omega)])
    exact ext_B (Or.inl rfl) ⟨by omega, by omega⟩
  by_cases f2 : c < 101
  · repeat (first | rw [upE_o (by omega)] | rw [ext_lt (by omega)])
    exact ext_P (by omega)
  by_cases f3 : c < 116
  · repeat (first | rw [upE_o (by omega)] | rw [ext_lt (by omega)])
    exact ext_B (Or.inr (Or.inr ⟨0, by decide, rfl⟩)) ⟨by omega, by omega⟩
  by_cases f4 : c < 130
  · repeat (first | rw [upE_o (by omega)] | rw [ext_lt (by omega)])
    exact ext_B (Or.inr (Or.inr ⟨1, by decide, rfl⟩)) ⟨by omega, by omega⟩
  · repeat (first | rw [upE_o (by omega)] | rw [ext_lt (by omega)])
    exact ext_P (by omega)
