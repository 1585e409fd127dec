theorem it_inv {S : Type} {f : Int → S → S} {a : S} (P : Int → S → Prop) (h0 : P 0 a) {n : Int} (hs : ∀ j v, 0 ≤ j → j < n → P j v → P (j + 1) (f j v)) {i : Int} (hi : 0 ≤ i) (hn : i ≤ n) : P i (it f a i) := by
  obtain ⟨k, rfl⟩ := Int.eq_ofNat_of_zero_le hi
  induction k with
  | zero => exact h0
  | succ k ih =>
    have h1 := hs k _ (by omega) (by omega) (ih (by omega) (by omega))
    have e : it f a ((k + 1 : Nat) : Int) = f k (it f a k) := it_s (i := (k : Int)) (by omega)
    rw [e]
    exact h1
theorem drw_rg {σ : Mem} {k r : Int} {t : Nat} : -1 ≤ drw σ k r t ∧ drw σ k r t < 16 := by
  refine it_inv (f := dst σ k r t) (a := (-1, 0)) (n := 16) (fun _ v => -1 ≤ v.1 ∧ v.1 < 16) ⟨by decide, by decide⟩ (fun j v h0 h1 h => ?_) (by decide) (by decide)
  unfold dst
  split
  · exact h
  · split
    · exact ⟨by show -1 ≤ j; omega, h1⟩
    · exact h
def atr (σ : Mem) (k : Int) : Int := if drw σ k (σ 14 0) 0 = -1 then 100 + (if hm σ k 2 = 0 then 1 else 2) else drw σ k (σ 14 0) 0
theorem atr_rg {σ : Mem} {k : Int} : 0 ≤ atr σ k ∧ (atr σ k < 16 ∨ atr σ k = 101 ∨ atr σ k = 102) := by
  have := drw_rg (σ := σ) (k := k) (r := σ 14 0) (t := 0)
  unfold atr
  (repeat' split) <;> constructor <;> omega
/-- ranges of the settings too -/
def IS (σ : Mem) : Prop := IC σ ∧ (0 ≤ σ 14 0 ∧ σ 14 0 ≤ 3) ∧ (1 ≤ σ 14 1 ∧ σ 14 1 ≤ 9) ∧ 0 ≤ σ 14 2 ∧ σ 14 2 ≤ 20
theorem giv_o {σ : Mem} {k y : Int} {c : Nat} (h6 : c ≠ 6) (h5 : c ≠ 5) (h4 : c ≠ 4) : giv σ k y c = σ c := by
  unfold giv; rw [up_o h4, up_o h5, tko_o h6]
theorem rev_o {σ : Mem} {k y : Int} {c : Nat} (h6 : c ≠ 6) (h4 : c ≠ 4) : rev σ k y c = σ c := by
  unfold rev; rw [up_o h4, tko_o h6]
def gvk (σ : Mem) (k y : Int) : Mem := up (giv σ k y) 9 k (wr (σ 9 k + 1))
def svr (σ : Mem) (k : Int) : Mem := if 100 ≤ atr σ k then nwo σ k (atr σ k - 100) else gvk σ k (atr σ k)
def rag (σ : Mem) (k y : Int) : Int := if σ 4 (k * 16 + y) = 1 then 3 else if σ 4 (k * 16 + y) = 3 then 4 else if cbg σ k y then 0 else 5
theorem rag_rg {σ : Mem} {k y : Int} : 0 ≤ rag σ k y ∧ rag σ k y ≤ 5 := by unfold rag; (repeat' split) <;> constructor <;> omega
def svw (σ : Mem) (k y : Int) : Mem := if rag σ k y = 0 then gvk σ k y else nwo σ k (rag σ k y)
def svwR (σ : Mem) (k y : Int) : Int := if rag σ k y = 0 then σ 5 (k * 16 + y) + 1 else 100 + rag σ k y
abbrev cbb (σ : Mem) (k y : Int) : Prop := σ 4 (k * 16 + y) = 2 ∧ σ 2 0 - σ 7 (k * 16 + y) ≤ σ 14 2
def del10 (σ : Mem) (k : Int) : Mem := up σ 10 k (wr (σ 10 k + 1))
def dlr (σ : Mem) (k y : Int) : Mem := if σ 14 1 ≤ σ 5 (k * 16 + y) then up (del10 σ k) 4 (k * 16 + y) 3 else lot (del10 σ k) k y
def brb (σ : Mem) (k y : Int) : Mem := up (rev σ k y) 11 k (wr (σ 11 k + 1))
theorem jud_rg {σ : Mem} {k y q : Int} : 0 ≤ jud σ k y q ∧ jud σ k y q ≤ 2 := by unfold jud; (repeat' split) <;> constructor <;> omega
/-- rows that ask one after the other: the keys taken, the key of the last row; -2 behind one that went without -/
def korF (σ : Mem) (k : Int) (_ : Int) (v : Nat × Int) : Nat × Int := if v.2 = -2 then v else if drw σ k (σ 14 0) v.1 = -1 then (v.1, -2) else (v.1 ||| 2 ^ (drw σ k (σ 14 0) v.1).toNat, drw σ k (σ 14 0) v.1)
def kor (σ : Mem) (k n : Int) : Int := if (it (korF σ k) (0, -1) n).2 = -2 then -1 else (it (korF σ k) (0, -1) n).2
theorem kor_stay {σ : Mem} {k i n : Int} (h0 : 0 ≤ i) (hn : i ≤ n) (h : (it (korF σ k) (0, -1) i).2 = -2) : (it (korF σ k) (0, -1) n).2 = -2 := by
  obtain ⟨d, rfl⟩ : ∃ d : Nat, n = i + d := ⟨(n - i).toNat, by omega⟩
  clear hn
  induction d with
  | zero => simpa using h
  | succ d ih =>
    have e : i + ((d + 1 : Nat) : Int) = (i + d) + 1 := by omega
    rw [e, it_s (by omega)]
    generalize it (korF σ k) (0, -1) (i + d) = v at ih ⊢
    unfold korF
    rw [if_pos ih]
    exact ih
theorem kor_miss {σ : Mem} {k i n ky : Int} {t : Nat} (h0 : 1 ≤ i) (hn : i ≤ n) (hv : (t, ky) = it (korF σ k) (0, -1) (i - 1)) (hk : ky ≠ -2) (hd : drw σ k (σ 14 0) t = -1) : -1 = kor σ k n := by
  have h2 : (it (korF σ k) (0, -1) n).2 = -2 := by
    refine kor_stay (i := i) (by omega) hn ?_
    have e : i = (i - 1) + 1 := by omega
    rw [e, it_s (by omega), ← hv]
    unfold korF
    rw [if_neg (by exact hk), if_pos (by exact hd)]
  unfold kor
  rw [if_pos h2]
theorem kor_next {σ : Mem} {k i ky : Int} {t : Nat} (h0 : 1 ≤ i) (hv : (t, ky) = it (korF σ k) (0, -1) (i - 1)) (hk : ky ≠ -2) (hd : drw σ k (σ 14 0) t ≠ -1) : (t ||| 2 ^ (drw σ k (σ 14 0) t).toNat, drw σ k (σ 14 0) t) = it (korF σ k) (0, -1) (i + 1 - 1) := by
  have e : i + 1 - 1 = (i - 1) + 1 := by omega
  rw [e, it_s (by omega), ← hv]
  unfold korF
  rw [if_neg (by exact hk), if_neg (by exact hd)]
theorem kor_end {σ : Mem} {k n ky : Int} {t : Nat} (hv : (t, ky) = it (korF σ k) (0, -1) n) (hk : ky ≠ -2) : ky = kor σ k n := by
  unfold kor
  rw [← hv, if_neg (by exact hk)]
def pkd (σ : Mem) (k w : Int) : Int := if w = 0 then σ 3 k else if w = 1 then hm σ k 0 else if w = 2 then hm σ k 1 else if w = 3 then hm σ k 2 else if w = 4 then hrp σ k else if w = 5 then hm σ k 3 else if w = 6 then σ 9 k else if w = 7 then σ 10 k else if w = 8 then σ 12 k else if w = 9 then σ 13 k else σ 11 k
set_option maxRecDepth 100000 in
set_option maxHeartbeats 4000000 in
theorem k_X1_answerToRow (l : Launch) {σ : Mem} {k : Int} (hk : 0 ≤ k ∧ k < 4) (hS : IS σ) : CtI l yX1_answerToRow (Cond.code yX1_answerToRow cX1_answerToRow 3 (some .int)) 3 72 (fun z => [.ref (z + 1), .int (kI k)]) σ (atr σ k) σ := by
  intro D T z
  refine Ct_of (by decide) (Nat.le_of_ble_eq_true rfl) ?_
  intro p e s m below meth c ls hx hb hml hr hts hown hlk G hl
  have hown : s.vm.findClass RX1 = some m.cls := hown
  have hl : lv_has ls 3 [(0, .ref (z + 1)), (1, .int (kI k))] := hl
  have hs := hS.2
  have hdr := drw_rg (σ := σ) (k := k) (r := σ 14 0) (t := 0)
  have hmr := hm_rg (σ := σ) (k := k) (w := 2)
  refine lv_aload_n hx hb dX1_answerToRow_0 rfl (lv_at hl 0 rfl) ?_
  refine gf_X1_12 hx hb hts hown G dX1_answerToRow_1 ?_
  refine lv_iload_n hx hb dX1_answerToRow_4 rfl (lv_at hl 1 rfl) ?_
  refine lv_aload_n hx hb dX1_answerToRow_5 rfl (lv_at hl 0 rfl) ?_
  refine gf_X1_25 hx hb hts hown G dX1_answerToRow_6 ?_
  refine r_iconst hx hb dX1_answerToRow_9 ?_
  refine r_iald hx hb G 14 (by decide) (N := 3) (fun _ => rfl) (by omega) (by omega) (by decide) dX1_answerToRow_10 ?_
  refine r_iconst hx hb dX1_answerToRow_11 ?_
  refine r_callVI ⟨hx, hb, hml, hown, hts⟩ G (k_X3_draw l (k := k) (r := σ 14 0) (t := 0) (σ := σ) (by omega) (⟨by omega, by omega⟩) (by omega) (hS.1)) (kV_X3_draw hts qM_X1_45 ⟨by decide, by decide⟩) (rc_X3 G) rfl rfl hl.1 rfl (Nat.le_of_ble_eq_true rfl) dX1_answerToRow_12 ⟨Nat.le_refl _, Nat.le_refl _⟩ (fun H locs G => ?_)
  refine lv_istore_n (lv' := [(2, .int (kI (drw σ k (σ 14 0) 0))), (0, .ref (z + 1)), (1, .int (kI k))]) hx hb dX1_answerToRow_15 rfl hl (by decide) rfl (fun ls hl => ?_)
  refine lv_iload_n hx hb dX1_answerToRow_16 rfl (lv_at hl 0 rfl) ?_
  refine r_iconst hx hb dX1_answerToRow_17 ?_
  refine r_icmp_eq (tgt := 23) hx hb ⟨by omega, by omega⟩ ⟨by decide, by decide⟩ dX1_answerToRow_18 (by decide) (fun h_1 => ?_) (fun h_1 => ?_)
  · skip
    refine r_bipush hx hb dX1_answerToRow_23 (by decide +kernel) ?_
    refine lv_aload_n hx hb dX1_answerToRow_25 rfl (lv_at hl 1 rfl) ?_
    refine gf_X1_12 hx hb hts hown G dX1_answerToRow_26 ?_
    refine lv_iload_n hx hb dX1_answerToRow_29 rfl (lv_at hl 2 rfl) ?_
    refine r_iconst hx hb dX1_answerToRow_30 ?_
    refine r_callVI ⟨hx, hb, hml, hown, hts⟩ G (k_X3_howMany l (k := k) (w := 2) (σ := σ) (by omega) (⟨by decide, by decide⟩) (hS.1)) (kV_X3_howMany hts qM_X1_49 ⟨by decide, by decide⟩) (rc_X3 G) rfl rfl hl.1 rfl (Nat.le_of_ble_eq_true rfl) dX1_answerToRow_31 ⟨Nat.le_refl _, Nat.le_refl _⟩ (fun H locs G => ?_)
    refine r_if_ne (tgt := 41) hx hb ⟨by omega, by omega⟩ dX1_answerToRow_34 (by decide) (fun h_2 => ?_) (fun h_2 => ?_)
    · skip
      refine r_iconst hx hb dX1_answerToRow_41 ?_
      refine r_iadd hx hb dX1_answerToRow_42 ?_
      refine r_top (b := 102) (by decide) ?_
      exact r_iret hx hb hr hlk G (by unfold atr; (repeat' split) <;> omega) (by rfl) dX1_answerToRow_43
    · skip
      refine r_iconst hx hb dX1_answerToRow_37 ?_
      refine lv_goto (tgt := 42) hx hb dX1_answerToRow_38 (by decide) ?_
      refine r_iadd hx hb dX1_answerToRow_42 ?_
      refine r_top (b := 101) (by decide) ?_
      exact r_iret hx hb hr hlk G (by unfold atr; (repeat' split) <;> omega) (by rfl) dX1_answerToRow_43
  · skip
    refine lv_iload_n hx hb dX1_answerToRow_21 rfl (lv_at hl 0 rfl) ?_
    exact r_iret hx hb hr hlk G (by unfold atr; (repeat' split) <;> omega) (by rfl) dX1_answerToRow_22
set_option maxRecDepth 100000 in
set_option maxHeartbeats 4000000 in
theorem k_X1_giveKey (l : Launch) {σ : Mem} {k y : Int} (hk : 0 ≤ k ∧ k < 4) (hy : 0 ≤ y ∧ y < 16) (hS : IS σ) : CtV l yX1_giveKey (Cond.code yX1_giveKey cX1_giveKey 3 none) 2 46 (fun z => [.ref (z + 1), .int (kI k), .int (kI y)]) σ (gvk σ k y) := by
  intro D T z
  refine Ct_of (by decide) (Nat.le_of_ble_eq_true rfl) ?_
  intro p e s m below meth c ls hx hb hml hr hts hown hlk G hl
  have hown : s.vm.findClass RX1 = some m.cls := hown
  have hl : lv_has ls 3 [(0, .ref (z + 1)), (1, .int (kI k)), (2, .int (kI y))] := hl
  refine lv_aload_n hx hb dX1_giveKey_0 rfl (lv_at hl 0 rfl) ?_
  refine gf_X1_12 hx hb hts hown G dX1_giveKey_1 ?_
  refine lv_iload_n hx hb dX1_giveKey_4 rfl (lv_at hl 1 rfl) ?_
  refine lv_iload_n hx hb dX1_giveKey_5 rfl (lv_at hl 2 rfl) ?_
  refine r_callVV ⟨hx, hb, hml, hown, hts⟩ G (k_X3_give l (k := k) (y := y) (σ := σ) (by omega) (by omega) (hS.1)) (kV_X3_give hts qM_X1_77 ⟨by decide, by decide⟩) (rc_X3 G) rfl rfl hl.1 rfl (Nat.le_of_ble_eq_true rfl) dX1_giveKey_6 ⟨Nat.le_refl _, Nat.le_refl _⟩ (fun H locs G => ?_)
  refine lv_aload_n hx hb dX1_giveKey_9 rfl (lv_at hl 0 rfl) ?_
  refine gf_X1_21 hx hb hts hown G dX1_giveKey_10 ?_
  refine gf_X1_80 hx hb hts hown G dX1_giveKey_13 ?_
  refine lv_iload_n hx hb dX1_giveKey_16 rfl (lv_at hl 1 rfl) ?_
  refine lv_dup2_11 hx hb dX1_giveKey_17 rfl rfl ?_
  refine r_iald hx hb G 9 (by decide) (N := 4) (fun _ => rfl) (by omega) (by omega) (by decide) dX1_giveKey_18 ?_
  refine r_top (b := σ 9 k) (by rw [giv_o (by decide) (by decide) (by decide)]) ?_
  refine r_iconst hx hb dX1_giveKey_19 ?_
  refine r_iadd hx hb dX1_giveKey_20 ?_
  refine r_topk (b := wr (σ 9 k + 1)) (kI_wr _).symm ?_
  refine r_iast hx hb G 9 (by decide) (N := 4) (fun _ => rfl) (by omega) (by omega) (by decide) dX1_giveKey_21 (fun H locs G => ?_)
  exact r_vret hx hb hr hlk G (by rfl) dX1_giveKey_22
set_option maxRecDepth 100000 in
set_option maxHeartbeats 4000000 in
theorem k_X1_serveRow (l : Launch) {σ : Mem} {k : Int} (hk : 0 ≤ k ∧ k < 4) (hS : IS σ) : CtI l yX1_serveRow (Cond.code yX1_serveRow cX1_serveRow 3 (some .int)) 4 94 (fun z => [.ref (z + 1), .int (kI k)]) σ (atr σ k) (svr σ k) := by
  intro D T z
  refine Ct_of (by decide) (Nat.le_of_ble_eq_true rfl) ?_
  intro p e s m below meth c ls hx hb hml hr hts hown hlk G hl
  have hown : s.vm.findClass RX1 = some m.cls := hown
  have hl : lv_has ls 3 [(0, .ref (z + 1)), (1, .int (kI k))] := hl
  have har := atr_rg (σ := σ) (k := k)
  refine lv_aload_n hx hb dX1_serveRow_0 rfl (lv_at hl 0 rfl) ?_
  refine lv_iload_n hx hb dX1_serveRow_1 rfl (lv_at hl 1 rfl) ?_
  refine r_callVI ⟨hx, hb, hml, hown, hts⟩ G (k_X1_answerToRow l (k := k) (σ := σ) (by omega) (hS)) (kV_X1_answerToRow hts qM_X1_53 ⟨by decide, by decide⟩) (rc_X1 G) rfl rfl hl.1 rfl (Nat.le_of_ble_eq_true rfl) dX1_serveRow_2 ⟨Nat.le_refl _, Nat.le_refl _⟩ (fun H locs G => ?_)
  refine lv_istore_n (lv' := [(2, .int (kI (atr σ k))), (0, .ref (z + 1)), (1, .int (kI k))]) hx hb dX1_serveRow_5 rfl hl (by decide) rfl (fun ls hl => ?_)
  refine lv_iload_n hx hb dX1_serveRow_6 rfl (lv_at hl 0 rfl) ?_
  refine r_bipush hx hb dX1_serveRow_7 (by decide +kernel) ?_
  refine r_icmp_lt (tgt := 27) hx hb ⟨by omega, by omega⟩ ⟨by decide, by decide⟩ dX1_serveRow_9 (by decide) (fun h_1 => ?_) (fun h_1 => ?_)
  · skip
    refine lv_aload_n hx hb dX1_serveRow_27 rfl (lv_at hl 1 rfl) ?_
    refine lv_iload_n hx hb dX1_serveRow_28 rfl (lv_at hl 2 rfl) ?_
    refine lv_iload_n hx hb dX1_serveRow_29 rfl (lv_at hl 0 rfl) ?_
    refine r_callVV ⟨hx, hb, hml, hown, hts⟩ G (k_X1_giveKey l (k := k) (y := atr σ k) (σ := σ) (by omega) (by omega) (hS)) (kV_X1_giveKey hts qM_X1_61 ⟨by decide, by decide⟩) (rc_X1 G) rfl rfl hl.1 rfl (Nat.le_of_ble_eq_true rfl) dX1_serveRow_30 ⟨Nat.le_refl _, Nat.le_refl _⟩ (fun H locs G => ?_)
    refine lv_iload_n hx hb dX1_serveRow_33 rfl (lv_at hl 0 rfl) ?_
    exact r_iret hx hb hr hlk G (by first | rfl | omega) (by unfold svr; first | rw [if_pos (by omega)] | rw [if_neg (by omega)]) dX1_serveRow_34
  · skip
    refine lv_aload_n hx hb dX1_serveRow_12 rfl (lv_at hl 1 rfl) ?_
    refine gf_X1_21 hx hb hts hown G dX1_serveRow_13 ?_
    refine lv_iload_n hx hb dX1_serveRow_16 rfl (lv_at hl 2 rfl) ?_
    refine lv_iload_n hx hb dX1_serveRow_17 rfl (lv_at hl 0 rfl) ?_
    refine r_bipush hx hb dX1_serveRow_18 (by decide +kernel) ?_
    refine r_isub hx hb dX1_serveRow_20 ?_
    refine r_callVV ⟨hx, hb, hml, hown, hts⟩ G (k_X0_noteWithout l (k := k) (q := atr σ k - 100) (σ := σ) (by omega) (⟨by omega, by omega⟩)) (kV_X0_noteWithout hts qM_X1_57 ⟨by decide, by decide⟩) (rc_X0 G) rfl rfl hl.1 rfl (Nat.le_of_ble_eq_true rfl) dX1_serveRow_21 ⟨Nat.le_refl _, Nat.le_refl _⟩ (fun H locs G => ?_)
    refine lv_goto (tgt := 33) hx hb dX1_serveRow_24 (by decide) ?_
    refine lv_iload_n hx hb dX1_serveRow_33 rfl (lv_at hl 0 rfl) ?_
    exact r_iret hx hb hr hlk G (by first | rfl | omega) (by unfold svr; first | rw [if_pos (by omega)] | rw [if_neg (by omega)]) dX1_serveRow_34
set_option maxRecDepth 100000 in
set_option maxHeartbeats 4000000 in
theorem k_X1_reasonAgainst (l : Launch) {σ : Mem} {k y : Int} (hk : 0 ≤ k ∧ k < 4) (hy : 0 ≤ y ∧ y < 16) (hS : IS σ) : CtI l yX1_reasonAgainst (Cond.code yX1_reasonAgainst cX1_reasonAgainst 3 (some .int)) 2 45 (fun z => [.ref (z + 1), .int (kI k), .int (kI y)]) σ (rag σ k y) σ := by
  intro D T z
  refine Ct_of (by decide) (Nat.le_of_ble_eq_true rfl) ?_
  intro p e s m below meth c ls hx hb hml hr hts hown hlk G hl
  have hown : s.vm.findClass RX1 = some m.cls := hown
  have hl : lv_has ls 3 [(0, .ref (z + 1)), (1, .int (kI k)), (2, .int (kI y))] := hl
  have hi := hS.1.2.2 (k * 16 + y) (by omega) (by omega)
  refine lv_aload_n hx hb dX1_reasonAgainst_0 rfl (lv_at hl 0 rfl) ?_
  refine gf_X1_12 hx hb hts hown G dX1_reasonAgainst_1 ?_
  refine lv_iload_n hx hb dX1_reasonAgainst_4 rfl (lv_at hl 1 rfl) ?_
  refine lv_iload_n hx hb dX1_reasonAgainst_5 rfl (lv_at hl 2 rfl) ?_
  refine r_callVI ⟨hx, hb, hml, hown, hts⟩ G (k_X3_statusOf l (k := k) (y := y) (σ := σ) (by omega) (by omega)) (kV_X3_statusOf hts qM_X1_70 ⟨by decide, by decide⟩) (rc_X3 G) rfl rfl hl.1 rfl (Nat.le_of_ble_eq_true rfl) dX1_reasonAgainst_6 ⟨Nat.le_refl _, Nat.le_refl _⟩ (fun H locs G => ?_)
  by_cases hc_1 : σ 4 (k * 16 + y) = 1
  · skip
    refine r_lkp (off := 27) (tgt := 36) hx hb dX1_reasonAgainst_9 ⟨by omega, by omega⟩ (by decide) (show (if (1 : Int) = σ 4 (k * 16 + y) then (27 : Int) else if (3 : Int) = σ 4 (k * 16 + y) then (29 : Int) else (31 : Int)) = 27 by (repeat' split) <;> omega) (by decide) ?_
    refine r_iconst hx hb dX1_reasonAgainst_36 ?_
    exact r_iret hx hb hr hlk G (by unfold rag; (repeat' split) <;> omega) (by rfl) dX1_reasonAgainst_37
  by_cases hc_2 : σ 4 (k * 16 + y) = 3
  · skip
    refine r_lkp (off := 29) (tgt := 38) hx hb dX1_reasonAgainst_9 ⟨by omega, by omega⟩ (by decide) (show (if (1 : Int) = σ 4 (k * 16 + y) then (27 : Int) else if (3 : Int) = σ 4 (k * 16 + y) then (29 : Int) else (31 : Int)) = 29 by (repeat' split) <;> omega) (by decide) ?_
    refine r_iconst hx hb dX1_reasonAgainst_38 ?_
    exact r_iret hx hb hr hlk G (by unfold rag; (repeat' split) <;> omega) (by rfl) dX1_reasonAgainst_39
  refine r_lkp (off := 31) (tgt := 40) hx hb dX1_reasonAgainst_9 ⟨by omega, by omega⟩ (by decide) (show (if (1 : Int) = σ 4 (k * 16 + y) then (27 : Int) else if (3 : Int) = σ 4 (k * 16 + y) then (29 : Int) else (31 : Int)) = 31 by (repeat' split) <;> omega) (by decide) ?_
  refine lv_aload_n hx hb dX1_reasonAgainst_40 rfl (lv_at hl 0 rfl) ?_
  refine gf_X1_12 hx hb hts hown G dX1_reasonAgainst_41 ?_
  refine lv_iload_n hx hb dX1_reasonAgainst_44 rfl (lv_at hl 1 rfl) ?_
  refine lv_iload_n hx hb dX1_reasonAgainst_45 rfl (lv_at hl 2 rfl) ?_
  refine r_callVI ⟨hx, hb, hml, hown, hts⟩ G (k_X3_canBeGiven l (k := k) (y := y) (σ := σ) (by omega) (by omega) (hS.1)) (kV_X3_canBeGiven hts qM_X1_73 ⟨by decide, by decide⟩) (rc_X3 G) rfl rfl hl.1 rfl (Nat.le_of_ble_eq_true rfl) dX1_reasonAgainst_46 ⟨Nat.le_refl _, Nat.le_refl _⟩ (fun H locs G => ?_)
  refine r_zeq (tgt := 56) hx hb dX1_reasonAgainst_49 (by decide) (fun h_3 => ?_) (fun h_3 => ?_)
  · skip
    refine r_iconst hx hb dX1_reasonAgainst_56 ?_
    exact r_iret hx hb hr hlk G (by unfold rag; (repeat' split) <;> omega) (by rfl) dX1_reasonAgainst_57
  · skip
    refine r_iconst hx hb dX1_reasonAgainst_52 ?_
    refine lv_goto (tgt := 57) hx hb dX1_reasonAgainst_53 (by decide) ?_
    exact r_iret hx hb hr hlk G (by unfold rag; (repeat' split) <;> omega) (by rfl) dX1_reasonAgainst_57
set_option maxRecDepth 100000 in
set_option maxHeartbeats 4000000 in
theorem k_X1_serveWish (l : Launch) {σ : Mem} {k y : Int} (hk : 0 ≤ k ∧ k < 4) (hy : 0 ≤ y ∧ y < 16) (hS : IS σ) : CtI l yX1_serveWish (Cond.code yX1_serveWish cX1_serveWish 4 (some .int)) 3 68 (fun z => [.ref (z + 1), .int (kI k), .int (kI y)]) σ (svwR σ k y) (svw σ k y) := by
  intro D T z
  refine Ct_of (by decide) (Nat.le_of_ble_eq_true rfl) ?_
  intro p e s m below meth c ls hx hb hml hr hts hown hlk G hl
  have hown : s.vm.findClass RX1 = some m.cls := hown
  have hl : lv_has ls 4 [(0, .ref (z + 1)), (1, .int (kI k)), (2, .int (kI y))] := hl
  have hrr := rag_rg (σ := σ) (k := k) (y := y)
  refine lv_aload_n hx hb dX1_serveWish_0 rfl (lv_at hl 0 rfl) ?_
  refine lv_iload_n hx hb dX1_serveWish_1 rfl (lv_at hl 1 rfl) ?_
  refine lv_iload_n hx hb dX1_serveWish_2 rfl (lv_at hl 2 rfl) ?_
  refine r_callVI ⟨hx, hb, hml, hown, hts⟩ G (k_X1_reasonAgainst l (k := k) (y := y) (σ := σ) (by omega) (by omega) (hS)) (kV_X1_reasonAgainst hts qM_X1_64 ⟨by decide, by decide⟩) (rc_X1 G) rfl rfl hl.1 rfl (Nat.le_of_ble_eq_true rfl) dX1_serveWish_3 ⟨Nat.le_refl _, Nat.le_refl _⟩ (fun H locs G => ?_)
  refine lv_istore_n (lv' := [(3, .int (kI (rag σ k y))), (0, .ref (z + 1)), (1, .int (kI k)), (2, .int (kI y))]) hx hb dX1_serveWish_6 rfl hl (by decide) rfl (fun ls hl => ?_)
  refine lv_iload_n hx hb dX1_serveWish_7 rfl (lv_at hl 0 rfl) ?_
  refine r_if_eq (tgt := 25) hx hb ⟨by omega, by omega⟩ dX1_serveWish_8 (by decide) (fun h_1 => ?_) (fun h_1 => ?_)
  · skip
    refine lv_aload_n hx hb dX1_serveWish_25 rfl (lv_at hl 1 rfl) ?_
    refine lv_iload_n hx hb dX1_serveWish_26 rfl (lv_at hl 2 rfl) ?_
    refine lv_iload_n hx hb dX1_serveWish_27 rfl (lv_at hl 3 rfl) ?_
    refine r_callVV ⟨hx, hb, hml, hown, hts⟩ G (k_X1_giveKey l (k := k) (y := y) (σ := σ) (by omega) (by omega) (hS)) (kV_X1_giveKey hts qM_X1_61 ⟨by decide, by decide⟩) (rc_X1 G) rfl rfl hl.1 rfl (Nat.le_of_ble_eq_true rfl) dX1_serveWish_28 ⟨Nat.le_refl _, Nat.le_refl _⟩ (fun H locs G => ?_)
    refine lv_aload_n hx hb dX1_serveWish_31 rfl (lv_at hl 1 rfl) ?_
    refine gf_X1_12 hx hb hts hown G dX1_serveWish_32 ?_
    refine lv_iload_n hx hb dX1_serveWish_35 rfl (lv_at hl 2 rfl) ?_
    refine lv_iload_n hx hb dX1_serveWish_36 rfl (lv_at hl 3 rfl) ?_
    refine r_callVI ⟨hx, hb, hml, hown, hts⟩ G (k_X3_roundOf l (k := k) (y := y) (σ := gvk σ k y) (by omega) (by omega)) (kV_X3_roundOf hts qM_X1_67 ⟨by decide, by decide⟩) (rc_X3 G) rfl rfl hl.1 rfl (Nat.le_of_ble_eq_true rfl) dX1_serveWish_37 ⟨Nat.le_refl _, Nat.le_refl _⟩ (fun H locs G => ?_)
    refine r_top (b := σ 5 (k * 16 + y) + 1) (by unfold gvk giv; simp [up_ap]) ?_
    exact r_iret hx hb hr hlk G (by unfold svwR; first | rw [if_pos (by omega)] | rw [if_neg (by omega)]) (by unfold svw; first | rw [if_pos (by omega)] | rw [if_neg (by omega)]) dX1_serveWish_40
  · skip
    refine lv_aload_n hx hb dX1_serveWish_11 rfl (lv_at hl 1 rfl) ?_
    refine gf_X1_21 hx hb hts hown G dX1_serveWish_12 ?_
    refine lv_iload_n hx hb dX1_serveWish_15 rfl (lv_at hl 2 rfl) ?_
    refine lv_iload_n hx hb dX1_serveWish_16 rfl (lv_at hl 0 rfl) ?_
    refine r_callVV ⟨hx, hb, hml, hown, hts⟩ G (k_X0_noteWithout l (k := k) (q := rag σ k y) (σ := σ) (by omega) (⟨by omega, by omega⟩)) (kV_X0_noteWithout hts qM_X1_57 ⟨by decide, by decide⟩) (rc_X0 G) rfl rfl hl.1 rfl (Nat.le_of_ble_eq_true rfl) dX1_serveWish_17 ⟨Nat.le_refl _, Nat.le_refl _⟩ (fun H locs G => ?_)
    refine r_bipush hx hb dX1_serveWish_20 (by decide +kernel) ?_
    refine lv_iload_n hx hb dX1_serveWish_22 rfl (lv_at hl 0 rfl) ?_
    refine r_iadd hx hb dX1_serveWish_23 ?_
    exact r_iret hx hb hr hlk G (by unfold svwR; first | rw [if_pos (by omega)] | rw [if_neg (by omega)]) (by unfold svw; first | rw [if_pos (by omega)] | rw [if_neg (by omega)]) dX1_serveWish_24
set_option maxRecDepth 100000 in
set_option maxHeartbeats 4000000 in
theorem k_X1_canDelete (l : Launch) {σ : Mem} {k y : Int} (hk : 0 ≤ k ∧ k < 4) (hy : 0 ≤ y ∧ y < 16) (hS : IS σ) : CtI l yX1_canDelete (Cond.code yX1_canDelete cX1_canDelete 3 (some .boolean)) 1 22 (fun z => [.ref (z + 1), .int (kI k), .int (kI y)]) σ (bz (σ 4 (k * 16 + y) = 1)) σ := by
  intro D T z
  refine Ct_of (by decide) (Nat.le_of_ble_eq_true rfl) ?_
  intro p e s m below meth c ls hx hb hml hr hts hown hlk G hl
  have hown : s.vm.findClass RX1 = some m.cls := hown
  have hl : lv_has ls 3 [(0, .ref (z + 1)), (1, .int (kI k)), (2, .int (kI y))] := hl
  have hi := hS.1.2.2 (k * 16 + y) (by omega) (by omega)
  refine lv_aload_n hx hb dX1_canDelete_0 rfl (lv_at hl 0 rfl) ?_
  refine gf_X1_12 hx hb hts hown G dX1_canDelete_1 ?_
  refine lv_iload_n hx hb dX1_canDelete_4 rfl (lv_at hl 1 rfl) ?_
  refine lv_iload_n hx hb dX1_canDelete_5 rfl (lv_at hl 2 rfl) ?_
  refine r_callVI ⟨hx, hb, hml, hown, hts⟩ G (k_X3_statusOf l (k := k) (y := y) (σ := σ) (by omega) (by omega)) (kV_X3_statusOf hts qM_X1_70 ⟨by decide, by decide⟩) (rc_X3 G) rfl rfl hl.1 rfl (Nat.le_of_ble_eq_true rfl) dX1_canDelete_6 ⟨Nat.le_refl _, Nat.le_refl _⟩ (fun H locs G => ?_)
  refine r_iconst hx hb dX1_canDelete_9 ?_
  refine r_icmp_ne (tgt := 17) hx hb ⟨by omega, by omega⟩ ⟨by decide, by decide⟩ dX1_canDelete_10 (by decide) (fun h_1 => ?_) (fun h_1 => ?_)
  · skip
    refine r_iconst hx hb dX1_canDelete_17 ?_
    exact r_zret hx hb hr hlk G (Or.inl rfl) (by first | exact one_bz (by omega) | exact zero_bz (by omega)) (by rfl) dX1_canDelete_18
  · skip
    refine r_iconst hx hb dX1_canDelete_13 ?_
    refine lv_goto (tgt := 18) hx hb dX1_canDelete_14 (by decide) ?_
    exact r_zret hx hb hr hlk G (Or.inr rfl) (by first | exact one_bz (by omega) | exact zero_bz (by omega)) (by rfl) dX1_canDelete_18
set_option maxRecDepth 100000 in
set_option maxHeartbeats 4000000 in
theorem k_X1_deleteRow (l : Launch) {σ : Mem} {k y : Int} (hk : 0 ≤ k ∧ k < 4) (hy : 0 ≤ y ∧ y < 16) (hS : IS σ) : CtI l yX1_deleteRow (Cond.code yX1_deleteRow cX1_deleteRow 3 (some .int)) 1 23 (fun z => [.ref (z + 1), .int (kI k), .int (kI y)]) σ (bz (σ 14 1 ≤ σ 5 (k * 16 + y))) (dlr σ k y) := by
  intro D T z
  refine Ct_of (by decide) (Nat.le_of_ble_eq_true rfl) ?_
  intro p e s m below meth c ls hx hb hml hr hts hown hlk G hl
  have hown : s.vm.findClass RX1 = some m.cls := hown
  have hl : lv_has ls 3 [(0, .ref (z + 1)), (1, .int (kI k)), (2, .int (kI y))] := hl
  have hi := hS.1.2.2 (k * 16 + y) (by omega) (by omega)
  have hs := hS.2
  refine lv_aload_n hx hb dX1_deleteRow_0 rfl (lv_at hl 0 rfl) ?_
  refine gf_X1_21 hx hb hts hown G dX1_deleteRow_1 ?_
  refine gf_X1_83 hx hb hts hown G dX1_deleteRow_4 ?_
  refine lv_iload_n hx hb dX1_deleteRow_7 rfl (lv_at hl 1 rfl) ?_
  refine lv_dup2_11 hx hb dX1_deleteRow_8 rfl rfl ?_
  refine r_iald hx hb G 10 (by decide) (N := 4) (fun _ => rfl) (by omega) (by omega) (by decide) dX1_deleteRow_9 ?_
  refine r_iconst hx hb dX1_deleteRow_10 ?_
  refine r_iadd hx hb dX1_deleteRow_11 ?_
  refine r_topk (b := wr (σ 10 k + 1)) (kI_wr _).symm ?_
  refine r_iast hx hb G 10 (by decide) (N := 4) (fun _ => rfl) (by omega) (by omega) (by decide) dX1_deleteRow_12 (fun H locs G => ?_)
  have G := G.cong (τ := del10 σ k) (rfl)
  refine lv_aload_n hx hb dX1_deleteRow_13 rfl (lv_at hl 0 rfl) ?_
  refine gf_X1_12 hx hb hts hown G dX1_deleteRow_14 ?_
  refine lv_iload_n hx hb dX1_deleteRow_17 rfl (lv_at hl 1 rfl) ?_
  refine lv_iload_n hx hb dX1_deleteRow_18 rfl (lv_at hl 2 rfl) ?_
  refine r_callVI ⟨hx, hb, hml, hown, hts⟩ G (k_X3_roundOf l (k := k) (y := y) (σ := del10 σ k) (by omega) (by omega)) (kV_X3_roundOf hts qM_X1_67 ⟨by decide, by decide⟩) (rc_X3 G) rfl rfl hl.1 rfl (Nat.le_of_ble_eq_true rfl) dX1_deleteRow_19 ⟨Nat.le_refl _, Nat.le_refl _⟩ (fun H locs G => ?_)
  refine r_top (b := σ 5 (k * 16 + y)) (by simp [del10, up_ap]) ?_
  refine lv_aload_n hx hb dX1_deleteRow_22 rfl (lv_at hl 0 rfl) ?_
  refine gf_X1_25 hx hb hts hown G dX1_deleteRow_23 ?_
  refine r_iconst hx hb dX1_deleteRow_26 ?_
  refine r_iald hx hb G 14 (by decide) (N := 3) (fun _ => rfl) (by omega) (by omega) (by decide) dX1_deleteRow_27 ?_
  refine r_top (b := σ 14 1) (by simp [del10, up_ap]) ?_
  refine r_icmp_lt (tgt := 42) hx hb ⟨by omega, by omega⟩ ⟨by omega, by omega⟩ dX1_deleteRow_28 (by decide) (fun h_1 => ?_) (fun h_1 => ?_)
  · skip
    refine lv_aload_n hx hb dX1_deleteRow_42 rfl (lv_at hl 0 rfl) ?_
    refine gf_X1_12 hx hb hts hown G dX1_deleteRow_43 ?_
    refine lv_iload_n hx hb dX1_deleteRow_46 rfl (lv_at hl 1 rfl) ?_
    refine lv_iload_n hx hb dX1_deleteRow_47 rfl (lv_at hl 2 rfl) ?_
    refine r_callVV ⟨hx, hb, hml, hown, hts⟩ G (k_X3_layOnTop l (k := k) (y := y) (σ := (del10 σ k)) (by omega) (by omega)) (kV_X3_layOnTop hts qM_X1_89 ⟨by decide, by decide⟩) (rc_X3 G) rfl rfl hl.1 rfl (Nat.le_of_ble_eq_true rfl) dX1_deleteRow_48 ⟨Nat.le_refl _, Nat.le_refl _⟩ (fun H locs G => ?_)
    refine r_iconst hx hb dX1_deleteRow_51 ?_
    exact r_iret hx hb hr hlk G (by first | exact one_bz (by omega) | exact zero_bz (by omega)) (by unfold dlr; first | rw [if_pos (by omega)] | rw [if_neg (by omega)]) dX1_deleteRow_52
  · skip
    refine lv_aload_n hx hb dX1_deleteRow_31 rfl (lv_at hl 0 rfl) ?_
    refine gf_X1_12 hx hb hts hown G dX1_deleteRow_32 ?_
    refine lv_iload_n hx hb dX1_deleteRow_35 rfl (lv_at hl 1 rfl) ?_
    refine lv_iload_n hx hb dX1_deleteRow_36 rfl (lv_at hl 2 rfl) ?_
    refine r_callVV ⟨hx, hb, hml, hown, hts⟩ G (k_X3_wearOut l (k := k) (y := y) (σ := (del10 σ k)) (by omega) (by omega)) (kV_X3_wearOut hts qM_X1_86 ⟨by decide, by decide⟩) (rc_X3 G) rfl rfl hl.1 rfl (Nat.le_of_ble_eq_true rfl) dX1_deleteRow_37 ⟨Nat.le_refl _, Nat.le_refl _⟩ (fun H locs G => ?_)
    refine r_iconst hx hb dX1_deleteRow_40 ?_
    exact r_iret hx hb hr hlk G (by first | exact one_bz (by omega) | exact zero_bz (by omega)) (by unfold dlr; first | rw [if_pos (by omega)] | rw [if_neg (by omega)]) dX1_deleteRow_41
set_option maxRecDepth 100000 in
set_option maxHeartbeats 4000000 in
theorem k_X1_canBringBack (l : Launch) {σ : Mem} {k y : Int} (hk : 0 ≤ k ∧ k < 4) (hy : 0 ≤ y ∧ y < 16) (hS : IS σ) : CtI l yX1_canBringBack (Cond.code yX1_canBringBack cX1_canBringBack 3 (some .boolean)) 1 22 (fun z => [.ref (z + 1), .int (kI k), .int (kI y)]) σ (bz (cbb σ k y)) σ := by
  intro D T z
  refine Ct_of (by decide) (Nat.le_of_ble_eq_true rfl) ?_
  intro p e s m below meth c ls hx hb hml hr hts hown hlk G hl
  have hown : s.vm.findClass RX1 = some m.cls := hown
  have hl : lv_has ls 3 [(0, .ref (z + 1)), (1, .int (kI k)), (2, .int (kI y))] := hl
  have hi := hS.1.2.2 (k * 16 + y) (by omega) (by omega)
  have hd := hS.1.1
  have hs := hS.2
  refine lv_aload_n hx hb dX1_canBringBack_0 rfl (lv_at hl 0 rfl) ?_
  refine gf_X1_12 hx hb hts hown G dX1_canBringBack_1 ?_
  refine lv_iload_n hx hb dX1_canBringBack_4 rfl (lv_at hl 1 rfl) ?_
  refine lv_iload_n hx hb dX1_canBringBack_5 rfl (lv_at hl 2 rfl) ?_
  refine r_callVI ⟨hx, hb, hml, hown, hts⟩ G (k_X3_statusOf l (k := k) (y := y) (σ := σ) (by omega) (by omega)) (kV_X3_statusOf hts qM_X1_70 ⟨by decide, by decide⟩) (rc_X3 G) rfl rfl hl.1 rfl (Nat.le_of_ble_eq_true rfl) dX1_canBringBack_6 ⟨Nat.le_refl _, Nat.le_refl _⟩ (fun H locs G => ?_)
  refine r_iconst hx hb dX1_canBringBack_9 ?_
  refine r_icmp_ne (tgt := 35) hx hb ⟨by omega, by omega⟩ ⟨by decide, by decide⟩ dX1_canBringBack_10 (by decide) (fun h_1 => ?_) (fun h_1 => ?_)
  · skip
    refine r_iconst hx hb dX1_canBringBack_35 ?_
    exact r_zret hx hb hr hlk G (Or.inl rfl) (by first | exact one_bz (by omega) | exact zero_bz (by omega)) (by rfl) dX1_canBringBack_36
  · skip
    refine lv_aload_n hx hb dX1_canBringBack_13 rfl (lv_at hl 0 rfl) ?_
    refine gf_X1_12 hx hb hts hown G dX1_canBringBack_14 ?_
    refine lv_iload_n hx hb dX1_canBringBack_17 rfl (lv_at hl 1 rfl) ?_
    refine lv_iload_n hx hb dX1_canBringBack_18 rfl (lv_at hl 2 rfl) ?_
    refine r_callVI ⟨hx, hb, hml, hown, hts⟩ G (k_X3_daysLain l (k := k) (y := y) (σ := σ) (by omega) (by omega)) (kV_X3_daysLain hts qM_X1_92 ⟨by decide, by decide⟩) (rc_X3 G) rfl rfl hl.1 rfl (Nat.le_of_ble_eq_true rfl) dX1_canBringBack_19 ⟨Nat.le_refl _, Nat.le_refl _⟩ (fun H locs G => ?_)
    refine lv_aload_n hx hb dX1_canBringBack_22 rfl (lv_at hl 0 rfl) ?_
    refine gf_X1_25 hx hb hts hown G dX1_canBringBack_23 ?_
    refine r_iconst hx hb dX1_canBringBack_26 ?_
    refine r_iald hx hb G 14 (by decide) (N := 3) (fun _ => rfl) (by omega) (by omega) (by decide) dX1_canBringBack_27 ?_
    refine r_icmp_gt (tgt := 35) hx hb ⟨by omega, by omega⟩ ⟨by omega, by omega⟩ dX1_canBringBack_28 (by decide) (fun h_2 => ?_) (fun h_2 => ?_)
    · skip
      refine r_iconst hx hb dX1_canBringBack_35 ?_
      exact r_zret hx hb hr hlk G (Or.inl rfl) (by first | exact one_bz (by omega) | exact zero_bz (by omega)) (by rfl) dX1_canBringBack_36
    · skip
      refine r_iconst hx hb dX1_canBringBack_31 ?_
      refine lv_goto (tgt := 36) hx hb dX1_canBringBack_32 (by decide) ?_
      exact r_zret hx hb hr hlk G (Or.inr rfl) (by first | exact one_bz (by omega) | exact zero_bz (by omega)) (by rfl) dX1_canBringBack_36
set_option maxRecDepth 100000 in
set_option maxHeartbeats 4000000 in
theorem k_X1_bringRowBack (l : Launch) {σ : Mem} {k y : Int} (hk : 0 ≤ k ∧ k < 4) (hy : 0 ≤ y ∧ y < 16) (hS : IS σ) : CtI l yX1_bringRowBack (Cond.code yX1_bringRowBack cX1_bringRowBack 3 (some .int)) 2 46 (fun z => [.ref (z + 1), .int (kI k), .int (kI y)]) σ (σ 5 (k * 16 + y)) (brb σ k y) := by
  intro D T z
  refine Ct_of (by decide) (Nat.le_of_ble_eq_true rfl) ?_
  intro p e s m below meth c ls hx hb hml hr hts hown hlk G hl
  have hown : s.vm.findClass RX1 = some m.cls := hown
  have hl : lv_has ls 3 [(0, .ref (z + 1)), (1, .int (kI k)), (2, .int (kI y))] := hl
  refine lv_aload_n hx hb dX1_bringRowBack_0 rfl (lv_at hl 0 rfl) ?_
  refine gf_X1_12 hx hb hts hown G dX1_bringRowBack_1 ?_
  refine lv_iload_n hx hb dX1_bringRowBack_4 rfl (lv_at hl 1 rfl) ?_
  refine lv_iload_n hx hb dX1_bringRowBack_5 rfl (lv_at hl 2 rfl) ?_
  refine r_callVV ⟨hx, hb, hml, hown, hts⟩ G (k_X3_revive l (k := k) (y := y) (σ := σ) (by omega) (by omega) (hS.1)) (kV_X3_revive hts qM_X1_95 ⟨by decide, by decide⟩) (rc_X3 G) rfl rfl hl.1 rfl (Nat.le_of_ble_eq_true rfl) dX1_bringRowBack_6 ⟨Nat.le_refl _, Nat.le_refl _⟩ (fun H locs G => ?_)
  refine lv_aload_n hx hb dX1_bringRowBack_9 rfl (lv_at hl 0 rfl) ?_
  refine gf_X1_21 hx hb hts hown G dX1_bringRowBack_10 ?_
  refine gf_X1_98 hx hb hts hown G dX1_bringRowBack_13 ?_
  refine lv_iload_n hx hb dX1_bringRowBack_16 rfl (lv_at hl 1 rfl) ?_
  refine lv_dup2_11 hx hb dX1_bringRowBack_17 rfl rfl ?_
  refine r_iald hx hb G 11 (by decide) (N := 4) (fun _ => rfl) (by omega) (by omega) (by decide) dX1_bringRowBack_18 ?_
  refine r_top (b := σ 11 k) (by rw [rev_o (by decide) (by decide)]) ?_
  refine r_iconst hx hb dX1_bringRowBack_19 ?_
  refine r_iadd hx hb dX1_bringRowBack_20 ?_
  refine r_topk (b := wr (σ 11 k + 1)) (kI_wr _).symm ?_
  refine r_iast hx hb G 11 (by decide) (N := 4) (fun _ => rfl) (by omega) (by omega) (by decide) dX1_bringRowBack_21 (fun H locs G => ?_)
  refine lv_aload_n hx hb dX1_bringRowBack_22 rfl (lv_at hl 0 rfl) ?_
  refine gf_X1_12 hx hb hts hown G dX1_bringRowBack_23 ?_
  refine lv_iload_n hx hb dX1_bringRowBack_26 rfl (lv_at hl 1 rfl) ?_
  refine lv_iload_n hx hb dX1_bringRowBack_27 rfl (lv_at hl 2 rfl) ?_
  refine r_callVI ⟨hx, hb, hml, hown, hts⟩ G (k_X3_roundOf l (k := k) (y := y) (σ := up (rev σ k y) 11 k (wr (σ 11 k + 1))) (by omega) (by omega)) (kV_X3_roundOf hts qM_X1_67 ⟨by decide, by decide⟩) (rc_X3 G) rfl rfl hl.1 rfl (Nat.le_of_ble_eq_true rfl) dX1_bringRowBack_28 ⟨Nat.le_refl _, Nat.le_refl _⟩ (fun H locs G => ?_)
  refine r_top (b := σ 5 (k * 16 + y)) (by rw [up_o (by decide), rev_o (by decide) (by decide)]) ?_
  exact r_iret hx hb hr hlk G (by first | rfl | omega) (by rfl) dX1_bringRowBack_31
set_option maxRecDepth 100000 in
set_option maxHeartbeats 4000000 in
theorem k_X1_followReference (l : Launch) {σ : Mem} {k y q : Int} (hk : 0 ≤ k ∧ k < 4) (hy : 0 ≤ y ∧ y < 16) (hq : inR q) (hS : IS σ) : CtI l yX1_followReference (Cond.code yX1_followReference cX1_followReference 5 (some .int)) 2 45 (fun z => [.ref (z + 1), .int (kI k), .int (kI y), .int (kI q)]) σ (jud σ k y q) (nfo σ (jud σ k y q)) := by
  intro D T z
  refine Ct_of (by decide) (Nat.le_of_ble_eq_true rfl) ?_
  intro p e s m below meth c ls hx hb hml hr hts hown hlk G hl
  have hown : s.vm.findClass RX1 = some m.cls := hown
  have hl : lv_has ls 5 [(0, .ref (z + 1)), (1, .int (kI k)), (2, .int (kI y)), (3, .int (kI q))] := hl
  have hj := jud_rg (σ := σ) (k := k) (y := y) (q := q)
  refine lv_aload_n hx hb dX1_followReference_0 rfl (lv_at hl 0 rfl) ?_
  refine gf_X1_12 hx hb hts hown G dX1_followReference_1 ?_
  refine lv_iload_n hx hb dX1_followReference_4 rfl (lv_at hl 1 rfl) ?_
  refine lv_iload_n hx hb dX1_followReference_5 rfl (lv_at hl 2 rfl) ?_
  refine lv_iload_n hx hb dX1_followReference_6 rfl (lv_at hl 3 rfl) ?_
  refine r_callVI ⟨hx, hb, hml, hown, hts⟩ G (k_X3_judge l (k := k) (y := y) (q := q) (σ := σ) (by omega) (by omega) (hq) (hS.1)) (kV_X3_judge hts qM_X1_101 ⟨by decide, by decide⟩) (rc_X3 G) rfl rfl hl.1 rfl (Nat.le_of_ble_eq_true rfl) dX1_followReference_7 ⟨Nat.le_refl _, Nat.le_refl _⟩ (fun H locs G => ?_)
  refine lv_istore (lv' := [(4, .int (kI (jud σ k y q))), (0, .ref (z + 1)), (1, .int (kI k)), (2, .int (kI y)), (3, .int (kI q))]) hx hb dX1_followReference_10 hl (by decide) rfl (fun ls hl => ?_)
  refine lv_aload_n hx hb dX1_followReference_12 rfl (lv_at hl 1 rfl) ?_
  refine gf_X1_21 hx hb hts hown G dX1_followReference_13 ?_
  refine lv_iload hx hb dX1_followReference_16 (lv_at hl 0 rfl) ?_
  refine r_callVV ⟨hx, hb, hml, hown, hts⟩ G (k_X0_noteFollowed l (q := jud σ k y q) (σ := σ) (⟨by omega, by omega⟩)) (kV_X0_noteFollowed hts qM_X1_104 ⟨by decide, by decide⟩) (rc_X0 G) rfl rfl hl.1 rfl (Nat.le_of_ble_eq_true rfl) dX1_followReference_18 ⟨Nat.le_refl _, Nat.le_refl _⟩ (fun H locs G => ?_)
  refine lv_iload hx hb dX1_followReference_21 (lv_at hl 0 rfl) ?_
  exact r_iret hx hb hr hlk G (by first | rfl | omega) (by rfl) dX1_followReference_23
set_option maxRecDepth 100000 in
set_option maxHeartbeats 4000000 in
theorem k_X1_keyOfRow (l : Launch) {σ : Mem} {k n : Int} (hk : 0 ≤ k ∧ k < 4) (hn : 1 ≤ n ∧ n ≤ 16) (hS : IS σ) : CtI l yX1_keyOfRow (Cond.code yX1_keyOfRow cX1_keyOfRow 6 (some .int)) 3 72 (fun z => [.ref (z + 1), .int (kI k), .int (kI n)]) σ (kor σ k n) σ := by
  intro D T z
  refine Ct_of (by decide) (Nat.le_of_ble_eq_true rfl) ?_
  intro p e s m below meth c ls hx hb hml hr hts hown hlk G hl
  have hown : s.vm.findClass RX1 = some m.cls := hown
  have hl : lv_has ls 6 [(0, .ref (z + 1)), (1, .int (kI k)), (2, .int (kI n))] := hl
  have hs := hS.2
  refine r_iconst hx hb dX1_keyOfRow_0 ?_
  refine lv_istore_n (lv' := [(3, .int (kI 0)), (0, .ref (z + 1)), (1, .int (kI k)), (2, .int (kI n))]) hx hb dX1_keyOfRow_1 rfl hl (by decide) rfl (fun ls hl => ?_)
  refine r_iconst hx hb dX1_keyOfRow_2 ?_
  refine lv_istore (lv' := [(4, .int (kI (-1))), (3, .int (kI 0)), (0, .ref (z + 1)), (1, .int (kI k)), (2, .int (kI n))]) hx hb dX1_keyOfRow_3 hl (by decide) rfl (fun ls hl => ?_)
  refine r_iconst hx hb dX1_keyOfRow_5 ?_
  refine lv_istore (lv' := [(5, .int (kI 1)), (4, .int (kI (-1))), (3, .int (kI 0)), (0, .ref (z + 1)), (1, .int (kI k)), (2, .int (kI n))]) hx hb dX1_keyOfRow_6 hl (by decide) rfl (fun ls hl => ?_)
  have lp8 : ∀ (d : Nat) (t : Nat) (ky : Int) (i : Int), (1 ≤ i) → (i ≤ n + 1) → (t < 65536) → (-1 ≤ ky ∧ ky < 16) → (ky ≠ -2) → ((t, ky) = it (korF σ k) (0, -1) (i - 1)) → (n + 1 - i : Int) < (d : Int) → ∀ (H : Heap) (locs : List Loc), Wd D T z 133 σ s H locs → ∀ (ls : Array Slot), lv_has ls 6 [(0, .ref (z + 1)), (1, .int (kI k)), (2, .int (kI n)), (3, .int (kI (t : Int))), (4, .int (kI ky)), (5, .int (kI i))] → W p l e (rmN 3 72) s m ([.ref (z + 1), .int (kI k), .int (kI n)] : List Value).toArray below meth c H locs 0 0 (MQ below (QI D T z 133 (kor σ k n) σ) ([.ref (z + 1), .int (kI k), .int (kI n)] : List Value).toArray s 0 0 (Own T z)) (F0 m 8 ls []) := by
    intro d
    induction d with
    | zero => intro t ky i h0 h1 ht hk0 hk2 hv hd; exact absurd hd (by omega)
    | succ d ih8 =>
      intro t ky i h0 h1 ht hk0 hk2 hv hd H locs G ls hl
      refine lv_iload hx hb dX1_keyOfRow_8 (lv_at hl 5 rfl) ?_
      refine lv_iload_n hx hb dX1_keyOfRow_10 rfl (lv_at hl 2 rfl) ?_
      refine r_icmp_gt (tgt := 52) hx hb ⟨by omega, by omega⟩ ⟨by omega, by omega⟩ dX1_keyOfRow_11 (by decide) (fun h_1 => ?_) (fun h_1 => ?_)
      · skip
        refine lv_iload hx hb dX1_keyOfRow_52 (lv_at hl 4 rfl) ?_
        exact r_iret hx hb hr hlk G (by obtain rfl : i = n + 1 := (by omega); exact kor_end (by rw [show n + 1 - 1 = n by omega] at hv; exact hv) hk2) (by rfl) dX1_keyOfRow_54
      · skip
        refine lv_aload_n hx hb dX1_keyOfRow_14 rfl (lv_at hl 0 rfl) ?_
        refine gf_X1_12 hx hb hts hown G dX1_keyOfRow_15 ?_
        refine lv_iload_n hx hb dX1_keyOfRow_18 rfl (lv_at hl 1 rfl) ?_
        refine lv_aload_n hx hb dX1_keyOfRow_19 rfl (lv_at hl 0 rfl) ?_
        refine gf_X1_25 hx hb hts hown G dX1_keyOfRow_20 ?_
        refine r_iconst hx hb dX1_keyOfRow_23 ?_
        refine r_iald hx hb G 14 (by decide) (N := 3) (fun _ => rfl) (by omega) (by omega) (by decide) dX1_keyOfRow_24 ?_
        refine lv_iload_n hx hb dX1_keyOfRow_25 rfl (lv_at hl 3 rfl) ?_
        refine r_callVI ⟨hx, hb, hml, hown, hts⟩ G (k_X3_draw l (k := k) (r := σ 14 0) (t := t) (σ := σ) (by omega) (⟨by omega, by omega⟩) (ht) (hS.1)) (kV_X3_draw hts qM_X1_45 ⟨by decide, by decide⟩) (rc_X3 G) rfl rfl hl.1 rfl (Nat.le_of_ble_eq_true rfl) dX1_keyOfRow_26 ⟨Nat.le_refl _, Nat.le_refl _⟩ (fun H locs G => ?_)
        have hdr := drw_rg (σ := σ) (k := k) (r := σ 14 0) (t := t)
        refine lv_istore (lv' := [(4, .int (kI (drw σ k (σ 14 0) t))), (0, .ref (z + 1)), (1, .int (kI k)), (2, .int (kI n)), (3, .int (kI (t : Int))), (5, .int (kI i))]) hx hb dX1_keyOfRow_29 hl (by decide) rfl (fun ls hl => ?_)
        refine lv_iload hx hb dX1_keyOfRow_31 (lv_at hl 0 rfl) ?_
        refine r_iconst hx hb dX1_keyOfRow_33 ?_
        refine r_icmp_ne (tgt := 39) hx hb ⟨by omega, by omega⟩ ⟨by decide, by decide⟩ dX1_keyOfRow_34 (by decide) (fun h_2 => ?_) (fun h_2 => ?_)
        · skip
          have hs2 := kor_next h0 hv hk2 h_2
          have hlt := or_lt (i := drw σ k (σ 14 0) t) ht (by omega) (by omega)
          refine lv_iload_n hx hb dX1_keyOfRow_39 rfl (lv_at hl 4 rfl) ?_
          refine r_iconst hx hb dX1_keyOfRow_40 ?_
          refine lv_iload hx hb dX1_keyOfRow_41 (lv_at hl 0 rfl) ?_
          refine lv_ishl hx hb dX1_keyOfRow_43 ?_
          refine r_ior hx hb ht (by omega) (by omega) dX1_keyOfRow_44 ?_
          refine lv_istore_n (lv' := [(3, .int (kI ((t ||| 2 ^ (drw σ k (σ 14 0) t).toNat : Nat) : Int))), (4, .int (kI (drw σ k (σ 14 0) t))), (0, .ref (z + 1)), (1, .int (kI k)), (2, .int (kI n)), (5, .int (kI i))]) hx hb dX1_keyOfRow_45 rfl hl (by decide) rfl (fun ls hl => ?_)
          refine r_iinc (lv' := [(5, .int (kI (i + 1))), (3, .int (kI ((t ||| 2 ^ (drw σ k (σ 14 0) t).toNat : Nat) : Int))), (4, .int (kI (drw σ k (σ 14 0) t))), (0, .ref (z + 1)), (1, .int (kI k)), (2, .int (kI n))]) hx hb dX1_keyOfRow_46 hl (k := 5) rfl (by decide) rfl (fun ls hl => ?_)
          refine lv_goto (tgt := 8) hx hb dX1_keyOfRow_49 (by decide) ?_
          exact ih8 ((t ||| 2 ^ (drw σ k (σ 14 0) t).toNat : Nat)) (drw σ k (σ 14 0) t) (i + 1) (by omega) (by omega) (hlt) (by omega) (by omega) (hs2) (by omega) _ _ G _ (lv_sub hl [3, 4, 5, 1, 2, 0] rfl)
        · skip
          have hm := kor_miss (n := n) h0 (by omega) hv hk2 h_2
          refine r_iconst hx hb dX1_keyOfRow_37 ?_
          exact r_iret hx hb hr hlk G (by exact hm) (by rfl) dX1_keyOfRow_38
  exact lp8 17 0 (-1) 1 (by omega) (by omega) (by decide) (⟨by decide, by decide⟩) (by decide) (rfl) (by omega) _ _ G _ (lv_sub hl [3, 4, 5, 2, 1, 0] rfl)
set_option maxRecDepth 100000 in
set_option maxHeartbeats 4000000 in
theorem k_X1_propertyOfKind (l : Launch) {σ : Mem} {k w : Int} (hk : 0 ≤ k ∧ k < 4) (hw0 : 0 ≤ w ∧ w ≤ 10) (hS : IS σ) : CtI l yX1_propertyOfKind (Cond.code yX1_propertyOfKind cX1_propertyOfKind 3 (some .int)) 2 46 (fun z => [.ref (z + 1), .int (kI k), .int (kI w)]) σ (pkd σ k w) σ := by
  intro D T z
  refine Ct_of (by decide) (Nat.le_of_ble_eq_true rfl) ?_
  intro p e s m below meth c ls hx hb hml hr hts hown hlk G hl
  have hown : s.vm.findClass RX1 = some m.cls := hown
  have hl : lv_has ls 3 [(0, .ref (z + 1)), (1, .int (kI k)), (2, .int (kI w))] := hl
  refine lv_iload_n hx hb dX1_propertyOfKind_0 rfl (lv_at hl 2 rfl) ?_
  by_cases hc_2 : w = 0
  · skip
    refine r_tabIn (j := 0) (tgt := 56) hx hb dX1_propertyOfKind_1 (by omega) (by omega) ⟨by omega, by omega⟩ rfl (by decide) ?_
    refine lv_aload_n hx hb dX1_propertyOfKind_56 rfl (lv_at hl 0 rfl) ?_
    refine gf_X1_12 hx hb hts hown G dX1_propertyOfKind_57 ?_
    refine gf_X1_108 hx hb hts hown G dX1_propertyOfKind_60 ?_
    refine lv_iload_n hx hb dX1_propertyOfKind_63 rfl (lv_at hl 1 rfl) ?_
    refine r_iald hx hb G 3 (by decide) (N := 4) (fun _ => rfl) (by omega) (by omega) (by decide) dX1_propertyOfKind_64 ?_
    exact r_iret hx hb hr hlk G (by unfold pkd; (repeat' split) <;> omega) (by rfl) dX1_propertyOfKind_65
  by_cases hc_3 : w = 1
  · skip
    refine r_tabIn (j := 1) (tgt := 66) hx hb dX1_propertyOfKind_1 (by omega) (by omega) ⟨by omega, by omega⟩ rfl (by decide) ?_
    refine lv_aload_n hx hb dX1_propertyOfKind_66 rfl (lv_at hl 0 rfl) ?_
    refine gf_X1_12 hx hb hts hown G dX1_propertyOfKind_67 ?_
    refine lv_iload_n hx hb dX1_propertyOfKind_70 rfl (lv_at hl 1 rfl) ?_
    refine r_iconst hx hb dX1_propertyOfKind_71 ?_
    refine r_callVI ⟨hx, hb, hml, hown, hts⟩ G (k_X3_howMany l (k := k) (w := 0) (σ := σ) (by omega) (⟨by decide, by decide⟩) (hS.1)) (kV_X3_howMany hts qM_X1_49 ⟨by decide, by decide⟩) (rc_X3 G) rfl rfl hl.1 rfl (Nat.le_of_ble_eq_true rfl) dX1_propertyOfKind_72 ⟨Nat.le_refl _, Nat.le_refl _⟩ (fun H locs G => ?_)
    exact r_iret hx hb hr hlk G (by unfold pkd; (repeat' split) <;> omega) (by rfl) dX1_propertyOfKind_75
  by_cases hc_4 : w = 2
  · skip
    refine r_tabIn (j := 2) (tgt := 76) hx hb dX1_propertyOfKind_1 (by omega) (by omega) ⟨by omega, by omega⟩ rfl (by decide) ?_
    refine lv_aload_n hx hb dX1_propertyOfKind_76 rfl (lv_at hl 0 rfl) ?_
    refine gf_X1_12 hx hb hts hown G dX1_propertyOfKind_77 ?_
    refine lv_iload_n hx hb dX1_propertyOfKind_80 rfl (lv_at hl 1 rfl) ?_
    refine r_iconst hx hb dX1_propertyOfKind_81 ?_
    refine r_callVI ⟨hx, hb, hml, hown, hts⟩ G (k_X3_howMany l (k := k) (w := 1) (σ := σ) (by omega) (⟨by decide, by decide⟩) (hS.1)) (kV_X3_howMany hts qM_X1_49 ⟨by decide, by decide⟩) (rc_X3 G) rfl rfl hl.1 rfl (Nat.le_of_ble_eq_true rfl) dX1_propertyOfKind_82 ⟨Nat.le_refl _, Nat.le_refl _⟩ (fun H locs G => ?_)
    exact r_iret hx hb hr hlk G (by unfold pkd; (repeat' split) <;> omega) (by rfl) dX1_propertyOfKind_85
  by_cases hc_5 : w = 3
  · skip
    refine r_tabIn (j := 3) (tgt := 86) hx hb dX1_propertyOfKind_1 (by omega) (by omega) ⟨by omega, by omega⟩ rfl (by decide) ?_
    refine lv_aload_n hx hb dX1_propertyOfKind_86 rfl (lv_at hl 0 rfl) ?_
    refine gf_X1_12 hx hb hts hown G dX1_propertyOfKind_87 ?_
    refine lv_iload_n hx hb dX1_propertyOfKind_90 rfl (lv_at hl 1 rfl) ?_
    refine r_iconst hx hb dX1_propertyOfKind_91 ?_
    refine r_callVI ⟨hx, hb, hml, hown, hts⟩ G (k_X3_howMany l (k := k) (w := 2) (σ := σ) (by omega) (⟨by decide, by decide⟩) (hS.1)) (kV_X3_howMany hts qM_X1_49 ⟨by decide, by decide⟩) (rc_X3 G) rfl rfl hl.1 rfl (Nat.le_of_ble_eq_true rfl) dX1_propertyOfKind_92 ⟨Nat.le_refl _, Nat.le_refl _⟩ (fun H locs G => ?_)
    exact r_iret hx hb hr hlk G (by unfold pkd; (repeat' split) <;> omega) (by rfl) dX1_propertyOfKind_95
  by_cases hc_6 : w = 4
  · skip
    refine r_tabIn (j := 4) (tgt := 96) hx hb dX1_propertyOfKind_1 (by omega) (by omega) ⟨by omega, by omega⟩ rfl (by decide) ?_
    refine lv_aload_n hx hb dX1_propertyOfKind_96 rfl (lv_at hl 0 rfl) ?_
    refine gf_X1_12 hx hb hts hown G dX1_propertyOfKind_97 ?_
    refine lv_iload_n hx hb dX1_propertyOfKind_100 rfl (lv_at hl 1 rfl) ?_
    refine r_callVI ⟨hx, hb, hml, hown, hts⟩ G (k_X3_howManyRipe l (k := k) (σ := σ) (by omega) (hS.1)) (kV_X3_howManyRipe hts qM_X1_111 ⟨by decide, by decide⟩) (rc_X3 G) rfl rfl hl.1 rfl (Nat.le_of_ble_eq_true rfl) dX1_propertyOfKind_101 ⟨Nat.le_refl _, Nat.le_refl _⟩ (fun H locs G => ?_)
    exact r_iret hx hb hr hlk G (by unfold pkd; (repeat' split) <;> omega) (by rfl) dX1_propertyOfKind_104
  by_cases hc_7 : w = 5
  · skip
    refine r_tabIn (j := 5) (tgt := 105) hx hb dX1_propertyOfKind_1 (by omega) (by omega) ⟨by omega, by omega⟩ rfl (by decide) ?_
    refine lv_aload_n hx hb dX1_propertyOfKind_105 rfl (lv_at hl 0 rfl) ?_
    refine gf_X1_12 hx hb hts hown G dX1_propertyOfKind_106 ?_
    refine lv_iload_n hx hb dX1_propertyOfKind_109 rfl (lv_at hl 1 rfl) ?_
    refine r_iconst hx hb dX1_propertyOfKind_110 ?_
    refine r_callVI ⟨hx, hb, hml, hown, hts⟩ G (k_X3_howMany l (k := k) (w := 3) (σ := σ) (by omega) (⟨by decide, by decide⟩) (hS.1)) (kV_X3_howMany hts qM_X1_49 ⟨by decide, by decide⟩) (rc_X3 G) rfl rfl hl.1 rfl (Nat.le_of_ble_eq_true rfl) dX1_propertyOfKind_111 ⟨Nat.le_refl _, Nat.le_refl _⟩ (fun H locs G => ?_)
    exact r_iret hx hb hr hlk G (by unfold pkd; (repeat' split) <;> omega) (by rfl) dX1_propertyOfKind_114
  by_cases hc_8 : w = 6
  · skip
    refine r_tabIn (j := 6) (tgt := 115) hx hb dX1_propertyOfKind_1 (by omega) (by omega) ⟨by omega, by omega⟩ rfl (by decide) ?_
    refine lv_aload_n hx hb dX1_propertyOfKind_115 rfl (lv_at hl 0 rfl) ?_
    refine gf_X1_21 hx hb hts hown G dX1_propertyOfKind_116 ?_
    refine gf_X1_80 hx hb hts hown G dX1_propertyOfKind_119 ?_
    refine lv_iload_n hx hb dX1_propertyOfKind_122 rfl (lv_at hl 1 rfl) ?_
    refine r_iald hx hb G 9 (by decide) (N := 4) (fun _ => rfl) (by omega) (by omega) (by decide) dX1_propertyOfKind_123 ?_
    exact r_iret hx hb hr hlk G (by unfold pkd; (repeat' split) <;> omega) (by rfl) dX1_propertyOfKind_124
  by_cases hc_9 : w = 7
  · skip
    refine r_tabIn (j := 7) (tgt := 125) hx hb dX1_propertyOfKind_1 (by omega) (by omega) ⟨by omega, by omega⟩ rfl (by decide) ?_
    refine lv_aload_n hx hb dX1_propertyOfKind_125 rfl (lv_at hl 0 rfl) ?_
    refine gf_X1_21 hx hb hts hown G dX1_propertyOfKind_126 ?_
    refine gf_X1_83 hx hb hts hown G dX1_propertyOfKind_129 ?_
    refine lv_iload_n hx hb dX1_propertyOfKind_132 rfl (lv_at hl 1 rfl) ?_
    refine r_iald hx hb G 10 (by decide) (N := 4) (fun _ => rfl) (by omega) (by omega) (by decide) dX1_propertyOfKind_133 ?_
    exact r_iret hx hb hr hlk G (by unfold pkd; (repeat' split) <;> omega) (by rfl) dX1_propertyOfKind_134
  by_cases hc_10 : w = 8
  · skip
    refine r_tabIn (j := 8) (tgt := 135) hx hb dX1_propertyOfKind_1 (by omega) (by omega) ⟨by omega, by omega⟩ rfl (by decide) ?_
    refine lv_aload_n hx hb dX1_propertyOfKind_135 rfl (lv_at hl 0 rfl) ?_
    refine gf_X1_21 hx hb hts hown G dX1_propertyOfKind_136 ?_
    refine gf_X1_114 hx hb hts hown G dX1_propertyOfKind_139 ?_
    refine lv_iload_n hx hb dX1_propertyOfKind_142 rfl (lv_at hl 1 rfl) ?_
    refine r_iald hx hb G 12 (by decide) (N := 4) (fun _ => rfl) (by omega) (by omega) (by decide) dX1_propertyOfKind_143 ?_
    exact r_iret hx hb hr hlk G (by unfold pkd; (repeat' split) <;> omega) (by rfl) dX1_propertyOfKind_144
  by_cases hc_11 : w = 9
  · skip
    refine r_tabIn (j := 9) (tgt := 145) hx hb dX1_propertyOfKind_1 (by omega) (by omega) ⟨by omega, by omega⟩ rfl (by decide) ?_
    refine lv_aload_n hx hb dX1_propertyOfKind_145 rfl (lv_at hl 0 rfl) ?_
    refine gf_X1_21 hx hb hts hown G dX1_propertyOfKind_146 ?_
    refine gf_X1_117 hx hb hts hown G dX1_propertyOfKind_149 ?_
    refine lv_iload_n hx hb dX1_propertyOfKind_152 rfl (lv_at hl 1 rfl) ?_
    refine r_iald hx hb G 13 (by decide) (N := 4) (fun _ => rfl) (by omega) (by omega) (by decide) dX1_propertyOfKind_153 ?_
    exact r_iret hx hb hr hlk G (by unfold pkd; (repeat' split) <;> omega) (by rfl) dX1_propertyOfKind_154
  refine r_tabOut (tgt := 155) hx hb dX1_propertyOfKind_1 ⟨by omega, by omega⟩ (by omega) (by decide) ?_
  refine lv_aload_n hx hb dX1_propertyOfKind_155 rfl (lv_at hl 0 rfl) ?_
  refine gf_X1_21 hx hb hts hown G dX1_propertyOfKind_156 ?_
  refine gf_X1_98 hx hb hts hown G dX1_propertyOfKind_159 ?_
  refine lv_iload_n hx hb dX1_propertyOfKind_162 rfl (lv_at hl 1 rfl) ?_
  refine r_iald hx hb G 11 (by decide) (N := 4) (fun _ => rfl) (by omega) (by omega) (by decide) dX1_propertyOfKind_163 ?_
  exact r_iret hx hb hr hlk G (by unfold pkd; (repeat' split) <;> omega) (by rfl) dX1_propertyOfKind_164
