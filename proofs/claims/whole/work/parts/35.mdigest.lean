/-! the reference's share, mean, digest -/
section FLT
variable {p : Program} {l : Launch} {e : Env} {R : Room} {s : State} {m : MethodId} {args : Array Value} {below : List Frame} {meth : Method} {c : Code} {H : Heap} {locs : List Loc} {cells slots : Nat} {Q : State → Prop} {pc : Nat} {ls : Array Slot} {rest : List Value}
theorem r_topF {a b : UInt32} (h : a = b) (k : W p l e R s m args below meth c H locs cells slots Q (F0 m pc ls (.float b :: rest))) : W p l e R s m args below meth c H locs cells slots Q (F0 m pc ls (.float a :: rest)) := h ▸ k
end FLT
theorem sm_rg {σ : Mem} {N : Int} (hG : SG σ 0 N) : 0 ≤ sm σ 264 ∧ sm σ 264 ≤ 64 := by
  have h0 := (hG.kd (k := 0) (by decide)).2
  have h1 := (hG.kd (k := 1) (by decide)).2
  have h2 := (hG.kd (k := 2) (by decide)).2
  have h3 := (hG.kd (k := 3) (by decide)).2
  rw [← z264] at h0 h1 h2 h3
  simp only [show (264 : Int) + 0 = 264 by decide] at h0
  unfold sm
  omega
theorem msm_rg {σ : Mem} {N k : Int} (hG : SG σ 0 N) (hk : 0 ≤ k ∧ k < 4) : 0 ≤ msm σ k ∧ msm σ k ≤ 159984 := by
  have hL := (hG.kd hk).2
  have h := it_inv (f := fun p v => v + (mD σ 0 - mT σ 0 k (mP σ 0 k p))) (a := (0 : Int)) (n := mL σ 0 k) (i := mL σ 0 k) (fun i v => 0 ≤ v ∧ v ≤ i * 9999) ⟨by decide, by decide⟩ (fun j v h0 h1 h2 => ?_) hL.1 (Int.le_refl _)
  · have e : msm σ k = it (fun p v => v + (mD σ 0 - mT σ 0 k (mP σ 0 k p))) 0 (mL σ 0 k) := rfl
    rw [← e] at h
    omega
  · have hp := hG.pl hk h0 h1
    have hy := (hG.ky hk hp).2.2
    have hd := hG.d
    omega
/-- sums over a pile -/
def sw (w : Int → Int) (n : Int) : Int := it (fun y v => v + w y) 0 n
theorem sw_s {w : Int → Int} {n : Int} (h : 0 ≤ n) : sw w (n + 1) = sw w n + w n := it_s (f := fun y v => v + w y) h
theorem sw_congr {w w' : Int → Int} {n : Int} (hn : 0 ≤ n) (h : ∀ y, 0 ≤ y → y < n → w y = w' y) : sw w n = sw w' n := it_eq hn (fun j v a b => by rw [h j a b])
theorem sw_add {w w' : Int → Int} {a y n : Int} (h0 : 0 ≤ y) (h1 : y < n) (h : ∀ j, 0 ≤ j → j < n → w' j = w j + if j = y then a else 0) : sw w' n = sw w n + a := by
  have key : ∀ d : Nat, (d : Int) ≤ n → sw w' d = sw w d + if y < (d : Int) then a else 0 := by
    intro d
    induction d with
    | zero => intro _; rw [if_neg (by omega)]; rfl
    | succ d ih =>
      intro hd
      have e1 : sw w' ((d + 1 : Nat) : Int) = sw w' d + w' d := sw_s (n := (d : Int)) (by omega)
      have e2 : sw w ((d + 1 : Nat) : Int) = sw w d + w d := sw_s (n := (d : Int)) (by omega)
      rw [e1, e2, ih (by omega), h d (by omega) (by omega)]
      (repeat' split) <;> omega
  have := key n.toNat (by omega)
  rw [show ((n.toNat : Nat) : Int) = n by omega, if_pos h1] at this
  exact this
def ws (P f : Int → Int) (i y : Int) : Int := it (fun p v => v + if P p = y then f y else 0) 0 i
theorem ws_s {P f : Int → Int} {i y : Int} (h : 0 ≤ i) : ws P f (i + 1) y = ws P f i y + if P i = y then f y else 0 := it_s (f := fun p v => v + if P p = y then f y else 0) h
theorem ws_sum {P f : Int → Int} {L n : Int} (hP : ∀ p, 0 ≤ p → p < L → 0 ≤ P p ∧ P p < n) (hn : 0 ≤ n) (d : Nat) (hd : (d : Int) ≤ L) : sw (ws P f d) n = it (fun p v => v + f (P p)) 0 d := by
  induction d with
  | zero =>
    have e : sw (ws P f ((0 : Nat) : Int)) n = sw (fun _ => 0) n := sw_congr hn (fun y _ _ => rfl)
    rw [e]
    obtain ⟨q, rfl⟩ := Int.eq_ofNat_of_zero_le hn
    clear e hP hn hd
    show sw (fun _ => 0) (q : Int) = 0
    induction q with
    | zero => rfl
    | succ q ih =>
      have e2 : sw (fun _ => 0) ((q + 1 : Nat) : Int) = sw (fun _ => 0) q + 0 := sw_s (w := fun _ => 0) (n := (q : Int)) (by omega)
      rw [e2, ih]; rfl
  | succ d ih =>
    have h := hP d (by omega) (by omega)
    have e2 : it (fun p v => v + f (P p)) 0 ((d + 1 : Nat) : Int) = it (fun p v => v + f (P p)) 0 d + f (P d) := it_s (f := fun p v => v + f (P p)) (i := (d : Int)) (by omega)
    rw [e2, ← ih (by omega)]
    refine sw_add h.1 h.2 (fun j a b => ?_)
    have e3 : ws P f ((d + 1 : Nat) : Int) j = ws P f d j + if P d = j then f j else 0 := ws_s (i := (d : Int)) (by omega)
    rw [e3]
    by_cases q : P d = j
    · rw [if_pos q, if_pos q.symm, q]
    · rw [if_neg q, if_neg (fun r => q r.symm)]
theorem ws_no {P f : Int → Int} {y : Int} (d : Nat) (h : ∀ p, 0 ≤ p → p < (d : Int) → P p ≠ y) : ws P f d y = 0 := by
  induction d with
  | zero => rfl
  | succ d ih =>
    have e3 : ws P f ((d + 1 : Nat) : Int) y = ws P f d y + if P d = y then f y else 0 := ws_s (i := (d : Int)) (by omega)
    rw [e3, ih (fun p a b => h p a (by omega)), if_neg (h d (by omega) (by omega))]; rfl
theorem ws_one {P f : Int → Int} {y q L : Int} (hi : ∀ p r, 0 ≤ p → p < r → r < L → P p ≠ P r) (h0 : 0 ≤ q) (hq : P q = y) (d : Nat) (hd : (d : Int) ≤ L) (h1 : q < (d : Int)) : ws P f d y = f y := by
  induction d with
  | zero => omega
  | succ d ih =>
    have e3 : ws P f ((d + 1 : Nat) : Int) y = ws P f d y + if P d = y then f y else 0 := ws_s (i := (d : Int)) (by omega)
    rw [e3]
    by_cases e : q = (d : Int)
    · rw [ws_no d (fun p a b r => hi p q a (by omega) (by omega) (by rw [r, hq])), ← e, if_pos hq, Int.zero_add]
    · rw [ih (by omega) (by omega), if_neg (fun r => hi q d h0 (by omega) (by omega) (by rw [hq, r])), Int.add_zero]
theorem R1.ms {α β : Mem} (h : R1 α β) {k : Int} (hk : 0 ≤ k ∧ k < 4) : msm β k = dsm α k := by
  have hp := h.g.pk hk
  have hL := (h.g.kd hk).2
  have e1 := ws_sum (P := mP β 0 k) (f := fun y => mD β 0 - mT β 0 k y) (L := mL β 0 k) (n := 16) (fun p a b => h.g.pl hk a b) (by decide) (mL β 0 k).toNat (by omega)
  rw [show (((mL β 0 k).toNat : Nat) : Int) = mL β 0 k by omega] at e1
  have e2 : msm β k = it (fun p v => v + (mD β 0 - mT β 0 k (mP β 0 k p))) 0 (mL β 0 k) := rfl
  have e3 : dsm α k = sw (fun y => if α 4 (k * 16 + y) = 2 then α 2 0 - α 7 (k * 16 + y) else 0) 16 := by
    refine it_eq (by decide) (fun j v a b => ?_)
    show (if α 4 (k * 16 + j) = 2 then v + (α 2 0 - α 7 (k * 16 + j)) else v) = v + (if α 4 (k * 16 + j) = 2 then α 2 0 - α 7 (k * 16 + j) else 0)
    split <;> omega
  rw [e2, ← e1, e3]
  refine sw_congr (by decide) (fun y a b => ?_)
  have g := h.ky hk ⟨a, b⟩
  unfold RK at g
  have hd := h.d
  by_cases q : mS β 0 k y = 2
  · obtain ⟨r, r0, r1, r2⟩ := hp.2.2.2 y a b q
    have o := ws_one (f := fun y => mD β 0 - mT β 0 k y) hp.2.2.1 r0 r2 (mL β 0 k).toNat (by omega) (by omega)
    rw [show (((mL β 0 k).toNat : Nat) : Int) = mL β 0 k by omega] at o
    rw [o, if_pos (by rw [g.1]; exact q), (g.2.2.2.2.1 q).1, hd]
  · have o := ws_no (P := mP β 0 k) (f := fun y => mD β 0 - mT β 0 k y) (y := y) (mL β 0 k).toNat (fun p c d r => q (by have := (hp.2.1 p c (by omega)).2; rw [r] at this; exact this))
    rw [show (((mL β 0 k).toNat : Nat) : Int) = mL β 0 k by omega] at o
    rw [o, if_neg (by rw [g.1]; exact q)]
theorem R1.mn {α β : Mem} (h : R1 α β) {k : Int} (hk : 0 ≤ k ∧ k < 4) : mnW (msm β k) (mL β 0 k) = mnW (dsm α k) (hm α k 2) := by rw [h.ms hk, h.hL hk]
theorem R1.sh {α β : Mem} (h : R1 α β) : shW (kin β (-1) 4) (sm β 264) = shW (hra α) (hma α 2) := by rw [h.hrx, h.haL]
theorem R1.xq {α β : Mem} (h : R1 α β) {q : Int} (hq : 0 ≤ q ∧ q < 3) : α 14 q = β 134 q := by
  have x := h.x
  obtain rfl | rfl | rfl : q = 0 ∨ q = 1 ∨ q = 2 := by omega
  · exact x.1
  · exact x.2.1
  · exact x.2.2
theorem it_5 {S : Type} {f : Int → S → S} {a : S} : it f a 5 = f 4 (f 3 (f 2 (f 1 (f 0 a)))) := rfl
theorem it_nest {f : Int → Int → Int} {a : Int64} (d : Nat) : it (dgF (fun y => f (y / 5) (y % 5))) a (5 * (d : Int)) = it (fun y g => it (dgF (f y)) g 5) a d := by
  induction d with
  | zero => rw [show 5 * ((0 : Nat) : Int) = 0 from rfl, show ((0 : Nat) : Int) = 0 from rfl, it_0, it_0]
  | succ d ih =>
    have e2 : it (fun y g => it (dgF (f y)) g 5) a ((d + 1 : Nat) : Int) = it (dgF (f d)) (it (fun y g => it (dgF (f y)) g 5) a d) 5 := it_s (f := fun y g => it (dgF (f y)) g 5) (i := (d : Int)) (by omega)
    have k : ∀ (i j : Int) (x : Int64), i / 5 = d → i % 5 = j → dgF (fun y => f (y / 5) (y % 5)) i x = dgF (f d) j x := fun i j x h1 h2 => by
      show (31 : Int64) * x + (kI (f (i / 5) (i % 5))).toInt64 = (31 : Int64) * x + (kI (f d j)).toInt64
      rw [h1, h2]
    rw [e2, ← ih]
    generalize hA : it (dgF (fun y => f (y / 5) (y % 5))) a (5 * (d : Int)) = A
    have e : 5 * ((d + 1 : Nat) : Int) = 5 * (d : Int) + 1 + 1 + 1 + 1 + 1 := by omega
    rw [e, it_s (by omega), it_s (by omega), it_s (by omega), it_s (by omega), it_s (by omega), hA, it_5]
    rw [k (5 * (d : Int) + 1 + 1 + 1 + 1) 4 _ (by omega) (by omega), k (5 * (d : Int) + 1 + 1 + 1) 3 _ (by omega) (by omega), k (5 * (d : Int) + 1 + 1) 2 _ (by omega) (by omega), k (5 * (d : Int) + 1) 1 _ (by omega) (by omega), k (5 * (d : Int)) 0 _ (by omega) (by omega)]
/-- what the digest leaves: only the last stretch is another -/
def dgJ (μ : Mem) (k n : Int) : Mem := it (fun j ν => (mcs ν k (j + 1)).1) μ n
def dgK (σ : Mem) (k : Int) : Mem := it (fun k μ => dgJ μ k 3) (up σ 133 3 0) k
def dgM (σ : Mem) : Mem := dgK σ 4
def E9 (σ τ : Mem) : Prop := ∀ c j, c ≠ 134 ∨ j < 2619 → τ c j = up σ 133 3 0 c j
theorem E9.r {α σ τ : Mem} (h : E9 σ τ) (hR : R1 α σ) : R1 α τ := hR.m (fun _ _ _ => rfl) (fun j _ _ => by rw [h _ _ (Or.inr (by omega)), up_ap, if_neg (by omega)])
theorem E9.c {α σ τ : Mem} (h : E9 σ τ) (hR : R1 α σ) {k n : Int} (hk : 0 ≤ k ∧ k < 4) (hn : 0 ≤ n ∧ n ≤ 16) : E9 σ (mcs τ k n).1 := fun c j q => by rw [((h.r hR).co hk hn).2 c j q]; exact h c j q
theorem E9.J {α σ τ : Mem} (h : E9 σ τ) (hR : R1 α σ) {k n : Int} (hk : 0 ≤ k ∧ k < 4) (hn : 0 ≤ n ∧ n ≤ 3) : E9 σ (dgJ τ k n) :=
  it_inv (f := fun j ν => (mcs ν k (j + 1)).1) (a := τ) (n := n) (i := n) (fun _ v => E9 σ v) h (fun j v h0 h1 h2 => h2.c hR hk ⟨by omega, by omega⟩) hn.1 (Int.le_refl _)
theorem E9.M {α σ : Mem} (hR : R1 α σ) : E9 σ (dgM σ) :=
  it_inv (f := fun k μ => dgJ μ k 3) (a := up σ 133 3 0) (n := 4) (i := 4) (fun _ v => E9 σ v) (fun _ _ _ => rfl) (fun j v h0 h1 h2 => h2.J hR ⟨h0, h1⟩ (by decide)) (by decide) (Int.le_refl _)
set_option maxRecDepth 100000 in
set_option maxHeartbeats 4000000 in
theorem k_X6_share (l : Launch) {σ : Mem} {N : Int} (hG : SG σ 0 N) : CtD l yX6_share (Cond.code yX6_share cX6_share 1 (some .double)) 4 93 (fun z => [.ref (z + 133)]) σ (shW (kin σ (-1) 4) (sm σ 264)) σ := by
  intro D T z
  refine Ct_of (by decide) (Nat.le_of_ble_eq_true rfl) ?_
  intro p e s m below meth c ls hx hb hml hr hts hown hlk G hl
  have hown : s.vm.findClass RX6 = some m.cls := hown
  have hl : lv_has ls 1 [(0, .ref (z + 133))] := hl
  have hsr := sm_rg hG
  have hkr := kin_rg (σ := σ) (kd := -1) (w := 4)
  refine lv_aload_n hx hb dX6_share_0 rfl (lv_at hl 0 rfl) ?_
  refine r_sipush hx hb dX6_share_1 (by decide +kernel) ?_
  refine r_callVI ⟨hx, hb, hml, hown, hts⟩ G (k_X6_sum l (f := 264) (σ := σ) (by omega)) (kV_X6_sum hts qM_X6_174 ⟨by decide, by decide⟩) (rc_X6 G) rfl rfl hl.1 rfl (Nat.le_of_ble_eq_true rfl) dX6_share_4 ⟨Nat.le_refl _, Nat.le_refl _⟩ (fun H locs G => ?_)
  refine r_if_ne (tgt := 14) hx hb ⟨by omega, by omega⟩ dX6_share_7 (by decide) (fun h_1 => ?_) (fun h_1 => ?_)
  · skip
    refine lv_aload_n hx hb dX6_share_14 rfl (lv_at hl 0 rfl) ?_
    refine r_iconst hx hb dX6_share_15 ?_
    refine r_iconst hx hb dX6_share_16 ?_
    refine r_callVI ⟨hx, hb, hml, hown, hts⟩ G (k_X6_keysIn l (kd := -1) (w := 4) (σ := σ) (⟨by omega, by omega⟩) (⟨by omega, by omega⟩) (hG)) (kV_X6_keysIn hts qM_X6_118 ⟨by decide, by decide⟩) (rc_X6 G) rfl rfl hl.1 rfl (Nat.le_of_ble_eq_true rfl) dX6_share_17 ⟨Nat.le_refl _, Nat.le_refl _⟩ (fun H locs G => ?_)
    refine lv_i2d hx hb dX6_share_20 ?_
    refine lv_aload_n hx hb dX6_share_21 rfl (lv_at hl 0 rfl) ?_
    refine r_sipush hx hb dX6_share_22 (by decide +kernel) ?_
    refine r_callVI ⟨hx, hb, hml, hown, hts⟩ G (k_X6_sum l (f := 264) (σ := σ) (by omega)) (kV_X6_sum hts qM_X6_174 ⟨by decide, by decide⟩) (rc_X6 G) rfl rfl hl.1 rfl (Nat.le_of_ble_eq_true rfl) dX6_share_25 ⟨Nat.le_refl _, Nat.le_refl _⟩ (fun H locs G => ?_)
    refine lv_i2d hx hb dX6_share_28 ?_
    refine lv_ddiv hx hb dX6_share_29 ((ddiv_ok ⟨by omega, by omega⟩ ⟨by omega, by omega⟩).n) ?_
    exact r_dret hx hb hr hlk G (by unfold shW; first | exact (if_pos (by omega)).symm | exact (if_neg (by omega)).symm) (by rfl) dX6_share_30
  · skip
    refine lv_dconst1 hx hb dX6_share_10 ?_
    refine lv_goto (tgt := 30) hx hb dX6_share_11 (by decide) ?_
    exact r_dret hx hb hr hlk G (by unfold shW; first | exact (if_pos (by omega)).symm | exact (if_neg (by omega)).symm) (by rfl) dX6_share_30
set_option maxRecDepth 100000 in
set_option maxHeartbeats 4000000 in
theorem k_X6_mean (l : Launch) {σ : Mem} {N k : Int} (hk : 0 ≤ k ∧ k < 4) (hG : SG σ 0 N) : CtF l yX6_mean (Cond.code yX6_mean cX6_mean 4 (some .float)) 2 45 (fun z => [.ref (z + 133), .int (kI k)]) σ (mnW (msm σ k) (mL σ 0 k)) σ := by
  intro D T z
  refine Ct_of (by decide) (Nat.le_of_ble_eq_true rfl) ?_
  intro p e s m below meth c ls hx hb hml hr hts hown hlk G hl
  have hown : s.vm.findClass RX6 = some m.cls := hown
  have hl : lv_has ls 4 [(0, .ref (z + 133)), (1, .int (kI k))] := hl
  have hkd := hG.kd hk
  have hdd := hG.d
  have hmr := msm_rg hG hk
  refine r_iconst hx hb dX6_mean_0 ?_
  refine lv_istore_n (lv' := [(2, .int (kI 0)), (0, .ref (z + 133)), (1, .int (kI k))]) hx hb dX6_mean_1 rfl hl (by decide) rfl (fun ls hl => ?_)
  refine r_iconst hx hb dX6_mean_2 ?_
  refine lv_istore_n (lv' := [(3, .int (kI 0)), (2, .int (kI 0)), (0, .ref (z + 133)), (1, .int (kI k))]) hx hb dX6_mean_3 rfl hl (by decide) rfl (fun ls hl => ?_)
  have lp4 : ∀ (d : Nat) (sm : Int) (i : Int), (0 ≤ i) → (i ≤ mL σ 0 k) → (0 ≤ sm ∧ sm ≤ i * 9999) → (sm = it (fun p v => v + (mD σ 0 - mT σ 0 k (mP σ 0 k p))) 0 i) → (mL σ 0 k - i : Int) < (d : Int) → ∀ (H : Heap) (locs : List Loc), Wd D T z 139 σ s H locs → ∀ (ls : Array Slot), lv_has ls 4 [(0, .ref (z + 133)), (1, .int (kI k)), (2, .int (kI sm)), (3, .int (kI i))] → W p l e (rmN 2 45) s m ([.ref (z + 133), .int (kI k)] : List Value).toArray below meth c H locs 0 0 (MQ below (QF D T z 139 (mnW (msm σ k) (mL σ 0 k)) σ) ([.ref (z + 133), .int (kI k)] : List Value).toArray s 0 0 (Own z)) (F0 m 4 ls []) := by
    intro d
    induction d with
    | zero => intro sm i h0 h1 hr0 hv hd; exact absurd hd (by omega)
    | succ d ih4 =>
      intro sm i h0 h1 hr0 hv hd H locs G ls hl
      refine lv_iload_n hx hb dX6_mean_4 rfl (lv_at hl 3 rfl) ?_
      refine lv_aload_n hx hb dX6_mean_5 rfl (lv_at hl 0 rfl) ?_
      refine gf_X6_7 hx hb hts hown G dX6_mean_6 ?_
      refine r_sipush hx hb dX6_mean_9 (by decide +kernel) ?_
      refine lv_iload_n hx hb dX6_mean_12 rfl (lv_at hl 1 rfl) ?_
      refine r_iadd hx hb dX6_mean_13 ?_
      refine r_iald hx hb G 134 (by decide) (N := 2910) (fun _ => rfl) (by omega) (by omega) (by decide) dX6_mean_14 ?_
      refine r_top (b := mL σ 0 k) (z264) ?_
      refine r_icmp_ge (tgt := 40) hx hb ⟨by omega, by omega⟩ ⟨by omega, by omega⟩ dX6_mean_15 (by decide) (fun h_1 => ?_) (fun h_1 => ?_)
      · skip
        have e : i = mL σ 0 k := by omega
        have es : sm = msm σ k := by rw [hv, e]; rfl
        refine lv_aload_n hx hb dX6_mean_40 rfl (lv_at hl 0 rfl) ?_
        refine gf_X6_7 hx hb hts hown G dX6_mean_41 ?_
        refine r_sipush hx hb dX6_mean_44 (by decide +kernel) ?_
        refine lv_iload_n hx hb dX6_mean_47 rfl (lv_at hl 1 rfl) ?_
        refine r_iadd hx hb dX6_mean_48 ?_
        refine r_iald hx hb G 134 (by decide) (N := 2910) (fun _ => rfl) (by omega) (by omega) (by decide) dX6_mean_49 ?_
        refine r_top (b := mL σ 0 k) (z264) ?_
        refine r_if_ne (tgt := 57) hx hb ⟨by omega, by omega⟩ dX6_mean_50 (by decide) (fun h_2 => ?_) (fun h_2 => ?_)
        · skip
          refine lv_iload_n hx hb dX6_mean_57 rfl (lv_at hl 2 rfl) ?_
          refine lv_i2f hx hb dX6_mean_58 ?_
          refine lv_aload_n hx hb dX6_mean_59 rfl (lv_at hl 0 rfl) ?_
          refine gf_X6_7 hx hb hts hown G dX6_mean_60 ?_
          refine r_sipush hx hb dX6_mean_63 (by decide +kernel) ?_
          refine lv_iload_n hx hb dX6_mean_66 rfl (lv_at hl 1 rfl) ?_
          refine r_iadd hx hb dX6_mean_67 ?_
          refine r_iald hx hb G 134 (by decide) (N := 2910) (fun _ => rfl) (by omega) (by omega) (by decide) dX6_mean_68 ?_
          refine r_top (b := mL σ 0 k) (z264) ?_
          refine lv_i2f hx hb dX6_mean_69 ?_
          refine lv_fdiv hx hb dX6_mean_70 ((fdiv_ok ⟨by omega, by omega⟩ ⟨by omega, by omega⟩).n) ?_
          exact r_fret hx hb hr hlk G (by rw [← es]; unfold mnW; first | exact (if_pos (by omega)).symm | exact (if_neg (by omega)).symm) (by rfl) dX6_mean_71
        · skip
          refine lv_fconst0 hx hb dX6_mean_53 ?_
          refine lv_goto (tgt := 71) hx hb dX6_mean_54 (by decide) ?_
          exact r_fret hx hb hr hlk G (by rw [← es]; unfold mnW; first | exact (if_pos (by omega)).symm | exact (if_neg (by omega)).symm) (by rfl) dX6_mean_71
      · skip
        refine lv_iload_n hx hb dX6_mean_18 rfl (lv_at hl 2 rfl) ?_
        refine lv_aload_n hx hb dX6_mean_19 rfl (lv_at hl 0 rfl) ?_
        refine r_iconst hx hb dX6_mean_20 ?_
        refine lv_iload_n hx hb dX6_mean_21 rfl (lv_at hl 1 rfl) ?_
        refine lv_aload_n hx hb dX6_mean_22 rfl (lv_at hl 0 rfl) ?_
        refine r_iconst hx hb dX6_mean_23 ?_
        refine lv_iload_n hx hb dX6_mean_24 rfl (lv_at hl 1 rfl) ?_
        refine lv_iload_n hx hb dX6_mean_25 rfl (lv_at hl 3 rfl) ?_
        refine r_callVI ⟨hx, hb, hml, hown, hts⟩ G (k_X6_pileAt l (b := 0) (k := k) (q := i) (σ := σ) (⟨by omega, by omega⟩) (⟨by omega, by omega⟩) (⟨by omega, by omega⟩)) (kV_X6_pileAt hts qM_X6_50 ⟨by decide, by decide⟩) (rc_X6 G) rfl rfl hl.1 rfl (Nat.le_of_ble_eq_true rfl) dX6_mean_26 ⟨Nat.le_refl _, Nat.le_refl _⟩ (fun H locs G => ?_)
        have hky := hG.ky hk (hG.pl hk (p := i) (by omega) (by omega))
        refine r_callVI ⟨hx, hb, hml, hown, hts⟩ G (k_X6_age l (b := 0) (k := k) (y := mP σ 0 k i) (σ := σ) (⟨by omega, by omega⟩) (hG.pl hk (p := i) (by omega) (by omega)) (⟨by omega, by omega⟩)) (kV_X6_age hts qM_X6_44 ⟨by decide, by decide⟩) (rc_X6 G) rfl rfl hl.1 rfl (Nat.le_of_ble_eq_true rfl) dX6_mean_29 ⟨Nat.le_refl _, Nat.le_refl _⟩ (fun H locs G => ?_)
        refine r_iadd hx hb dX6_mean_32 ?_
        refine lv_istore_n (lv' := [(2, .int (kI (sm + (mD σ 0 - mT σ 0 k (mP σ 0 k i))))), (0, .ref (z + 133)), (1, .int (kI k)), (3, .int (kI i))]) hx hb dX6_mean_33 rfl hl (by decide) rfl (fun ls hl => ?_)
        refine r_iinc (lv' := [(3, .int (kI (i + 1))), (2, .int (kI (sm + (mD σ 0 - mT σ 0 k (mP σ 0 k i))))), (0, .ref (z + 133)), (1, .int (kI k))]) hx hb dX6_mean_34 hl (k := 3) rfl (by decide) rfl (fun ls hl => ?_)
        refine lv_goto (tgt := 4) hx hb dX6_mean_37 (by decide) ?_
        exact ih4 (sm + (mD σ 0 - mT σ 0 k (mP σ 0 k i))) (i + 1) (by omega) (by omega) (by omega) (by rw [it_s h0, ← hv]) (by omega) _ _ G _ (lv_sub hl [2, 3, 1, 0] rfl)
  exact lp4 17 0 0 (by omega) (by omega) (by omega) (rfl) (by omega) _ _ G _ (lv_sub hl [2, 3, 1, 0] rfl)
set_option maxRecDepth 100000 in
set_option maxHeartbeats 4000000 in
theorem k_X6_ripeShare (l : Launch) {σ : Mem} {N : Int} (hG : SG σ 0 N) : CtD l yX6_ripeShare (Cond.code yX6_ripeShare cX6_ripeShare 1 (some .double)) 5 113 (fun z => [.ref (z + 133)]) σ (shW (kin (up σ 133 3 0) (-1) 4) (sm (up σ 133 3 0) 264)) (up σ 133 3 0) := by
  intro D T z
  refine Ct_of (by decide) (Nat.le_of_ble_eq_true rfl) ?_
  intro p e s m below meth c ls hx hb hml hr hts hown hlk G hl
  have hown : s.vm.findClass RX6 = some m.cls := hown
  have hl : lv_has ls 1 [(0, .ref (z + 133))] := hl
  refine lv_aload_n hx hb dX6_ripeShare_0 rfl (lv_at hl 0 rfl) ?_
  refine r_iconst hx hb dX6_ripeShare_1 ?_
  refine pf_X6_21 hx hb hts hown G dX6_ripeShare_2 (fun H locs G => ?_)
  refine lv_aload_n hx hb dX6_ripeShare_5 rfl (lv_at hl 0 rfl) ?_
  refine r_callVD ⟨hx, hb, hml, hown, hts⟩ G (k_X6_share l (σ := up σ 133 3 0) (hG.f)) (kV_X6_share hts qM_X6_198 ⟨by decide, by decide⟩) (rc_X6 G) rfl rfl hl.1 rfl (Nat.le_of_ble_eq_true rfl) dX6_ripeShare_6 ⟨Nat.le_refl _, Nat.le_refl _⟩ (fun H locs G => ?_)
  exact r_dret hx hb hr hlk G (by first | rfl | omega) (by rfl) dX6_ripeShare_9
set_option maxRecDepth 100000 in
set_option maxHeartbeats 4000000 in
theorem k_X6_meanAge (l : Launch) {σ : Mem} {N k : Int} (hk0 : inR k) (hG : SG σ 0 N) : CtF l yX6_meanAge (Cond.code yX6_meanAge cX6_meanAge 2 (some .float)) 3 68 (fun z => [.ref (z + 133), .int (kI k)]) σ (if isK k ∧ True then mnW (msm (up σ 133 3 0) k) (mL (up σ 133 3 0) 0 k) else FP.fconst0) (if isK k ∧ True then up σ 133 3 0 else up σ 133 3 (if isK k then (if True then 0 else 2) else 1)) := by
  intro D T z
  refine Ct_of (by decide) (Nat.le_of_ble_eq_true rfl) ?_
  intro p e s m below meth c ls hx hb hml hr hts hown hlk G hl
  have hown : s.vm.findClass RX6 = some m.cls := hown
  have hl : lv_has ls 2 [(0, .ref (z + 133)), (1, .int (kI k))] := hl
  refine lv_aload_n hx hb dX6_meanAge_0 rfl (lv_at hl 0 rfl) ?_
  refine lv_iload_n hx hb dX6_meanAge_1 rfl (lv_at hl 1 rfl) ?_
  refine r_callSI ⟨hx, hb, hml, hown, hts⟩ G (k_X6_isKind l (v := k) (σ := σ) (⟨by omega, by omega⟩)) (kS_X6_isKind hts qM_X6_36 ⟨by decide, by decide⟩) rfl rfl hl.1 rfl (Nat.le_of_ble_eq_true rfl) dX6_meanAge_2 ⟨Nat.le_refl _, Nat.le_refl _⟩ (fun H locs G => ?_)
  refine r_iconst hx hb dX6_meanAge_5 ?_
  refine r_callVI ⟨hx, hb, hml, hown, hts⟩ G (k_X6_goes l (P := 0 ≤ k ∧ k ≤ 3) (Q := True) (σ := σ) ) (kV_X6_goes hts qM_X6_83 ⟨by decide, by decide⟩) (rc_X6 G) rfl rfl hl.1 rfl (Nat.le_of_ble_eq_true rfl) dX6_meanAge_6 ⟨Nat.le_refl _, Nat.le_refl _⟩ (fun H locs G => ?_)
  refine r_zeq (tgt := 20) hx hb dX6_meanAge_9 (by decide) (fun h_1 => ?_) (fun h_1 => ?_)
  · skip
    have hPQ := h_1
    refine lv_fconst0 hx hb dX6_meanAge_20 ?_
    exact r_fret hx hb hr hlk G (by first | exact (if_neg hPQ).symm | exact (if_pos hPQ).symm) (by first | exact (if_neg hPQ).symm | exact (if_pos hPQ).symm) dX6_meanAge_21
  · skip
    have hPQ := h_1
    have G := G.cong (τ := up σ 133 3 0) (by rw [if_pos hPQ.1, if_pos hPQ.2])
    refine lv_aload_n hx hb dX6_meanAge_12 rfl (lv_at hl 0 rfl) ?_
    refine lv_iload_n hx hb dX6_meanAge_13 rfl (lv_at hl 1 rfl) ?_
    refine r_callVF ⟨hx, hb, hml, hown, hts⟩ G (k_X6_mean l (k := k) (σ := up σ 133 3 0) (⟨by omega, by omega⟩) (hG.f)) (kV_X6_mean hts qM_X6_202 ⟨by decide, by decide⟩) (rc_X6 G) rfl rfl hl.1 rfl (Nat.le_of_ble_eq_true rfl) dX6_meanAge_14 ⟨Nat.le_refl _, Nat.le_refl _⟩ (fun H locs G => ?_)
    refine lv_goto (tgt := 21) hx hb dX6_meanAge_17 (by decide) ?_
    exact r_fret hx hb hr hlk G (by first | exact (if_neg hPQ).symm | exact (if_pos hPQ).symm) (by first | exact (if_neg hPQ).symm | exact (if_pos hPQ).symm) dX6_meanAge_21
set_option maxRecDepth 100000 in
set_option maxHeartbeats 4000000 in
theorem k_X6_digest (l : Launch) {α σ : Mem} (hR : R1 α σ) (hst : α 15 1 = σ 133 1 ∧ 0 ≤ σ 133 1 ∧ σ 133 1 ≤ 6) (hkp : ∀ q, 0 ≤ q → q ≤ 1 → α 130 q = σ 135 q ∧ (σ 135 q = 0 ∨ σ 135 q = 1)) (htx : α 131 1 = σ 133 5 ∧ (0 ≤ σ 133 5 ∧ σ 133 5 ≤ 60) ∧ ∀ j, 0 ≤ j → j < σ 133 5 → α 132 j = σ 136 j) : CtL l yX6_digest (Cond.code yX6_digest cX6_digest 5 (some .long)) 6 146 (fun z => [.ref (z + 133)]) σ (cdg α) (dgM σ) := by
  intro D T z
  refine Ct_of (by decide) (Nat.le_of_ble_eq_true rfl) ?_
  intro p e s m below meth c ls hx hb hml hr hts hown hlk G hl
  have hown : s.vm.findClass RX6 = some m.cls := hown
  have hl : lv_has ls 5 [(0, .ref (z + 133))] := hl
  obtain ⟨ht1, ht2, ht3⟩ := htx
  have hR0 : R1 α (up σ 133 3 0) := hR.m (fun _ _ _ => rfl) (fun j _ _ => by rw [up_ap, if_neg (by omega)])
  have hst0 : α 15 1 = up σ 133 3 0 133 1 := by rw [up_ap, if_neg (by omega)]; exact hst.1
  have hra0 := hra_rg (σ := α)
  have hma0 := hma_rg (σ := α) (w := 2)
  have hk0 := hkp 0 (by decide) (by decide)
  have hk1 := hkp 1 (by decide) (by decide)
  refine lv_aload_n hx hb dX6_digest_0 rfl (lv_at hl 0 rfl) ?_
  refine r_iconst hx hb dX6_digest_1 ?_
  refine pf_X6_21 hx hb hts hown G dX6_digest_2 (fun H locs G => ?_)
  refine lv_ldc2 hx hb hown (hts _ qCon_X6_206) dX6_digest_5 ?_
  refine lv_lstore_n (lv' := [(1, .long (3361 : Int64)), (0, .ref (z + 133))]) hx hb dX6_digest_8 rfl hl (by decide) rfl (fun ls hl => ?_)
  refine r_iconst hx hb dX6_digest_9 ?_
  refine lv_istore_n (lv' := [(3, .int (kI 0)), (1, .long (3361 : Int64)), (0, .ref (z + 133))]) hx hb dX6_digest_10 rfl hl (by decide) rfl (fun ls hl => ?_)
  have lp11 : ∀ (d : Nat) (h : Int64) (i : Int), (0 ≤ i) → (i ≤ 10) → (h = it (dgF (nof α)) 3361 i) → (10 - i : Int) < (d : Int) → ∀ (H : Heap) (locs : List Loc), Wd D T z 139 (up σ 133 3 0) s H locs → ∀ (ls : Array Slot), lv_has ls 5 [(0, .ref (z + 133)), (1, .long h), (3, .int (kI i))] → W p l e (rmN 6 146) s m ([.ref (z + 133)] : List Value).toArray below meth c H locs 0 0 (MQ below (QL D T z 139 (cdg α) (dgM σ)) ([.ref (z + 133)] : List Value).toArray s 0 0 (Own z)) (F0 m 11 ls []) := by
    intro d
    induction d with
    | zero => intro h i h0 h1 hv hd; exact absurd hd (by omega)
    | succ d ih11 =>
      intro h i h0 h1 hv hd H locs G ls hl
      refine lv_iload_n hx hb dX6_digest_11 rfl (lv_at hl 2 rfl) ?_
      refine r_bipush hx hb dX6_digest_12 (by decide +kernel) ?_
      refine r_icmp_ge (tgt := 36) hx hb ⟨by omega, by omega⟩ ⟨by decide, by decide⟩ dX6_digest_14 (by decide) (fun h_1 => ?_) (fun h_1 => ?_)
      · skip
        refine r_iconst hx hb dX6_digest_36 ?_
        refine lv_istore_n (lv' := [(3, .int (kI 0)), (0, .ref (z + 133)), (1, .long h)]) hx hb dX6_digest_37 rfl hl (by decide) rfl (fun ls hl => ?_)
        have lp38 : ∀ (d : Nat) (h2 : Int64) (q : Int), (0 ≤ q) → (q ≤ 3) → (h2 = it (dgF (α 14)) (cd1 α) q) → (3 - q : Int) < (d : Int) → ∀ (H : Heap) (locs : List Loc), Wd D T z 139 (up σ 133 3 0) s H locs → ∀ (ls : Array Slot), lv_has ls 5 [(0, .ref (z + 133)), (1, .long h2), (3, .int (kI q))] → W p l e (rmN 6 146) s m ([.ref (z + 133)] : List Value).toArray below meth c H locs 0 0 (MQ below (QL D T z 139 (cdg α) (dgM σ)) ([.ref (z + 133)] : List Value).toArray s 0 0 (Own z)) (F0 m 38 ls []) := by
          intro d
          induction d with
          | zero => intro h2 q a0 a1 hv2 hd; exact absurd hd (by omega)
          | succ d ih38 =>
            intro h2 q a0 a1 hv2 hd H locs G ls hl
            refine lv_iload_n hx hb dX6_digest_38 rfl (lv_at hl 2 rfl) ?_
            refine r_iconst hx hb dX6_digest_39 ?_
            refine r_icmp_ge (tgt := 63) hx hb ⟨by omega, by omega⟩ ⟨by decide, by decide⟩ dX6_digest_40 (by decide) (fun h_2 => ?_) (fun h_2 => ?_)
            · skip
              refine r_iconst hx hb dX6_digest_63 ?_
              refine lv_istore_n (lv' := [(3, .int (kI 0)), (0, .ref (z + 133)), (1, .long h2)]) hx hb dX6_digest_64 rfl hl (by decide) rfl (fun ls hl => ?_)
              have lp65 : ∀ (d : Nat) (h3 : Int64) (k : Int) (τ : Mem), (0 ≤ k) → (k ≤ 4) → (h3 = it (ckd α) (cd2 α) k) → (E9 σ τ) → (τ = dgK σ k) → (4 - k : Int) < (d : Int) → ∀ (H : Heap) (locs : List Loc), Wd D T z 139 τ s H locs → ∀ (ls : Array Slot), lv_has ls 5 [(0, .ref (z + 133)), (1, .long h3), (3, .int (kI k))] → W p l e (rmN 6 146) s m ([.ref (z + 133)] : List Value).toArray below meth c H locs 0 0 (MQ below (QL D T z 139 (cdg α) (dgM σ)) ([.ref (z + 133)] : List Value).toArray s 0 0 (Own z)) (F0 m 65 ls []) := by
                intro d
                induction d with
                | zero => intro h3 k τ b0 b1 hv3 hE hmm hd; exact absurd hd (by omega)
                | succ d ih65 =>
                  intro h3 k τ b0 b1 hv3 hE hmm hd H locs G ls hl
                  have hRt : R1 α τ := hE.r hR
                  refine lv_iload_n hx hb dX6_digest_65 rfl (lv_at hl 2 rfl) ?_
                  refine r_iconst hx hb dX6_digest_66 ?_
                  refine r_icmp_ge (tgt := 259) hx hb ⟨by omega, by omega⟩ ⟨by decide, by decide⟩ dX6_digest_67 (by decide) (fun h_3 => ?_) (fun h_3 => ?_)
                  · skip
                    have hd3 : h3 = cd3 α := by rw [hv3, show k = 4 by omega]; rfl
                    refine lv_ldc2 hx hb hown (hts _ qCon_X6_208) dX6_digest_259 ?_
                    refine lv_lload_n hx hb dX6_digest_262 rfl (lv_at hl 1 rfl) ?_
                    refine lv_lmul hx hb dX6_digest_263 ?_
                    refine lv_aload_n hx hb dX6_digest_264 rfl (lv_at hl 0 rfl) ?_
                    refine r_callVI ⟨hx, hb, hml, hown, hts⟩ G (k_X6_fewest l (σ := τ) (hRt.g)) (kV_X6_fewest hts qM_X6_195 ⟨by decide, by decide⟩) (rc_X6 G) rfl rfl hl.1 rfl (Nat.le_of_ble_eq_true rfl) dX6_digest_265 ⟨Nat.le_refl _, Nat.le_refl _⟩ (fun H locs G => ?_)
                    refine r_top (b := scz α) (hRt.sc.symm) ?_
                    refine lv_i2l hx hb dX6_digest_268 rfl ?_
                    refine lv_ladd hx hb dX6_digest_269 ?_
                    refine lv_lstore_n (lv' := [(1, .long (((31 : Int64) * h3) + ((kI (scz α)).toInt64))), (0, .ref (z + 133)), (3, .int (kI k))]) hx hb dX6_digest_270 rfl hl (by decide) rfl (fun ls hl => ?_)
                    refine lv_ldc2 hx hb hown (hts _ qCon_X6_208) dX6_digest_271 ?_
                    refine lv_lload_n hx hb dX6_digest_274 rfl (lv_at hl 0 rfl) ?_
                    refine lv_lmul hx hb dX6_digest_275 ?_
                    refine lv_aload_n hx hb dX6_digest_276 rfl (lv_at hl 1 rfl) ?_
                    refine r_callVD ⟨hx, hb, hml, hown, hts⟩ G (k_X6_share l (σ := τ) (hRt.g)) (kV_X6_share hts qM_X6_198 ⟨by decide, by decide⟩) (rc_X6 G) rfl rfl hl.1 rfl (Nat.le_of_ble_eq_true rfl) dX6_digest_277 ⟨Nat.le_refl _, Nat.le_refl _⟩ (fun H locs G => ?_)
                    refine r_topD (b := shW (hra α) (hma α 2)) (hRt.sh) ?_
                    refine r_callSL ⟨hx, hb, hml, hown, hts⟩ G (k_JD_bits l (σ := τ) (shW_ok ⟨by omega, by omega⟩ ⟨by omega, by omega⟩)) (cS hts qM_X6_216 qS_Jxe99ae_doubleToLongBits_ccdee qN_Jxe99ae qC_Jxe99ae_doubleToLongBits_ccdee (na := 1) (by decide +kernel) ⟨by decide, by decide⟩) rfl rfl hl.1 rfl (Nat.le_of_ble_eq_true rfl) dX6_digest_280 ⟨Nat.le_refl _, Nat.le_refl _⟩ (fun H locs G => ?_)
                    refine lv_ladd hx hb dX6_digest_283 ?_
                    refine lv_lstore_n (lv' := [(1, .long (((31 : Int64) * (((31 : Int64) * h3) + ((kI (scz α)).toInt64))) + (dB (shW (hra α) (hma α 2))))), (0, .ref (z + 133)), (3, .int (kI k))]) hx hb dX6_digest_284 rfl hl (by decide) rfl (fun ls hl => ?_)
                    refine lv_ldc2 hx hb hown (hts _ qCon_X6_208) dX6_digest_285 ?_
                    refine lv_lload_n hx hb dX6_digest_288 rfl (lv_at hl 0 rfl) ?_
                    refine lv_lmul hx hb dX6_digest_289 ?_
                    refine lv_aload_n hx hb dX6_digest_290 rfl (lv_at hl 1 rfl) ?_
                    refine gf_X6_13 hx hb hts hown G dX6_digest_291 ?_
                    refine r_iconst hx hb dX6_digest_294 ?_
                    refine r_zald hx hb G 135 (by decide) (N := 2) (fun _ => rfl) (by omega) (by omega) (by decide) dX6_digest_295 ?_
                    refine r_top (b := σ 135 0) (by rw [hE _ _ (Or.inl (by decide)), up_ap, if_neg (by omega)]) ?_
                    refine r_if_eq (tgt := 303) hx hb ⟨by omega, by omega⟩ dX6_digest_296 (by decide) (fun h_4 => ?_) (fun h_4 => ?_)
                    · skip
                      have hz0 : α 130 0 = 0 := by omega
                      refine r_iconst hx hb dX6_digest_303 ?_
                      refine lv_i2l hx hb dX6_digest_304 rfl ?_
                      refine r_topL (b := (kI (α 130 0)).toInt64) (by rw [hz0]) ?_
                      refine lv_ladd hx hb dX6_digest_305 ?_
                      refine lv_lstore_n (lv' := [(1, .long (((31 : Int64) * (((31 : Int64) * (((31 : Int64) * h3) + ((kI (scz α)).toInt64))) + (dB (shW (hra α) (hma α 2))))) + ((kI (α 130 0)).toInt64))), (0, .ref (z + 133)), (3, .int (kI k))]) hx hb dX6_digest_306 rfl hl (by decide) rfl (fun ls hl => ?_)
                      refine lv_ldc2 hx hb hown (hts _ qCon_X6_208) dX6_digest_307 ?_
                      refine lv_lload_n hx hb dX6_digest_310 rfl (lv_at hl 0 rfl) ?_
                      refine lv_lmul hx hb dX6_digest_311 ?_
                      refine lv_aload_n hx hb dX6_digest_312 rfl (lv_at hl 1 rfl) ?_
                      refine gf_X6_13 hx hb hts hown G dX6_digest_313 ?_
                      refine r_iconst hx hb dX6_digest_316 ?_
                      refine r_zald hx hb G 135 (by decide) (N := 2) (fun _ => rfl) (by omega) (by omega) (by decide) dX6_digest_317 ?_
                      refine r_top (b := σ 135 1) (by rw [hE _ _ (Or.inl (by decide)), up_ap, if_neg (by omega)]) ?_
                      refine r_if_eq (tgt := 325) hx hb ⟨by omega, by omega⟩ dX6_digest_318 (by decide) (fun h_5 => ?_) (fun h_5 => ?_)
                      · skip
                        have hz1 : α 130 1 = 0 := by omega
                        refine r_iconst hx hb dX6_digest_325 ?_
                        refine lv_i2l hx hb dX6_digest_326 rfl ?_
                        refine r_topL (b := (kI (α 130 1)).toInt64) (by rw [hz1]) ?_
                        refine lv_ladd hx hb dX6_digest_327 ?_
                        refine lv_lstore_n (lv' := [(1, .long (((31 : Int64) * (((31 : Int64) * (((31 : Int64) * (((31 : Int64) * h3) + ((kI (scz α)).toInt64))) + (dB (shW (hra α) (hma α 2))))) + ((kI (α 130 0)).toInt64))) + ((kI (α 130 1)).toInt64))), (0, .ref (z + 133)), (3, .int (kI k))]) hx hb dX6_digest_328 rfl hl (by decide) rfl (fun ls hl => ?_)
                        refine lv_ldc2 hx hb hown (hts _ qCon_X6_208) dX6_digest_329 ?_
                        refine lv_lload_n hx hb dX6_digest_332 rfl (lv_at hl 0 rfl) ?_
                        refine lv_lmul hx hb dX6_digest_333 ?_
                        refine lv_aload_n hx hb dX6_digest_334 rfl (lv_at hl 1 rfl) ?_
                        refine gf_X6_127 hx hb hts hown G dX6_digest_335 ?_
                        refine r_top (b := σ 133 5) (by rw [hE _ _ (Or.inl (by decide)), up_ap, if_neg (by omega)]) ?_
                        refine lv_i2l hx hb dX6_digest_338 rfl ?_
                        refine r_topL (b := (kI (α 131 1)).toInt64) (by rw [ht1]) ?_
                        refine lv_ladd hx hb dX6_digest_339 ?_
                        refine lv_lstore_n (lv' := [(1, .long (((31 : Int64) * (((31 : Int64) * (((31 : Int64) * (((31 : Int64) * (((31 : Int64) * h3) + ((kI (scz α)).toInt64))) + (dB (shW (hra α) (hma α 2))))) + ((kI (α 130 0)).toInt64))) + ((kI (α 130 1)).toInt64))) + ((kI (α 131 1)).toInt64))), (0, .ref (z + 133)), (3, .int (kI k))]) hx hb dX6_digest_340 rfl hl (by decide) rfl (fun ls hl => ?_)
                        refine r_iconst hx hb dX6_digest_341 ?_
                        refine lv_istore_n (lv' := [(3, .int (kI 0)), (1, .long (((31 : Int64) * (((31 : Int64) * (((31 : Int64) * (((31 : Int64) * (((31 : Int64) * h3) + ((kI (scz α)).toInt64))) + (dB (shW (hra α) (hma α 2))))) + ((kI (α 130 0)).toInt64))) + ((kI (α 130 1)).toInt64))) + ((kI (α 131 1)).toInt64))), (0, .ref (z + 133))]) hx hb dX6_digest_342 rfl hl (by decide) rfl (fun ls hl => ?_)
                        have lp343 : ∀ (d : Nat) (h8 : Int64) (t : Int), (0 ≤ t) → (t ≤ σ 133 5) → (h8 = it (dgF (cat α)) (cd6 α) t) → (σ 133 5 - t : Int) < (d : Int) → ∀ (H : Heap) (locs : List Loc), Wd D T z 139 τ s H locs → ∀ (ls : Array Slot), lv_has ls 5 [(0, .ref (z + 133)), (1, .long h8), (3, .int (kI t))] → W p l e (rmN 6 146) s m ([.ref (z + 133)] : List Value).toArray below meth c H locs 0 0 (MQ below (QL D T z 139 (cdg α) (dgM σ)) ([.ref (z + 133)] : List Value).toArray s 0 0 (Own z)) (F0 m 343 ls []) := by
                          intro d
                          induction d with
                          | zero => intro h8 t j0 j1 hv8 hd; exact absurd hd (by omega)
                          | succ d ih343 =>
                            intro h8 t j0 j1 hv8 hd H locs G ls hl
                            refine lv_iload_n hx hb dX6_digest_343 rfl (lv_at hl 2 rfl) ?_
                            refine lv_aload_n hx hb dX6_digest_344 rfl (lv_at hl 0 rfl) ?_
                            refine gf_X6_127 hx hb hts hown G dX6_digest_345 ?_
                            refine r_top (b := σ 133 5) (by rw [hE _ _ (Or.inl (by decide)), up_ap, if_neg (by omega)]) ?_
                            refine r_icmp_ge (tgt := 371) hx hb ⟨by omega, by omega⟩ ⟨by omega, by omega⟩ dX6_digest_348 (by decide) (fun h_6 => ?_) (fun h_6 => ?_)
                            · skip
                              refine lv_lload_n hx hb dX6_digest_371 rfl (lv_at hl 1 rfl) ?_
                              exact r_lret hx hb hr hlk G (by rw [hv8, show t = α 131 1 by omega]; rfl) (by rw [hmm, show k = 4 by omega]; rfl) dX6_digest_372
                            · skip
                              refine lv_ldc2 hx hb hown (hts _ qCon_X6_208) dX6_digest_351 ?_
                              refine lv_lload_n hx hb dX6_digest_354 rfl (lv_at hl 1 rfl) ?_
                              refine lv_lmul hx hb dX6_digest_355 ?_
                              refine lv_aload_n hx hb dX6_digest_356 rfl (lv_at hl 0 rfl) ?_
                              refine gf_X6_17 hx hb hts hown G dX6_digest_357 ?_
                              refine lv_iload_n hx hb dX6_digest_360 rfl (lv_at hl 2 rfl) ?_
                              refine r_cald hx hb G 136 (by decide) (N := 60) (fun _ => rfl) (by omega) (by omega) (by decide) dX6_digest_361 ?_
                              refine r_top (b := cat α t) (by rw [hE _ _ (Or.inl (by decide)), up_ap, if_neg (by omega)]; unfold cat; rw [if_pos (by omega), ht3 t (by omega) (by omega)]) ?_
                              refine lv_i2l hx hb dX6_digest_362 rfl ?_
                              refine lv_ladd hx hb dX6_digest_363 ?_
                              refine lv_lstore_n (lv' := [(1, .long (((31 : Int64) * h8) + ((kI (cat α t)).toInt64))), (0, .ref (z + 133)), (3, .int (kI t))]) hx hb dX6_digest_364 rfl hl (by decide) rfl (fun ls hl => ?_)
                              refine r_iinc (lv' := [(3, .int (kI (t + 1))), (1, .long (((31 : Int64) * h8) + ((kI (cat α t)).toInt64))), (0, .ref (z + 133))]) hx hb dX6_digest_365 hl (k := 2) rfl (by decide) rfl (fun ls hl => ?_)
                              refine lv_goto (tgt := 343) hx hb dX6_digest_368 (by decide) ?_
                              exact ih343 (((31 : Int64) * h8) + ((kI (cat α t)).toInt64)) (t + 1) (by omega) (by omega) (dg_s j0 hv8) (by omega) _ _ G _ (lv_sub hl [2, 1, 0] rfl)
                        exact lp343 61 (((31 : Int64) * (((31 : Int64) * (((31 : Int64) * (((31 : Int64) * (((31 : Int64) * h3) + ((kI (scz α)).toInt64))) + (dB (shW (hra α) (hma α 2))))) + ((kI (α 130 0)).toInt64))) + ((kI (α 130 1)).toInt64))) + ((kI (α 131 1)).toInt64)) 0 (by omega) (by omega) (by rw [hd3]; rfl) (by omega) _ _ G _ (lv_sub hl [2, 1, 0] rfl)
                      · skip
                        have hz1 : α 130 1 = 1 := by omega
                        refine r_iconst hx hb dX6_digest_321 ?_
                        refine lv_goto (tgt := 326) hx hb dX6_digest_322 (by decide) ?_
                        refine lv_i2l hx hb dX6_digest_326 rfl ?_
                        refine r_topL (b := (kI (α 130 1)).toInt64) (by rw [hz1]) ?_
                        refine lv_ladd hx hb dX6_digest_327 ?_
                        refine lv_lstore_n (lv' := [(1, .long (((31 : Int64) * (((31 : Int64) * (((31 : Int64) * (((31 : Int64) * h3) + ((kI (scz α)).toInt64))) + (dB (shW (hra α) (hma α 2))))) + ((kI (α 130 0)).toInt64))) + ((kI (α 130 1)).toInt64))), (0, .ref (z + 133)), (3, .int (kI k))]) hx hb dX6_digest_328 rfl hl (by decide) rfl (fun ls hl => ?_)
                        refine lv_ldc2 hx hb hown (hts _ qCon_X6_208) dX6_digest_329 ?_
                        refine lv_lload_n hx hb dX6_digest_332 rfl (lv_at hl 0 rfl) ?_
                        refine lv_lmul hx hb dX6_digest_333 ?_
                        refine lv_aload_n hx hb dX6_digest_334 rfl (lv_at hl 1 rfl) ?_
                        refine gf_X6_127 hx hb hts hown G dX6_digest_335 ?_
                        refine r_top (b := σ 133 5) (by rw [hE _ _ (Or.inl (by decide)), up_ap, if_neg (by omega)]) ?_
                        refine lv_i2l hx hb dX6_digest_338 rfl ?_
                        refine r_topL (b := (kI (α 131 1)).toInt64) (by rw [ht1]) ?_
                        refine lv_ladd hx hb dX6_digest_339 ?_
                        refine lv_lstore_n (lv' := [(1, .long (((31 : Int64) * (((31 : Int64) * (((31 : Int64) * (((31 : Int64) * (((31 : Int64) * h3) + ((kI (scz α)).toInt64))) + (dB (shW (hra α) (hma α 2))))) + ((kI (α 130 0)).toInt64))) + ((kI (α 130 1)).toInt64))) + ((kI (α 131 1)).toInt64))), (0, .ref (z + 133)), (3, .int (kI k))]) hx hb dX6_digest_340 rfl hl (by decide) rfl (fun ls hl => ?_)
                        refine r_iconst hx hb dX6_digest_341 ?_
                        refine lv_istore_n (lv' := [(3, .int (kI 0)), (1, .long (((31 : Int64) * (((31 : Int64) * (((31 : Int64) * (((31 : Int64) * (((31 : Int64) * h3) + ((kI (scz α)).toInt64))) + (dB (shW (hra α) (hma α 2))))) + ((kI (α 130 0)).toInt64))) + ((kI (α 130 1)).toInt64))) + ((kI (α 131 1)).toInt64))), (0, .ref (z + 133))]) hx hb dX6_digest_342 rfl hl (by decide) rfl (fun ls hl => ?_)
                        have lp343 : ∀ (d : Nat) (h8 : Int64) (t : Int), (0 ≤ t) → (t ≤ σ 133 5) → (h8 = it (dgF (cat α)) (cd6 α) t) → (σ 133 5 - t : Int) < (d : Int) → ∀ (H : Heap) (locs : List Loc), Wd D T z 139 τ s H locs → ∀ (ls : Array Slot), lv_has ls 5 [(0, .ref (z + 133)), (1, .long h8), (3, .int (kI t))] → W p l e (rmN 6 146) s m ([.ref (z + 133)] : List Value).toArray below meth c H locs 0 0 (MQ below (QL D T z 139 (cdg α) (dgM σ)) ([.ref (z + 133)] : List Value).toArray s 0 0 (Own z)) (F0 m 343 ls []) := by
                          intro d
                          induction d with
                          | zero => intro h8 t j0 j1 hv8 hd; exact absurd hd (by omega)
                          | succ d ih343 =>
                            intro h8 t j0 j1 hv8 hd H locs G ls hl
                            refine lv_iload_n hx hb dX6_digest_343 rfl (lv_at hl 2 rfl) ?_
                            refine lv_aload_n hx hb dX6_digest_344 rfl (lv_at hl 0 rfl) ?_
                            refine gf_X6_127 hx hb hts hown G dX6_digest_345 ?_
                            refine r_top (b := σ 133 5) (by rw [hE _ _ (Or.inl (by decide)), up_ap, if_neg (by omega)]) ?_
                            refine r_icmp_ge (tgt := 371) hx hb ⟨by omega, by omega⟩ ⟨by omega, by omega⟩ dX6_digest_348 (by decide) (fun h_7 => ?_) (fun h_7 => ?_)
                            · skip
                              refine lv_lload_n hx hb dX6_digest_371 rfl (lv_at hl 1 rfl) ?_
                              exact r_lret hx hb hr hlk G (by rw [hv8, show t = α 131 1 by omega]; rfl) (by rw [hmm, show k = 4 by omega]; rfl) dX6_digest_372
                            · skip
                              refine lv_ldc2 hx hb hown (hts _ qCon_X6_208) dX6_digest_351 ?_
                              refine lv_lload_n hx hb dX6_digest_354 rfl (lv_at hl 1 rfl) ?_
                              refine lv_lmul hx hb dX6_digest_355 ?_
                              refine lv_aload_n hx hb dX6_digest_356 rfl (lv_at hl 0 rfl) ?_
                              refine gf_X6_17 hx hb hts hown G dX6_digest_357 ?_
                              refine lv_iload_n hx hb dX6_digest_360 rfl (lv_at hl 2 rfl) ?_
                              refine r_cald hx hb G 136 (by decide) (N := 60) (fun _ => rfl) (by omega) (by omega) (by decide) dX6_digest_361 ?_
                              refine r_top (b := cat α t) (by rw [hE _ _ (Or.inl (by decide)), up_ap, if_neg (by omega)]; unfold cat; rw [if_pos (by omega), ht3 t (by omega) (by omega)]) ?_
                              refine lv_i2l hx hb dX6_digest_362 rfl ?_
                              refine lv_ladd hx hb dX6_digest_363 ?_
                              refine lv_lstore_n (lv' := [(1, .long (((31 : Int64) * h8) + ((kI (cat α t)).toInt64))), (0, .ref (z + 133)), (3, .int (kI t))]) hx hb dX6_digest_364 rfl hl (by decide) rfl (fun ls hl => ?_)
                              refine r_iinc (lv' := [(3, .int (kI (t + 1))), (1, .long (((31 : Int64) * h8) + ((kI (cat α t)).toInt64))), (0, .ref (z + 133))]) hx hb dX6_digest_365 hl (k := 2) rfl (by decide) rfl (fun ls hl => ?_)
                              refine lv_goto (tgt := 343) hx hb dX6_digest_368 (by decide) ?_
                              exact ih343 (((31 : Int64) * h8) + ((kI (cat α t)).toInt64)) (t + 1) (by omega) (by omega) (dg_s j0 hv8) (by omega) _ _ G _ (lv_sub hl [2, 1, 0] rfl)
                        exact lp343 61 (((31 : Int64) * (((31 : Int64) * (((31 : Int64) * (((31 : Int64) * (((31 : Int64) * h3) + ((kI (scz α)).toInt64))) + (dB (shW (hra α) (hma α 2))))) + ((kI (α 130 0)).toInt64))) + ((kI (α 130 1)).toInt64))) + ((kI (α 131 1)).toInt64)) 0 (by omega) (by omega) (by rw [hd3]; rfl) (by omega) _ _ G _ (lv_sub hl [2, 1, 0] rfl)
                    · skip
                      have hz0 : α 130 0 = 1 := by omega
                      refine r_iconst hx hb dX6_digest_299 ?_
                      refine lv_goto (tgt := 304) hx hb dX6_digest_300 (by decide) ?_
                      refine lv_i2l hx hb dX6_digest_304 rfl ?_
                      refine r_topL (b := (kI (α 130 0)).toInt64) (by rw [hz0]) ?_
                      refine lv_ladd hx hb dX6_digest_305 ?_
                      refine lv_lstore_n (lv' := [(1, .long (((31 : Int64) * (((31 : Int64) * (((31 : Int64) * h3) + ((kI (scz α)).toInt64))) + (dB (shW (hra α) (hma α 2))))) + ((kI (α 130 0)).toInt64))), (0, .ref (z + 133)), (3, .int (kI k))]) hx hb dX6_digest_306 rfl hl (by decide) rfl (fun ls hl => ?_)
                      refine lv_ldc2 hx hb hown (hts _ qCon_X6_208) dX6_digest_307 ?_
                      refine lv_lload_n hx hb dX6_digest_310 rfl (lv_at hl 0 rfl) ?_
                      refine lv_lmul hx hb dX6_digest_311 ?_
                      refine lv_aload_n hx hb dX6_digest_312 rfl (lv_at hl 1 rfl) ?_
                      refine gf_X6_13 hx hb hts hown G dX6_digest_313 ?_
                      refine r_iconst hx hb dX6_digest_316 ?_
                      refine r_zald hx hb G 135 (by decide) (N := 2) (fun _ => rfl) (by omega) (by omega) (by decide) dX6_digest_317 ?_
                      refine r_top (b := σ 135 1) (by rw [hE _ _ (Or.inl (by decide)), up_ap, if_neg (by omega)]) ?_
                      refine r_if_eq (tgt := 325) hx hb ⟨by omega, by omega⟩ dX6_digest_318 (by decide) (fun h_8 => ?_) (fun h_8 => ?_)
                      · skip
                        have hz1 : α 130 1 = 0 := by omega
                        refine r_iconst hx hb dX6_digest_325 ?_
                        refine lv_i2l hx hb dX6_digest_326 rfl ?_
                        refine r_topL (b := (kI (α 130 1)).toInt64) (by rw [hz1]) ?_
                        refine lv_ladd hx hb dX6_digest_327 ?_
                        refine lv_lstore_n (lv' := [(1, .long (((31 : Int64) * (((31 : Int64) * (((31 : Int64) * (((31 : Int64) * h3) + ((kI (scz α)).toInt64))) + (dB (shW (hra α) (hma α 2))))) + ((kI (α 130 0)).toInt64))) + ((kI (α 130 1)).toInt64))), (0, .ref (z + 133)), (3, .int (kI k))]) hx hb dX6_digest_328 rfl hl (by decide) rfl (fun ls hl => ?_)
                        refine lv_ldc2 hx hb hown (hts _ qCon_X6_208) dX6_digest_329 ?_
                        refine lv_lload_n hx hb dX6_digest_332 rfl (lv_at hl 0 rfl) ?_
                        refine lv_lmul hx hb dX6_digest_333 ?_
                        refine lv_aload_n hx hb dX6_digest_334 rfl (lv_at hl 1 rfl) ?_
                        refine gf_X6_127 hx hb hts hown G dX6_digest_335 ?_
                        refine r_top (b := σ 133 5) (by rw [hE _ _ (Or.inl (by decide)), up_ap, if_neg (by omega)]) ?_
                        refine lv_i2l hx hb dX6_digest_338 rfl ?_
                        refine r_topL (b := (kI (α 131 1)).toInt64) (by rw [ht1]) ?_
                        refine lv_ladd hx hb dX6_digest_339 ?_
                        refine lv_lstore_n (lv' := [(1, .long (((31 : Int64) * (((31 : Int64) * (((31 : Int64) * (((31 : Int64) * (((31 : Int64) * h3) + ((kI (scz α)).toInt64))) + (dB (shW (hra α) (hma α 2))))) + ((kI (α 130 0)).toInt64))) + ((kI (α 130 1)).toInt64))) + ((kI (α 131 1)).toInt64))), (0, .ref (z + 133)), (3, .int (kI k))]) hx hb dX6_digest_340 rfl hl (by decide) rfl (fun ls hl => ?_)
                        refine r_iconst hx hb dX6_digest_341 ?_
                        refine lv_istore_n (lv' := [(3, .int (kI 0)), (1, .long (((31 : Int64) * (((31 : Int64) * (((31 : Int64) * (((31 : Int64) * (((31 : Int64) * h3) + ((kI (scz α)).toInt64))) + (dB (shW (hra α) (hma α 2))))) + ((kI (α 130 0)).toInt64))) + ((kI (α 130 1)).toInt64))) + ((kI (α 131 1)).toInt64))), (0, .ref (z + 133))]) hx hb dX6_digest_342 rfl hl (by decide) rfl (fun ls hl => ?_)
                        have lp343 : ∀ (d : Nat) (h8 : Int64) (t : Int), (0 ≤ t) → (t ≤ σ 133 5) → (h8 = it (dgF (cat α)) (cd6 α) t) → (σ 133 5 - t : Int) < (d : Int) → ∀ (H : Heap) (locs : List Loc), Wd D T z 139 τ s H locs → ∀ (ls : Array Slot), lv_has ls 5 [(0, .ref (z + 133)), (1, .long h8), (3, .int (kI t))] → W p l e (rmN 6 146) s m ([.ref (z + 133)] : List Value).toArray below meth c H locs 0 0 (MQ below (QL D T z 139 (cdg α) (dgM σ)) ([.ref (z + 133)] : List Value).toArray s 0 0 (Own z)) (F0 m 343 ls []) := by
                          intro d
                          induction d with
                          | zero => intro h8 t j0 j1 hv8 hd; exact absurd hd (by omega)
                          | succ d ih343 =>
                            intro h8 t j0 j1 hv8 hd H locs G ls hl
                            refine lv_iload_n hx hb dX6_digest_343 rfl (lv_at hl 2 rfl) ?_
                            refine lv_aload_n hx hb dX6_digest_344 rfl (lv_at hl 0 rfl) ?_
                            refine gf_X6_127 hx hb hts hown G dX6_digest_345 ?_
                            refine r_top (b := σ 133 5) (by rw [hE _ _ (Or.inl (by decide)), up_ap, if_neg (by omega)]) ?_
                            refine r_icmp_ge (tgt := 371) hx hb ⟨by omega, by omega⟩ ⟨by omega, by omega⟩ dX6_digest_348 (by decide) (fun h_9 => ?_) (fun h_9 => ?_)
                            · skip
                              refine lv_lload_n hx hb dX6_digest_371 rfl (lv_at hl 1 rfl) ?_
                              exact r_lret hx hb hr hlk G (by rw [hv8, show t = α 131 1 by omega]; rfl) (by rw [hmm, show k = 4 by omega]; rfl) dX6_digest_372
                            · skip
                              refine lv_ldc2 hx hb hown (hts _ qCon_X6_208) dX6_digest_351 ?_
                              refine lv_lload_n hx hb dX6_digest_354 rfl (lv_at hl 1 rfl) ?_
                              refine lv_lmul hx hb dX6_digest_355 ?_
                              refine lv_aload_n hx hb dX6_digest_356 rfl (lv_at hl 0 rfl) ?_
                              refine gf_X6_17 hx hb hts hown G dX6_digest_357 ?_
                              refine lv_iload_n hx hb dX6_digest_360 rfl (lv_at hl 2 rfl) ?_
                              refine r_cald hx hb G 136 (by decide) (N := 60) (fun _ => rfl) (by omega) (by omega) (by decide) dX6_digest_361 ?_
                              refine r_top (b := cat α t) (by rw [hE _ _ (Or.inl (by decide)), up_ap, if_neg (by omega)]; unfold cat; rw [if_pos (by omega), ht3 t (by omega) (by omega)]) ?_
                              refine lv_i2l hx hb dX6_digest_362 rfl ?_
                              refine lv_ladd hx hb dX6_digest_363 ?_
                              refine lv_lstore_n (lv' := [(1, .long (((31 : Int64) * h8) + ((kI (cat α t)).toInt64))), (0, .ref (z + 133)), (3, .int (kI t))]) hx hb dX6_digest_364 rfl hl (by decide) rfl (fun ls hl => ?_)
                              refine r_iinc (lv' := [(3, .int (kI (t + 1))), (1, .long (((31 : Int64) * h8) + ((kI (cat α t)).toInt64))), (0, .ref (z + 133))]) hx hb dX6_digest_365 hl (k := 2) rfl (by decide) rfl (fun ls hl => ?_)
                              refine lv_goto (tgt := 343) hx hb dX6_digest_368 (by decide) ?_
                              exact ih343 (((31 : Int64) * h8) + ((kI (cat α t)).toInt64)) (t + 1) (by omega) (by omega) (dg_s j0 hv8) (by omega) _ _ G _ (lv_sub hl [2, 1, 0] rfl)
                        exact lp343 61 (((31 : Int64) * (((31 : Int64) * (((31 : Int64) * (((31 : Int64) * (((31 : Int64) * h3) + ((kI (scz α)).toInt64))) + (dB (shW (hra α) (hma α 2))))) + ((kI (α 130 0)).toInt64))) + ((kI (α 130 1)).toInt64))) + ((kI (α 131 1)).toInt64)) 0 (by omega) (by omega) (by rw [hd3]; rfl) (by omega) _ _ G _ (lv_sub hl [2, 1, 0] rfl)
                      · skip
                        have hz1 : α 130 1 = 1 := by omega
                        refine r_iconst hx hb dX6_digest_321 ?_
                        refine lv_goto (tgt := 326) hx hb dX6_digest_322 (by decide) ?_
                        refine lv_i2l hx hb dX6_digest_326 rfl ?_
                        refine r_topL (b := (kI (α 130 1)).toInt64) (by rw [hz1]) ?_
                        refine lv_ladd hx hb dX6_digest_327 ?_
                        refine lv_lstore_n (lv' := [(1, .long (((31 : Int64) * (((31 : Int64) * (((31 : Int64) * (((31 : Int64) * h3) + ((kI (scz α)).toInt64))) + (dB (shW (hra α) (hma α 2))))) + ((kI (α 130 0)).toInt64))) + ((kI (α 130 1)).toInt64))), (0, .ref (z + 133)), (3, .int (kI k))]) hx hb dX6_digest_328 rfl hl (by decide) rfl (fun ls hl => ?_)
                        refine lv_ldc2 hx hb hown (hts _ qCon_X6_208) dX6_digest_329 ?_
                        refine lv_lload_n hx hb dX6_digest_332 rfl (lv_at hl 0 rfl) ?_
                        refine lv_lmul hx hb dX6_digest_333 ?_
                        refine lv_aload_n hx hb dX6_digest_334 rfl (lv_at hl 1 rfl) ?_
                        refine gf_X6_127 hx hb hts hown G dX6_digest_335 ?_
                        refine r_top (b := σ 133 5) (by rw [hE _ _ (Or.inl (by decide)), up_ap, if_neg (by omega)]) ?_
                        refine lv_i2l hx hb dX6_digest_338 rfl ?_
                        refine r_topL (b := (kI (α 131 1)).toInt64) (by rw [ht1]) ?_
                        refine lv_ladd hx hb dX6_digest_339 ?_
                        refine lv_lstore_n (lv' := [(1, .long (((31 : Int64) * (((31 : Int64) * (((31 : Int64) * (((31 : Int64) * (((31 : Int64) * h3) + ((kI (scz α)).toInt64))) + (dB (shW (hra α) (hma α 2))))) + ((kI (α 130 0)).toInt64))) + ((kI (α 130 1)).toInt64))) + ((kI (α 131 1)).toInt64))), (0, .ref (z + 133)), (3, .int (kI k))]) hx hb dX6_digest_340 rfl hl (by decide) rfl (fun ls hl => ?_)
                        refine r_iconst hx hb dX6_digest_341 ?_
                        refine lv_istore_n (lv' := [(3, .int (kI 0)), (1, .long (((31 : Int64) * (((31 : Int64) * (((31 : Int64) * (((31 : Int64) * (((31 : Int64) * h3) + ((kI (scz α)).toInt64))) + (dB (shW (hra α) (hma α 2))))) + ((kI (α 130 0)).toInt64))) + ((kI (α 130 1)).toInt64))) + ((kI (α 131 1)).toInt64))), (0, .ref (z + 133))]) hx hb dX6_digest_342 rfl hl (by decide) rfl (fun ls hl => ?_)
                        have lp343 : ∀ (d : Nat) (h8 : Int64) (t : Int), (0 ≤ t) → (t ≤ σ 133 5) → (h8 = it (dgF (cat α)) (cd6 α) t) → (σ 133 5 - t : Int) < (d : Int) → ∀ (H : Heap) (locs : List Loc), Wd D T z 139 τ s H locs → ∀ (ls : Array Slot), lv_has ls 5 [(0, .ref (z + 133)), (1, .long h8), (3, .int (kI t))] → W p l e (rmN 6 146) s m ([.ref (z + 133)] : List Value).toArray below meth c H locs 0 0 (MQ below (QL D T z 139 (cdg α) (dgM σ)) ([.ref (z + 133)] : List Value).toArray s 0 0 (Own z)) (F0 m 343 ls []) := by
                          intro d
                          induction d with
                          | zero => intro h8 t j0 j1 hv8 hd; exact absurd hd (by omega)
                          | succ d ih343 =>
                            intro h8 t j0 j1 hv8 hd H locs G ls hl
                            refine lv_iload_n hx hb dX6_digest_343 rfl (lv_at hl 2 rfl) ?_
                            refine lv_aload_n hx hb dX6_digest_344 rfl (lv_at hl 0 rfl) ?_
                            refine gf_X6_127 hx hb hts hown G dX6_digest_345 ?_
                            refine r_top (b := σ 133 5) (by rw [hE _ _ (Or.inl (by decide)), up_ap, if_neg (by omega)]) ?_
                            refine r_icmp_ge (tgt := 371) hx hb ⟨by omega, by omega⟩ ⟨by omega, by omega⟩ dX6_digest_348 (by decide) (fun h_10 => ?_) (fun h_10 => ?_)
                            · skip
                              refine lv_lload_n hx hb dX6_digest_371 rfl (lv_at hl 1 rfl) ?_
                              exact r_lret hx hb hr hlk G (by rw [hv8, show t = α 131 1 by omega]; rfl) (by rw [hmm, show k = 4 by omega]; rfl) dX6_digest_372
                            · skip
                              refine lv_ldc2 hx hb hown (hts _ qCon_X6_208) dX6_digest_351 ?_
                              refine lv_lload_n hx hb dX6_digest_354 rfl (lv_at hl 1 rfl) ?_
                              refine lv_lmul hx hb dX6_digest_355 ?_
                              refine lv_aload_n hx hb dX6_digest_356 rfl (lv_at hl 0 rfl) ?_
                              refine gf_X6_17 hx hb hts hown G dX6_digest_357 ?_
                              refine lv_iload_n hx hb dX6_digest_360 rfl (lv_at hl 2 rfl) ?_
                              refine r_cald hx hb G 136 (by decide) (N := 60) (fun _ => rfl) (by omega) (by omega) (by decide) dX6_digest_361 ?_
                              refine r_top (b := cat α t) (by rw [hE _ _ (Or.inl (by decide)), up_ap, if_neg (by omega)]; unfold cat; rw [if_pos (by omega), ht3 t (by omega) (by omega)]) ?_
                              refine lv_i2l hx hb dX6_digest_362 rfl ?_
                              refine lv_ladd hx hb dX6_digest_363 ?_
                              refine lv_lstore_n (lv' := [(1, .long (((31 : Int64) * h8) + ((kI (cat α t)).toInt64))), (0, .ref (z + 133)), (3, .int (kI t))]) hx hb dX6_digest_364 rfl hl (by decide) rfl (fun ls hl => ?_)
                              refine r_iinc (lv' := [(3, .int (kI (t + 1))), (1, .long (((31 : Int64) * h8) + ((kI (cat α t)).toInt64))), (0, .ref (z + 133))]) hx hb dX6_digest_365 hl (k := 2) rfl (by decide) rfl (fun ls hl => ?_)
                              refine lv_goto (tgt := 343) hx hb dX6_digest_368 (by decide) ?_
                              exact ih343 (((31 : Int64) * h8) + ((kI (cat α t)).toInt64)) (t + 1) (by omega) (by omega) (dg_s j0 hv8) (by omega) _ _ G _ (lv_sub hl [2, 1, 0] rfl)
                        exact lp343 61 (((31 : Int64) * (((31 : Int64) * (((31 : Int64) * (((31 : Int64) * (((31 : Int64) * h3) + ((kI (scz α)).toInt64))) + (dB (shW (hra α) (hma α 2))))) + ((kI (α 130 0)).toInt64))) + ((kI (α 130 1)).toInt64))) + ((kI (α 131 1)).toInt64)) 0 (by omega) (by omega) (by rw [hd3]; rfl) (by omega) _ _ G _ (lv_sub hl [2, 1, 0] rfl)
                  · skip
                    refine r_iconst hx hb dX6_digest_70 ?_
                    refine lv_istore (lv' := [(4, .int (kI 0)), (0, .ref (z + 133)), (1, .long h3), (3, .int (kI k))]) hx hb dX6_digest_71 hl (by decide) rfl (fun ls hl => ?_)
                    have lp73 : ∀ (d : Nat) (h4 : Int64) (w : Int), (0 ≤ w) → (w ≤ 11) → (h4 = it (dgF (pkd α k)) h3 w) → (11 - w : Int) < (d : Int) → ∀ (H : Heap) (locs : List Loc), Wd D T z 139 τ s H locs → ∀ (ls : Array Slot), lv_has ls 5 [(0, .ref (z + 133)), (1, .long h4), (3, .int (kI k)), (4, .int (kI w))] → W p l e (rmN 6 146) s m ([.ref (z + 133)] : List Value).toArray below meth c H locs 0 0 (MQ below (QL D T z 139 (cdg α) (dgM σ)) ([.ref (z + 133)] : List Value).toArray s 0 0 (Own z)) (F0 m 73 ls []) := by
                      intro d
                      induction d with
                      | zero => intro h4 w c0 c1 hv4 hd; exact absurd hd (by omega)
                      | succ d ih73 =>
                        intro h4 w c0 c1 hv4 hd H locs G ls hl
                        refine lv_iload hx hb dX6_digest_73 (lv_at hl 3 rfl) ?_
                        refine r_bipush hx hb dX6_digest_75 (by decide +kernel) ?_
                        refine r_icmp_ge (tgt := 101) hx hb ⟨by omega, by omega⟩ ⟨by decide, by decide⟩ dX6_digest_77 (by decide) (fun h_11 => ?_) (fun h_11 => ?_)
                        · skip
                          have hd4 : h4 = ck1 α k h3 := dg_e hv4 (by omega)
                          refine r_iconst hx hb dX6_digest_101 ?_
                          refine lv_istore (lv' := [(4, .int (kI 0)), (0, .ref (z + 133)), (1, .long h4), (3, .int (kI k))]) hx hb dX6_digest_102 hl (by decide) rfl (fun ls hl => ?_)
                          have lp104 : ∀ (d : Nat) (h5 : Int64) (y : Int), (0 ≤ y) → (y ≤ 80) → (h5 = it (dgF (fun y => pok α k (y / 5) (y % 5))) (ck1 α k h3) y) → (80 - y : Int) < (d : Int) → ∀ (H : Heap) (locs : List Loc), Wd D T z 139 τ s H locs → ∀ (ls : Array Slot), lv_has ls 5 [(0, .ref (z + 133)), (1, .long h5), (3, .int (kI k)), (4, .int (kI y))] → W p l e (rmN 6 146) s m ([.ref (z + 133)] : List Value).toArray below meth c H locs 0 0 (MQ below (QL D T z 139 (cdg α) (dgM σ)) ([.ref (z + 133)] : List Value).toArray s 0 0 (Own z)) (F0 m 104 ls []) := by
                            intro d
                            induction d with
                            | zero => intro h5 y e0 e1 hv5 hd; exact absurd hd (by omega)
                            | succ d ih104 =>
                              intro h5 y e0 e1 hv5 hd H locs G ls hl
                              refine lv_iload hx hb dX6_digest_104 (lv_at hl 3 rfl) ?_
                              refine r_bipush hx hb dX6_digest_106 (by decide +kernel) ?_
                              refine r_icmp_ge (tgt := 138) hx hb ⟨by omega, by omega⟩ ⟨by decide, by decide⟩ dX6_digest_108 (by decide) (fun h_12 => ?_) (fun h_12 => ?_)
                              · skip
                                have hd5 : h5 = ck2 α k h3 := (dg_e hv5 (by omega)).trans (it_nest (f := pok α k) 16)
                                refine r_iconst hx hb dX6_digest_138 ?_
                                refine lv_istore (lv' := [(4, .int (kI 0)), (0, .ref (z + 133)), (1, .long h5), (3, .int (kI k))]) hx hb dX6_digest_139 hl (by decide) rfl (fun ls hl => ?_)
                                have lp141 : ∀ (d : Nat) (h6 : Int64) (r : Int), (0 ≤ r) → (r ≤ 4) → (h6 = it (dgF (kat α k)) (ck2 α k h3) r) → (4 - r : Int) < (d : Int) → ∀ (H : Heap) (locs : List Loc), Wd D T z 139 τ s H locs → ∀ (ls : Array Slot), lv_has ls 5 [(0, .ref (z + 133)), (1, .long h6), (3, .int (kI k)), (4, .int (kI r))] → W p l e (rmN 6 146) s m ([.ref (z + 133)] : List Value).toArray below meth c H locs 0 0 (MQ below (QL D T z 139 (cdg α) (dgM σ)) ([.ref (z + 133)] : List Value).toArray s 0 0 (Own z)) (F0 m 141 ls []) := by
                                  intro d
                                  induction d with
                                  | zero => intro h6 r f0 f1 hv6 hd; exact absurd hd (by omega)
                                  | succ d ih141 =>
                                    intro h6 r f0 f1 hv6 hd H locs G ls hl
                                    refine lv_iload hx hb dX6_digest_141 (lv_at hl 3 rfl) ?_
                                    refine r_iconst hx hb dX6_digest_143 ?_
                                    refine r_icmp_ge (tgt := 168) hx hb ⟨by omega, by omega⟩ ⟨by decide, by decide⟩ dX6_digest_144 (by decide) (fun h_13 => ?_) (fun h_13 => ?_)
                                    · skip
                                      have hd6 : h6 = ck3 α k h3 := dg_e hv6 (by omega)
                                      refine lv_ldc2 hx hb hown (hts _ qCon_X6_208) dX6_digest_168 ?_
                                      refine lv_lload_n hx hb dX6_digest_171 rfl (lv_at hl 1 rfl) ?_
                                      refine lv_lmul hx hb dX6_digest_172 ?_
                                      refine lv_aload_n hx hb dX6_digest_173 rfl (lv_at hl 0 rfl) ?_
                                      refine lv_iload_n hx hb dX6_digest_174 rfl (lv_at hl 2 rfl) ?_
                                      refine r_callVI ⟨hx, hb, hml, hown, hts⟩ G (k_X6_wouldAsk l (k := k) (σ := τ) (⟨by omega, by omega⟩) (hRt.g)) (kV_X6_wouldAsk hts qM_X6_183 ⟨by decide, by decide⟩) (rc_X6 G) rfl rfl hl.1 rfl (Nat.le_of_ble_eq_true rfl) dX6_digest_175 ⟨Nat.le_refl _, Nat.le_refl _⟩ (fun H locs G => ?_)
                                      refine r_top (b := atr α k) ((hRt.atx ⟨by omega, by omega⟩).symm) ?_
                                      refine lv_i2l hx hb dX6_digest_178 rfl ?_
                                      refine lv_ladd hx hb dX6_digest_179 ?_
                                      refine lv_lstore_n (lv' := [(1, .long (((31 : Int64) * h6) + ((kI (atr α k)).toInt64))), (0, .ref (z + 133)), (3, .int (kI k)), (4, .int (kI r))]) hx hb dX6_digest_180 rfl hl (by decide) rfl (fun ls hl => ?_)
                                      refine lv_ldc2 hx hb hown (hts _ qCon_X6_208) dX6_digest_181 ?_
                                      refine lv_lload_n hx hb dX6_digest_184 rfl (lv_at hl 0 rfl) ?_
                                      refine lv_lmul hx hb dX6_digest_185 ?_
                                      refine lv_aload_n hx hb dX6_digest_186 rfl (lv_at hl 1 rfl) ?_
                                      refine lv_iload_n hx hb dX6_digest_187 rfl (lv_at hl 2 rfl) ?_
                                      refine r_callVI ⟨hx, hb, hml, hown, hts⟩ G (k_X6_soonest l (k := k) (σ := τ) (⟨by omega, by omega⟩) (hRt.g)) (kV_X6_soonest hts qM_X6_186 ⟨by decide, by decide⟩) (rc_X6 G) rfl rfl hl.1 rfl (Nat.le_of_ble_eq_true rfl) dX6_digest_188 ⟨Nat.le_refl _, Nat.le_refl _⟩ (fun H locs G => ?_)
                                      refine r_top (b := dtk α k) ((hRt.sn ⟨by omega, by omega⟩).symm) ?_
                                      refine lv_i2l hx hb dX6_digest_191 rfl ?_
                                      refine lv_ladd hx hb dX6_digest_192 ?_
                                      refine lv_lstore_n (lv' := [(1, .long (((31 : Int64) * (((31 : Int64) * h6) + ((kI (atr α k)).toInt64))) + ((kI (dtk α k)).toInt64))), (0, .ref (z + 133)), (3, .int (kI k)), (4, .int (kI r))]) hx hb dX6_digest_193 rfl hl (by decide) rfl (fun ls hl => ?_)
                                      refine r_iconst hx hb dX6_digest_194 ?_
                                      refine lv_istore (lv' := [(4, .int (kI 1)), (1, .long (((31 : Int64) * (((31 : Int64) * h6) + ((kI (atr α k)).toInt64))) + ((kI (dtk α k)).toInt64))), (0, .ref (z + 133)), (3, .int (kI k))]) hx hb dX6_digest_195 hl (by decide) rfl (fun ls hl => ?_)
                                      have lp197 : ∀ (d : Nat) (h7 : Int64) (n : Int) (τ2 : Mem), (1 ≤ n) → (n ≤ 4) → (h7 = it (dgF (fun j => kor α k (j + 1))) (ck5 α k h3) (n - 1)) → (E9 σ τ2) → (τ2 = dgJ τ k (n - 1)) → (4 - n : Int) < (d : Int) → ∀ (H : Heap) (locs : List Loc), Wd D T z 139 τ2 s H locs → ∀ (ls : Array Slot), lv_has ls 5 [(0, .ref (z + 133)), (1, .long h7), (3, .int (kI k)), (4, .int (kI n))] → W p l e (rmN 6 146) s m ([.ref (z + 133)] : List Value).toArray below meth c H locs 0 0 (MQ below (QL D T z 139 (cdg α) (dgM σ)) ([.ref (z + 133)] : List Value).toArray s 0 0 (Own z)) (F0 m 197 ls []) := by
                                        intro d
                                        induction d with
                                        | zero => intro h7 n τ2 g0 g1 hv7 hE2 hm2 hd; exact absurd hd (by omega)
                                        | succ d ih197 =>
                                          intro h7 n τ2 g0 g1 hv7 hE2 hm2 hd H locs G ls hl
                                          have hR2 : R1 α τ2 := hE2.r hR
                                          refine lv_iload hx hb dX6_digest_197 (lv_at hl 3 rfl) ?_
                                          refine r_iconst hx hb dX6_digest_199 ?_
                                          refine r_icmp_ge (tgt := 224) hx hb ⟨by omega, by omega⟩ ⟨by decide, by decide⟩ dX6_digest_200 (by decide) (fun h_14 => ?_) (fun h_14 => ?_)
                                          · skip
                                            refine lv_ldc2 hx hb hown (hts _ qCon_X6_208) dX6_digest_224 ?_
                                            refine lv_lload_n hx hb dX6_digest_227 rfl (lv_at hl 1 rfl) ?_
                                            refine lv_lmul hx hb dX6_digest_228 ?_
                                            refine lv_aload_n hx hb dX6_digest_229 rfl (lv_at hl 0 rfl) ?_
                                            refine lv_iload_n hx hb dX6_digest_230 rfl (lv_at hl 2 rfl) ?_
                                            refine r_callVI ⟨hx, hb, hml, hown, hts⟩ G (k_X6_longestSeason l (k := k) (σ := τ2) (⟨by omega, by omega⟩) (hR2.g)) (kV_X6_longestSeason hts qM_X6_192 ⟨by decide, by decide⟩) (rc_X6 G) rfl rfl hl.1 rfl (Nat.le_of_ble_eq_true rfl) dX6_digest_231 ⟨Nat.le_refl _, Nat.le_refl _⟩ (fun H locs G => ?_)
                                            refine r_top (b := lgs α k) ((hR2.lo ⟨by omega, by omega⟩).symm) ?_
                                            refine lv_i2l hx hb dX6_digest_234 rfl ?_
                                            refine lv_ladd hx hb dX6_digest_235 ?_
                                            refine lv_lstore_n (lv' := [(1, .long (((31 : Int64) * h7) + ((kI (lgs α k)).toInt64))), (0, .ref (z + 133)), (3, .int (kI k)), (4, .int (kI n))]) hx hb dX6_digest_236 rfl hl (by decide) rfl (fun ls hl => ?_)
                                            refine lv_ldc2 hx hb hown (hts _ qCon_X6_208) dX6_digest_237 ?_
                                            refine lv_lload_n hx hb dX6_digest_240 rfl (lv_at hl 0 rfl) ?_
                                            refine lv_lmul hx hb dX6_digest_241 ?_
                                            refine lv_aload_n hx hb dX6_digest_242 rfl (lv_at hl 1 rfl) ?_
                                            refine lv_iload_n hx hb dX6_digest_243 rfl (lv_at hl 2 rfl) ?_
                                            have hdr0 := dsm_rg hR.is.1 (k := k) ⟨by omega, by omega⟩
                                            have hdr3 := hm_rg (σ := α) (k := k) (w := 2)
                                            have hfq : FPq (mnW (dsm α k) (hm α k 2)) := mnW_ok ⟨by omega, by omega⟩ ⟨by omega, by omega⟩
                                            refine r_callVF ⟨hx, hb, hml, hown, hts⟩ G (k_X6_mean l (k := k) (σ := τ2) (⟨by omega, by omega⟩) (hR2.g)) (kV_X6_mean hts qM_X6_202 ⟨by decide, by decide⟩) (rc_X6 G) rfl rfl hl.1 rfl (Nat.le_of_ble_eq_true rfl) dX6_digest_244 ⟨Nat.le_refl _, Nat.le_refl _⟩ (fun H locs G => ?_)
                                            refine r_topF (b := mnW (dsm α k) (hm α k 2)) (hR2.mn ⟨by omega, by omega⟩) ?_
                                            refine r_callSI ⟨hx, hb, hml, hown, hts⟩ G (k_JF_bits l (σ := τ2) (hfq)) (cS hts qM_X6_210 qS_Jxf58ca_floatToIntBits_5c35a qN_Jxf58ca qC_Jxf58ca_floatToIntBits_5c35a (na := 1) (by decide +kernel) ⟨by decide, by decide⟩) rfl rfl hl.1 rfl (Nat.le_of_ble_eq_true rfl) dX6_digest_247 ⟨Nat.le_refl _, Nat.le_refl _⟩ (fun H locs G => ?_)
                                            refine lv_i2l hx hb dX6_digest_250 rfl ?_
                                            refine r_topL (b := fB (mnW (dsm α k) (hm α k 2))) (fB_k hfq.lt) ?_
                                            refine lv_ladd hx hb dX6_digest_251 ?_
                                            refine lv_lstore_n (lv' := [(1, .long (((31 : Int64) * (((31 : Int64) * h7) + ((kI (lgs α k)).toInt64))) + (fB (mnW (dsm α k) (hm α k 2))))), (0, .ref (z + 133)), (3, .int (kI k)), (4, .int (kI n))]) hx hb dX6_digest_252 rfl hl (by decide) rfl (fun ls hl => ?_)
                                            have hd7 : h7 = ck6 α k h3 := dg_e hv7 (by omega)
                                            refine r_iinc (lv' := [(3, .int (kI (k + 1))), (1, .long (((31 : Int64) * (((31 : Int64) * h7) + ((kI (lgs α k)).toInt64))) + (fB (mnW (dsm α k) (hm α k 2))))), (0, .ref (z + 133)), (4, .int (kI n))]) hx hb dX6_digest_253 hl (k := 2) rfl (by decide) rfl (fun ls hl => ?_)
                                            refine lv_goto (tgt := 65) hx hb dX6_digest_256 (by decide) ?_
                                            exact ih65 (((31 : Int64) * (((31 : Int64) * h7) + ((kI (lgs α k)).toInt64))) + (fB (mnW (dsm α k) (hm α k 2)))) (k + 1) τ2 (by omega) (by omega) (by rw [hd7, it_s b0, ← hv3]; rfl) (hE2) (by rw [hm2, show n - 1 = 3 by omega, hmm]; exact (it_s (f := fun k μ => dgJ μ k 3) b0).symm) (by omega) _ _ G _ (lv_sub hl [2, 1, 0] rfl)
                                          · skip
                                            refine lv_ldc2 hx hb hown (hts _ qCon_X6_208) dX6_digest_203 ?_
                                            refine lv_lload_n hx hb dX6_digest_206 rfl (lv_at hl 1 rfl) ?_
                                            refine lv_lmul hx hb dX6_digest_207 ?_
                                            refine lv_aload_n hx hb dX6_digest_208 rfl (lv_at hl 0 rfl) ?_
                                            refine lv_iload_n hx hb dX6_digest_209 rfl (lv_at hl 2 rfl) ?_
                                            refine lv_iload hx hb dX6_digest_210 (lv_at hl 3 rfl) ?_
                                            refine r_callVI ⟨hx, hb, hml, hown, hts⟩ G (k_X6_comes l (k := k) (n := n) (σ := τ2) (⟨by omega, by omega⟩) (⟨by omega, by omega⟩) (⟨by decide, by decide⟩) (hR2.g)) (kV_X6_comes hts qM_X6_189 ⟨by decide, by decide⟩) (rc_X6 G) rfl rfl hl.1 rfl (Nat.le_of_ble_eq_true rfl) dX6_digest_212 ⟨Nat.le_refl _, Nat.le_refl _⟩ (fun H locs G => ?_)
                                            refine r_top (b := kor α k n) ((hR2.co ⟨by omega, by omega⟩ ⟨by omega, by omega⟩).1.symm) ?_
                                            refine lv_i2l hx hb dX6_digest_215 rfl ?_
                                            refine lv_ladd hx hb dX6_digest_216 ?_
                                            refine lv_lstore_n (lv' := [(1, .long (((31 : Int64) * h7) + ((kI (kor α k n)).toInt64))), (0, .ref (z + 133)), (3, .int (kI k)), (4, .int (kI n))]) hx hb dX6_digest_217 rfl hl (by decide) rfl (fun ls hl => ?_)
                                            refine r_iinc (lv' := [(4, .int (kI (n + 1))), (1, .long (((31 : Int64) * h7) + ((kI (kor α k n)).toInt64))), (0, .ref (z + 133)), (3, .int (kI k))]) hx hb dX6_digest_218 hl (k := 3) rfl (by decide) rfl (fun ls hl => ?_)
                                            refine lv_goto (tgt := 197) hx hb dX6_digest_221 (by decide) ?_
                                            exact ih197 (((31 : Int64) * h7) + ((kI (kor α k n)).toInt64)) (n + 1) ((mcs τ2 k n).1) (by omega) (by omega) (by have e := dg_s (by omega) hv7; rw [show n - 1 + 1 = n by omega] at e; rw [show n + 1 - 1 = n by omega]; exact e) (hE2.c hR ⟨by omega, by omega⟩ ⟨by omega, by omega⟩) (by have e := it_s (f := fun j ν => (mcs ν k (j + 1)).1) (a := τ) (i := n - 1) (by omega); rw [show n - 1 + 1 = n by omega] at e; rw [show n + 1 - 1 = n by omega, hm2]; exact e.symm) (by omega) _ _ G _ (lv_sub hl [2, 1, 3, 0] rfl)
                                      exact lp197 4 (((31 : Int64) * (((31 : Int64) * h6) + ((kI (atr α k)).toInt64))) + ((kI (dtk α k)).toInt64)) 1 τ (by omega) (by omega) (by rw [hd6]; rfl) (hE) (rfl) (by omega) _ _ G _ (lv_sub hl [2, 1, 3, 0] rfl)
                                    · skip
                                      refine lv_ldc2 hx hb hown (hts _ qCon_X6_208) dX6_digest_147 ?_
                                      refine lv_lload_n hx hb dX6_digest_150 rfl (lv_at hl 1 rfl) ?_
                                      refine lv_lmul hx hb dX6_digest_151 ?_
                                      refine lv_aload_n hx hb dX6_digest_152 rfl (lv_at hl 0 rfl) ?_
                                      refine lv_iload_n hx hb dX6_digest_153 rfl (lv_at hl 2 rfl) ?_
                                      refine lv_iload hx hb dX6_digest_154 (lv_at hl 3 rfl) ?_
                                      refine r_callVI ⟨hx, hb, hml, hown, hts⟩ G (k_X6_piled l (k := k) (q := r) (σ := τ) (⟨by omega, by omega⟩) (⟨by omega, by omega, by omega⟩) (hRt.g)) (kV_X6_piled hts qM_X6_171 ⟨by decide, by decide⟩) (rc_X6 G) rfl rfl hl.1 rfl (Nat.le_of_ble_eq_true rfl) dX6_digest_156 ⟨Nat.le_refl _, Nat.le_refl _⟩ (fun H locs G => ?_)
                                      refine r_top (b := kat α k r) ((hRt.ka ⟨by omega, by omega⟩ (by omega)).symm) ?_
                                      refine lv_i2l hx hb dX6_digest_159 rfl ?_
                                      refine lv_ladd hx hb dX6_digest_160 ?_
                                      refine lv_lstore_n (lv' := [(1, .long (((31 : Int64) * h6) + ((kI (kat α k r)).toInt64))), (0, .ref (z + 133)), (3, .int (kI k)), (4, .int (kI r))]) hx hb dX6_digest_161 rfl hl (by decide) rfl (fun ls hl => ?_)
                                      refine r_iinc (lv' := [(4, .int (kI (r + 1))), (1, .long (((31 : Int64) * h6) + ((kI (kat α k r)).toInt64))), (0, .ref (z + 133)), (3, .int (kI k))]) hx hb dX6_digest_162 hl (k := 3) rfl (by decide) rfl (fun ls hl => ?_)
                                      refine lv_goto (tgt := 141) hx hb dX6_digest_165 (by decide) ?_
                                      exact ih141 (((31 : Int64) * h6) + ((kI (kat α k r)).toInt64)) (r + 1) (by omega) (by omega) (dg_s f0 hv6) (by omega) _ _ G _ (lv_sub hl [2, 1, 3, 0] rfl)
                                exact lp141 5 h5 0 (by omega) (by omega) (hd5) (by omega) _ _ G _ (lv_sub hl [1, 2, 3, 0] rfl)
                              · skip
                                refine lv_ldc2 hx hb hown (hts _ qCon_X6_208) dX6_digest_111 ?_
                                refine lv_lload_n hx hb dX6_digest_114 rfl (lv_at hl 1 rfl) ?_
                                refine lv_lmul hx hb dX6_digest_115 ?_
                                refine lv_aload_n hx hb dX6_digest_116 rfl (lv_at hl 0 rfl) ?_
                                refine lv_iload_n hx hb dX6_digest_117 rfl (lv_at hl 2 rfl) ?_
                                refine lv_iload hx hb dX6_digest_118 (lv_at hl 3 rfl) ?_
                                refine r_iconst hx hb dX6_digest_120 ?_
                                refine r_idiv hx hb dX6_digest_121 (by omega) (by omega) (by omega) (by omega) ?_
                                refine lv_iload hx hb dX6_digest_122 (lv_at hl 3 rfl) ?_
                                refine r_iconst hx hb dX6_digest_124 ?_
                                refine r_irem hx hb dX6_digest_125 (by omega) (by omega) (by omega) (by omega) ?_
                                refine r_callVI ⟨hx, hb, hml, hown, hts⟩ G (k_X6_keys l (k := k) (y := y / 5) (w := y % 5) (σ := τ) (⟨by omega, by omega⟩) (⟨by omega, by omega⟩) (⟨by omega, by omega⟩) (hRt.g)) (kV_X6_keys hts qM_X6_165 ⟨by decide, by decide⟩) (rc_X6 G) rfl rfl hl.1 rfl (Nat.le_of_ble_eq_true rfl) dX6_digest_126 ⟨Nat.le_refl _, Nat.le_refl _⟩ (fun H locs G => ?_)
                                refine r_top (b := pok α k (y / 5) (y % 5)) ((hRt.po ⟨by omega, by omega⟩ ⟨by omega, by omega⟩ ⟨by omega, by omega⟩).symm) ?_
                                refine lv_i2l hx hb dX6_digest_129 rfl ?_
                                refine lv_ladd hx hb dX6_digest_130 ?_
                                refine lv_lstore_n (lv' := [(1, .long (((31 : Int64) * h5) + ((kI (pok α k (y / 5) (y % 5))).toInt64))), (0, .ref (z + 133)), (3, .int (kI k)), (4, .int (kI y))]) hx hb dX6_digest_131 rfl hl (by decide) rfl (fun ls hl => ?_)
                                refine r_iinc (lv' := [(4, .int (kI (y + 1))), (1, .long (((31 : Int64) * h5) + ((kI (pok α k (y / 5) (y % 5))).toInt64))), (0, .ref (z + 133)), (3, .int (kI k))]) hx hb dX6_digest_132 hl (k := 3) rfl (by decide) rfl (fun ls hl => ?_)
                                refine lv_goto (tgt := 104) hx hb dX6_digest_135 (by decide) ?_
                                exact ih104 (((31 : Int64) * h5) + ((kI (pok α k (y / 5) (y % 5))).toInt64)) (y + 1) (by omega) (by omega) (dg_s (f := fun y => pok α k (y / 5) (y % 5)) (i := y) e0 hv5) (by omega) _ _ G _ (lv_sub hl [2, 1, 3, 0] rfl)
                          exact lp104 81 h4 0 (by omega) (by omega) (hd4) (by omega) _ _ G _ (lv_sub hl [1, 2, 3, 0] rfl)
                        · skip
                          refine lv_ldc2 hx hb hown (hts _ qCon_X6_208) dX6_digest_80 ?_
                          refine lv_lload_n hx hb dX6_digest_83 rfl (lv_at hl 1 rfl) ?_
                          refine lv_lmul hx hb dX6_digest_84 ?_
                          refine lv_aload_n hx hb dX6_digest_85 rfl (lv_at hl 0 rfl) ?_
                          refine lv_iload_n hx hb dX6_digest_86 rfl (lv_at hl 2 rfl) ?_
                          refine lv_iload hx hb dX6_digest_87 (lv_at hl 3 rfl) ?_
                          refine r_callVI ⟨hx, hb, hml, hown, hts⟩ G (k_X6_kinds l (k := k) (w := w) (σ := τ) (⟨by omega, by omega⟩) (⟨by omega, by omega⟩) (hRt.g)) (kV_X6_kinds hts qM_X6_168 ⟨by decide, by decide⟩) (rc_X6 G) rfl rfl hl.1 rfl (Nat.le_of_ble_eq_true rfl) dX6_digest_89 ⟨Nat.le_refl _, Nat.le_refl _⟩ (fun H locs G => ?_)
                          refine r_top (b := pkd α k w) ((hRt.pk ⟨by omega, by omega⟩ ⟨by omega, by omega⟩).symm) ?_
                          refine lv_i2l hx hb dX6_digest_92 rfl ?_
                          refine lv_ladd hx hb dX6_digest_93 ?_
                          refine lv_lstore_n (lv' := [(1, .long (((31 : Int64) * h4) + ((kI (pkd α k w)).toInt64))), (0, .ref (z + 133)), (3, .int (kI k)), (4, .int (kI w))]) hx hb dX6_digest_94 rfl hl (by decide) rfl (fun ls hl => ?_)
                          refine r_iinc (lv' := [(4, .int (kI (w + 1))), (1, .long (((31 : Int64) * h4) + ((kI (pkd α k w)).toInt64))), (0, .ref (z + 133)), (3, .int (kI k))]) hx hb dX6_digest_95 hl (k := 3) rfl (by decide) rfl (fun ls hl => ?_)
                          refine lv_goto (tgt := 73) hx hb dX6_digest_98 (by decide) ?_
                          exact ih73 (((31 : Int64) * h4) + ((kI (pkd α k w)).toInt64)) (w + 1) (by omega) (by omega) (dg_s c0 hv4) (by omega) _ _ G _ (lv_sub hl [2, 1, 3, 0] rfl)
                    exact lp73 12 h3 0 (by omega) (by omega) (rfl) (by omega) _ _ G _ (lv_sub hl [1, 2, 3, 0] rfl)
              have hd2 : h2 = cd2 α := dg_e hv2 (by omega)
              exact lp65 5 h2 0 (up σ 133 3 0) (by omega) (by omega) (hd2) (fun _ _ _ => rfl) (rfl) (by omega) _ _ G _ (lv_sub hl [1, 2, 0] rfl)
            · skip
              refine lv_ldc2 hx hb hown (hts _ qCon_X6_208) dX6_digest_43 ?_
              refine lv_lload_n hx hb dX6_digest_46 rfl (lv_at hl 1 rfl) ?_
              refine lv_lmul hx hb dX6_digest_47 ?_
              refine lv_aload_n hx hb dX6_digest_48 rfl (lv_at hl 0 rfl) ?_
              refine gf_X6_7 hx hb hts hown G dX6_digest_49 ?_
              refine lv_iload_n hx hb dX6_digest_52 rfl (lv_at hl 2 rfl) ?_
              refine r_iald hx hb G 134 (by decide) (N := 2910) (fun _ => rfl) (by omega) (by omega) (by decide) dX6_digest_53 ?_
              refine r_top (b := α 14 q) ((hR0.xq ⟨by omega, by omega⟩).symm) ?_
              refine lv_i2l hx hb dX6_digest_54 rfl ?_
              refine lv_ladd hx hb dX6_digest_55 ?_
              refine lv_lstore_n (lv' := [(1, .long (((31 : Int64) * h2) + ((kI (α 14 q)).toInt64))), (0, .ref (z + 133)), (3, .int (kI q))]) hx hb dX6_digest_56 rfl hl (by decide) rfl (fun ls hl => ?_)
              refine r_iinc (lv' := [(3, .int (kI (q + 1))), (1, .long (((31 : Int64) * h2) + ((kI (α 14 q)).toInt64))), (0, .ref (z + 133))]) hx hb dX6_digest_57 hl (k := 2) rfl (by decide) rfl (fun ls hl => ?_)
              refine lv_goto (tgt := 38) hx hb dX6_digest_60 (by decide) ?_
              exact ih38 (((31 : Int64) * h2) + ((kI (α 14 q)).toInt64)) (q + 1) (by omega) (by omega) (dg_s a0 hv2) (by omega) _ _ G _ (lv_sub hl [2, 1, 0] rfl)
        have hd1 : h = cd1 α := dg_e hv (by omega)
        exact lp38 4 h 0 (by omega) (by omega) (hd1) (by omega) _ _ G _ (lv_sub hl [1, 2, 0] rfl)
      · skip
        refine lv_ldc2 hx hb hown (hts _ qCon_X6_208) dX6_digest_17 ?_
        refine lv_lload_n hx hb dX6_digest_20 rfl (lv_at hl 1 rfl) ?_
        refine lv_lmul hx hb dX6_digest_21 ?_
        refine lv_aload_n hx hb dX6_digest_22 rfl (lv_at hl 0 rfl) ?_
        refine lv_iload_n hx hb dX6_digest_23 rfl (lv_at hl 2 rfl) ?_
        refine r_callVI ⟨hx, hb, hml, hown, hts⟩ G (k_X6_counted l (w := i) (σ := up σ 133 3 0) (⟨by omega, by omega⟩) (hR0.g)) (kV_X6_counted hts qM_X6_180 ⟨by decide, by decide⟩) (rc_X6 G) rfl rfl hl.1 rfl (Nat.le_of_ble_eq_true rfl) dX6_digest_24 ⟨Nat.le_refl _, Nat.le_refl _⟩ (fun H locs G => ?_)
        refine r_top (b := nof α i) ((hR0.no ⟨by omega, by omega⟩ hst0).symm) ?_
        refine lv_i2l hx hb dX6_digest_27 rfl ?_
        refine lv_ladd hx hb dX6_digest_28 ?_
        refine lv_lstore_n (lv' := [(1, .long (((31 : Int64) * h) + ((kI (nof α i)).toInt64))), (0, .ref (z + 133)), (3, .int (kI i))]) hx hb dX6_digest_29 rfl hl (by decide) rfl (fun ls hl => ?_)
        refine r_iinc (lv' := [(3, .int (kI (i + 1))), (1, .long (((31 : Int64) * h) + ((kI (nof α i)).toInt64))), (0, .ref (z + 133))]) hx hb dX6_digest_30 hl (k := 2) rfl (by decide) rfl (fun ls hl => ?_)
        refine lv_goto (tgt := 11) hx hb dX6_digest_33 (by decide) ?_
        exact ih11 (((31 : Int64) * h) + ((kI (nof α i)).toInt64)) (i + 1) (by omega) (by omega) (dg_s h0 hv) (by omega) _ _ G _ (lv_sub hl [2, 1, 0] rfl)
  exact lp11 11 (3361 : Int64) 0 (by omega) (by omega) (rfl) (by omega) _ _ G _ (lv_sub hl [2, 1, 0] rfl)
