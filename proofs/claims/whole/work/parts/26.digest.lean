/-! the digest: bits of doubles and floats -/
theorem Ct_ofF {l : Launch} {y : MethodName} {cc : ByteArray} {maxL : Nat} {ret : Option FieldType} {fr lo : Nat} {As : List Value} {n : Nat} {D : va_G} {T : Nat → ClassId} {z : Nat} {σ : Mem} {Qc : Array Value → State → Outcome → State → Prop} (hy : plainFor y = true) (hA : (lg_sl As).length ≤ maxL)
    (body : ∀ (p : Program) (e : Env) (s : State) (m : MethodId) (below : List Frame) (meth : Method) (c : Code) (ls : Array Slot), p.tables.exec = Jvm.exec → c.code = cc → c.maxLocals = maxL → meth.sig.returnType = ret → (∀ w ∈ Gw, w.before As.toArray s = true) → s.vm.findClass y.cls = some m.cls → meth.locks = false → Wd D T z n σ s s.heap [] → lv_has ls maxL (lv_args 0 As) →
      W p l e (rmN fr lo) s m As.toArray below meth c s.heap [] 0 0 (MQ below Qc As.toArray s 0 0 (Own z)) (F0 m 0 ls [])) :
    Met l y (Cond.code y cc maxL ret :: Gw) (rmN fr lo) (va_Pc As (St D T z n σ)) Qc 0 0 (Own z) := by
  refine MetFree.of_bodySF (code := cc) (maxLocals := maxL) (ret := ret) hy ?_ ?_
  · intro args s m h hn
    obtain ⟨meth, c, h1, h2, h3, h4, h5, h6, -, -⟩ := Cond.code_spec hn (atoms_spec (ws := Cond.code y cc maxL ret :: Gw) h _ List.mem_cons_self)
    exact ⟨meth, c, h1, h2, h3, h4, h5, h6⟩
  · intro p e s m args below meth c s₁ B hml hv _
    obtain ⟨rfl, hst⟩ := hv
    have hh0 : s₁.heap = s.heap := by rw [B.state]; rfl
    have hts := atoms_spec (ws := Cond.code y cc maxL ret :: Gw) B.pre
    have hl := lv_entry As (n := maxL) hA
    have hb := body p e s m below meth c _ B.exec B.bytes hml B.returns (fun w h => hts w (List.mem_cons_of_mem _ h)) (findClass_of_methodNamed B.named) B.notSynchronized (Wd.of hst) hl
    rw [← lg_entry_eq] at hb
    obtain ⟨t, a1, o, b1, b2, b3⟩ := hb s₁ hh0 (Stand.of_body B)
    exact ⟨t, o, a1, b1, b2, ⟨b3.1, b3.2⟩⟩
def fB (x : UInt32) : Int64 := Int64.ofInt (x.toNat : Int)
def dB (x : UInt64) : Int64 := Int64.ofInt (x.toNat : Int)
theorem DP.c {x : UInt64} (h : DP x) : Op.cmpValue (FP.dcmp x x) .l = 0 := by
  rcases h with rfl | ⟨E, T, h1, h2, h3, rfl⟩
  · decide +kernel
  · rw [dcmp_dw h1 h2 h3 h1 h2 h3]; exact cv_eq rfl
theorem FPq.n2 {x : UInt32} (h : FPq x) : vf_n64 (FP.f2d x) := by
  rcases h with rfl | ⟨E, T, h1, h2, h3, rfl⟩
  · rw [f2d_0]; exact n64 (by decide)
  · rw [f2d_fw h1 (by omega) h3]; exact n_dw (by omega) (by omega)
theorem half32 : FP.Core.half FP.Core.b32 = 2147483648 := by decide
theorem FPq.lt {x : UInt32} (h : FPq x) : x.toNat < 1350565888 := by
  rcases h with rfl | ⟨E, T, h1, h2, h3, rfl⟩
  · decide
  · rw [fw_n (by omega) h3]; omega
theorem DP.lt {x : UInt64} (h : DP x) : x.toNat < 9218868437227405312 := by
  rcases h with rfl | ⟨E, T, h1, h2, h3, rfl⟩
  · decide
  · rw [dw_n h2 h3]; omega
theorem FPq.c {x : UInt32} (h : FPq x) : Op.cmpValue (FP.fcmp x x) .l = 0 := by
  rcases h with rfl | ⟨E, T, h1, h2, h3, rfl⟩
  · decide +kernel
  · have e : FP.fcmp (fw E T) (fw E T) = some (compare (FP.Core.key FP.Core.b32 (fw E T).toNat) (FP.Core.key FP.Core.b32 (fw E T).toNat)) := by
      show FP.Core.cmp FP.Core.b32 _ _ = _
      exact FP.Core.cmp_key FP.Core.good_b32 (by rw [half32, fw_n (by omega) h3]; omega) (by rw [half32, fw_n (by omega) h3]; omega) (by show FP.Core.val32 _ ≠ _; rw [val_fw h1 (by omega) h3]; simp) (by show FP.Core.val32 _ ≠ _; rw [val_fw h1 (by omega) h3]; simp)
    rw [e]; exact cv_eq rfl
theorem fB_i {x : UInt32} (h : x.toNat < 1350565888) : x.toInt32 = kI (x.toNat : Int) := by
  apply Int32.toInt_inj.mp
  rw [kI_toInt ⟨by omega, by omega⟩]
  show x.toBitVec.toInt = _
  rw [BitVec.toInt_eq_toNat_of_lt (by show 2 * x.toNat < 4294967296; omega)]
  rfl
theorem fB_k {x : UInt32} (h : x.toNat < 1350565888) : (kI (x.toNat : Int)).toInt64 = fB x := i2l_k ⟨by omega, by omega⟩
theorem dB_i {x : UInt64} (h : x.toNat < 9218868437227405312) : x.toInt64 = dB x := by
  unfold dB
  apply Int64.toInt_inj.mp
  rw [Int64.toInt_ofInt_of_le (by omega) (by omega)]
  show x.toBitVec.toInt = _
  rw [BitVec.toInt_eq_toNat_of_lt (by show 2 * x.toNat < 18446744073709551616; omega)]
  rfl
theorem k_JD_isNaN (l : Launch) {σ : Mem} {x : UInt64} (hc : Op.cmpValue (FP.dcmp x x) .l = 0) : CtI l yJxe99ae_isNaN_b9ae7 (Cond.code yJxe99ae_isNaN_b9ae7 cJxe99ae_isNaN_b9ae7 2 (some .boolean)) 0 0 (fun z => [.double x]) σ 0 σ := by
  intro D T z
  refine Ct_ofF (by decide +kernel) (Nat.le_of_ble_eq_true rfl) ?_
  intro p e s m below meth c ls hx hb hml hr hts hown hlk G hl
  have hl : lv_has ls 2 [(0, .double x)] := hl
  refine lv_dload_n hx hb dJxe99ae_isNaN_b9ae7_0 rfl (lv_at hl 0 rfl) ?_
  refine lv_dload_n hx hb dJxe99ae_isNaN_b9ae7_1 rfl (lv_at hl 0 rfl) ?_
  refine lv_dcmp hx hb dJxe99ae_isNaN_b9ae7_2 ?_
  rw [hc]
  refine lv_if_eq (tgt := 10) hx hb dJxe99ae_isNaN_b9ae7_3 (by decide) (fun _ => ?_) (fun h => absurd rfl h)
  refine r_iconst hx hb dJxe99ae_isNaN_b9ae7_10 ?_
  exact r_zret hx hb hr hlk G (Or.inl rfl) rfl rfl dJxe99ae_isNaN_b9ae7_11
theorem k_JF_isNaN (l : Launch) {σ : Mem} {x : UInt32} (hc : Op.cmpValue (FP.fcmp x x) .l = 0) : CtI l yJxf58ca_isNaN_12338 (Cond.code yJxf58ca_isNaN_12338 cJxf58ca_isNaN_12338 1 (some .boolean)) 0 0 (fun z => [.float x]) σ 0 σ := by
  intro D T z
  refine Ct_ofF (by decide +kernel) (Nat.le_of_ble_eq_true rfl) ?_
  intro p e s m below meth c ls hx hb hml hr hts hown hlk G hl
  have hl : lv_has ls 1 [(0, .float x)] := hl
  refine lv_fload_n hx hb dJxf58ca_isNaN_12338_0 rfl (lv_at hl 0 rfl) ?_
  refine lv_fload_n hx hb dJxf58ca_isNaN_12338_1 rfl (lv_at hl 0 rfl) ?_
  refine lv_fcmp hx hb dJxf58ca_isNaN_12338_2 ?_
  rw [hc]
  refine lv_if_eq (tgt := 10) hx hb dJxf58ca_isNaN_12338_3 (by decide) (fun _ => ?_) (fun h => absurd rfl h)
  refine r_iconst hx hb dJxf58ca_isNaN_12338_10 ?_
  exact r_zret hx hb hr hlk G (Or.inl rfl) rfl rfl dJxf58ca_isNaN_12338_11
theorem k_JD_bits (l : Launch) {σ : Mem} {x : UInt64} (h : DP x) : CtL l yJxe99ae_doubleToLongBits_ccdee (Cond.code yJxe99ae_doubleToLongBits_ccdee cJxe99ae_doubleToLongBits_ccdee 2 (some .long)) 1 30 (fun z => [.double x]) σ (dB x) σ := by
  intro D T z
  refine Ct_of (by decide) (Nat.le_of_ble_eq_true rfl) ?_
  intro p e s m below meth c ls hx hb hml hr hts hown hlk G hl
  have hl : lv_has ls 2 [(0, .double x)] := hl
  refine lv_dload_n hx hb dJxe99ae_doubleToLongBits_ccdee_0 rfl (lv_at hl 0 rfl) ?_
  refine r_callSI ⟨hx, hb, hml, hown, hts⟩ G (k_JD_isNaN l (σ := σ) h.c) (cS hts qM_Jxe99ae_122 qS_Jxe99ae_isNaN_b9ae7 qN_Jxe99ae qC_Jxe99ae_isNaN_b9ae7 (na := 1) (by decide +kernel) ⟨by decide, by decide⟩) rfl rfl hl.1 rfl (Nat.le_of_ble_eq_true rfl) dJxe99ae_doubleToLongBits_ccdee_1 ⟨Nat.le_refl _, Nat.le_refl _⟩ (fun H locs G => ?_)
  refine r_if_ne (tgt := 12) hx hb ⟨by decide, by decide⟩ dJxe99ae_doubleToLongBits_ccdee_4 (by decide) (fun h => absurd rfl h) (fun _ => ?_)
  refine lv_dload_n hx hb dJxe99ae_doubleToLongBits_ccdee_7 rfl (lv_at hl 0 rfl) ?_
  refine vn_d2l hx hb (hml.trans hl.1.symm) hown (hts _ qM_Jxe99ae_134) (hts _ qNat_Jxe99ae_doubleToRawLongBits_DJ) (hts _ qS_Jxe99ae_doubleToRawLongBits_DJ) (hts _ qN_Jxe99ae) (by decide) (by decide) dJxe99ae_doubleToLongBits_ccdee_8 ?_
  exact r_lret hx hb hr hlk G (dB_i h.lt) rfl dJxe99ae_doubleToLongBits_ccdee_11
theorem k_JF_bits (l : Launch) {σ : Mem} {x : UInt32} (h : FPq x) : CtI l yJxf58ca_floatToIntBits_5c35a (Cond.code yJxf58ca_floatToIntBits_5c35a cJxf58ca_floatToIntBits_5c35a 1 (some .int)) 1 30 (fun z => [.float x]) σ (x.toNat : Int) σ := by
  intro D T z
  refine Ct_ofF (by decide +kernel) (Nat.le_of_ble_eq_true rfl) ?_
  intro p e s m below meth c ls hx hb hml hr hts hown hlk G hl
  have hl : lv_has ls 1 [(0, .float x)] := hl
  refine lv_fload_n hx hb dJxf58ca_floatToIntBits_5c35a_0 rfl (lv_at hl 0 rfl) ?_
  refine r_callSI ⟨hx, hb, hml, hown, hts⟩ G (k_JF_isNaN l (σ := σ) h.c) (cS hts qM_Jxf58ca_59 qS_Jxf58ca_isNaN_12338 qN_Jxf58ca qC_Jxf58ca_isNaN_12338 (na := 1) (by decide +kernel) ⟨by decide, by decide⟩) rfl rfl hl.1 rfl (Nat.le_of_ble_eq_true rfl) dJxf58ca_floatToIntBits_5c35a_1 ⟨Nat.le_refl _, Nat.le_refl _⟩ (fun H locs G => ?_)
  refine r_if_ne (tgt := 12) hx hb ⟨by decide, by decide⟩ dJxf58ca_floatToIntBits_5c35a_4 (by decide) (fun h => absurd rfl h) (fun _ => ?_)
  refine lv_fload_n hx hb dJxf58ca_floatToIntBits_5c35a_7 rfl (lv_at hl 0 rfl) ?_
  refine vn_f2i hx hb (hml.trans hl.1.symm) hown (hts _ qM_Jxf58ca_74) (hts _ qNat_Jxf58ca_floatToRawIntBits_FI) (hts _ qS_Jxf58ca_floatToRawIntBits_FI) (hts _ qN_Jxf58ca) (by decide) (by decide) dJxf58ca_floatToIntBits_5c35a_8 ?_
  rw [fB_i h.lt]
  exact r_iret hx hb hr hlk G rfl rfl dJxf58ca_floatToIntBits_5c35a_11
theorem k_X5_bitsD (l : Launch) {σ : Mem} {x : UInt64} (h : DP x) : CtL l yX5_bitsOf (Cond.code yX5_bitsOf cX5_bitsOf 10 (some .long)) 0 0 (fun z => [.double x, .int (kI 52), .int (kI 1023)]) σ (dB x) σ := by
  rcases h with rfl | ⟨E, U, h1, h2, h3, rfl⟩
  · exact k_X5_bitsOf0 l (fb := 52) (bi := 1023)
  · have e : dB (dw E U) = Int64.ofInt ((E * 2 ^ 52 : Nat) : Int) + Int64.ofInt (U : Int) := by
      unfold dB
      rw [dw_n h2 h3, ← Int64.ofInt_add]
      congr 1
    rw [e]
    exact k_X5_bitsOf l (σ := σ) (E := E) (U := U) (fb := 52) (bi := 1023) (X := E) (V := U) ⟨h1, h2⟩ h3 ⟨Or.inl rfl, by decide, by decide⟩ ⟨by omega, h1, by omega⟩ (by omega)
theorem k_X5_bitsF (l : Launch) {σ : Mem} {x : UInt32} (h : FPq x) : CtL l yX5_bitsOf (Cond.code yX5_bitsOf cX5_bitsOf 10 (some .long)) 0 0 (fun z => [.double (FP.f2d x), .int (kI 23), .int (kI 127)]) σ (fB x) σ := by
  rcases h with rfl | ⟨E, U, h1, h2, h3, rfl⟩
  · rw [f2d_0]; exact k_X5_bitsOf0 l (fb := 23) (bi := 127)
  · have e : fB (fw E U) = Int64.ofInt ((E * 2 ^ 23 : Nat) : Int) + Int64.ofInt (U : Int) := by
      unfold fB
      rw [fw_n (by omega) h3, ← Int64.ofInt_add]
      congr 1
    rw [e, f2d_fw h1 (by omega) h3]
    exact k_X5_bitsOf l (σ := σ) (E := E + 896) (U := U * 536870912) (fb := 23) (bi := 127) (X := E) (V := U) ⟨by omega, by omega⟩ (by omega) ⟨Or.inr rfl, by decide, by decide⟩ ⟨by omega, h1, by omega⟩ (by show _ = U * 2 ^ 29; omega)
/-! the digest, piece by piece -/
def dgF (f : Int → Int) (j : Int) (h : Int64) : Int64 := (31 : Int64) * h + (kI (f j)).toInt64
theorem dg_s {f : Int → Int} {a h : Int64} {i : Int} (h0 : 0 ≤ i) (hv : h = it (dgF f) a i) : (31 : Int64) * h + (kI (f i)).toInt64 = it (dgF f) a (i + 1) := by rw [it_s h0, ← hv]; rfl
theorem dg_e {f : Int → Int} {a h : Int64} {i n : Int} (hv : h = it (dgF f) a i) (e : i = n) : h = it (dgF f) a n := e ▸ hv
def ck1 (σ : Mem) (k : Int) (g : Int64) : Int64 := it (dgF (pkd σ k)) g 11
def ckF (σ : Mem) (k y : Int) (g : Int64) : Int64 := it (dgF (pok σ k y)) g 5
def ck2 (σ : Mem) (k : Int) (g : Int64) : Int64 := it (ckF σ k) (ck1 σ k g) 16
def ck3 (σ : Mem) (k : Int) (g : Int64) : Int64 := it (dgF (kat σ k)) (ck2 σ k g) 4
def ck5 (σ : Mem) (k : Int) (g : Int64) : Int64 := (31 : Int64) * ((31 : Int64) * ck3 σ k g + (kI (atr σ k)).toInt64) + (kI (dtk σ k)).toInt64
def ck6 (σ : Mem) (k : Int) (g : Int64) : Int64 := it (dgF (fun j => kor σ k (j + 1))) (ck5 σ k g) 3
def ckd (σ : Mem) (k : Int) (g : Int64) : Int64 := (31 : Int64) * ((31 : Int64) * ck6 σ k g + (kI (lgs σ k)).toInt64) + fB (mnW (dsm σ k) (hm σ k 2))
def cd1 (σ : Mem) : Int64 := it (dgF (nof σ)) 3361 10
def cd2 (σ : Mem) : Int64 := it (dgF (σ 14)) (cd1 σ) 3
def cd3 (σ : Mem) : Int64 := it (ckd σ) (cd2 σ) 4
def cd4 (σ : Mem) : Int64 := (31 : Int64) * ((31 : Int64) * cd3 σ + (kI (scz σ)).toInt64) + dB (shW (hra σ) (hma σ 2))
def cd5 (σ : Mem) : Int64 := it (dgF (σ 130)) (cd4 σ) 2
def cd6 (σ : Mem) : Int64 := (31 : Int64) * cd5 σ + (kI (σ 131 1)).toInt64
def cdg (σ : Mem) : Int64 := it (dgF (cat σ)) (cd6 σ) (σ 131 1)
theorem dsm_rg {σ : Mem} {k : Int} (hI : IC σ) (hk : 0 ≤ k ∧ k < 4) : 0 ≤ dsm σ k ∧ dsm σ k ≤ 159984 := by
  have h := it_inv (f := fun y v => if σ 4 (k * 16 + y) = 2 then v + (σ 2 0 - σ 7 (k * 16 + y)) else v) (a := (0 : Int)) (n := 16) (i := 16) (fun i v => 0 ≤ v ∧ v ≤ i * 9999) ⟨by decide, by decide⟩ (fun j v h0 h1 h2 => ?_) (by decide) (Int.le_refl _)
  · exact h
  · have hi := hI.2.2 (k * 16 + j) (by omega) (by omega)
    have hd := hI.1
    split <;> omega
set_option maxRecDepth 100000 in
set_option maxHeartbeats 4000000 in
theorem k_X5_mixKind (l : Launch) {σ : Mem} {g : Int64} {k : Int} (hk : 0 ≤ k ∧ k < 4) (hS : IS σ) : CtL l yX5_mixKind (Cond.code yX5_mixKind cX5_mixKind 8 (some .long)) 4 97 (fun z => [.ref (z + 0), .long g, .int (kI k)]) σ (ckd σ k g) σ := by
  intro D T z
  refine Ct_of (by decide) (Nat.le_of_ble_eq_true rfl) ?_
  intro p e s m below meth c ls hx hb hml hr hts hown hlk G hl
  have hown : s.vm.findClass RX5 = some m.cls := hown
  have hl : lv_has ls 8 [(0, .ref (z + 0)), (1, .long g), (3, .int (kI k))] := hl
  have hdr0 := dsm_rg hS.1 hk
  have hdr3 := hm_rg (σ := σ) (k := k) (w := 2)
  have hdr1 : 0 ≤ dsm σ k ∧ dsm σ k ≤ 2147483647 := by omega
  have hdr2 : 0 ≤ hm σ k 2 ∧ hm σ k 2 ≤ 2147483647 := by omega
  refine lv_lload_n hx hb dX5_mixKind_0 rfl (lv_at hl 1 rfl) ?_
  refine lv_lstore (lv' := [(4, .long g), (0, .ref (z + 0)), (1, .long g), (3, .int (kI k))]) hx hb dX5_mixKind_1 hl (by decide) rfl (fun ls hl => ?_)
  refine r_iconst hx hb dX5_mixKind_3 ?_
  refine lv_istore (lv' := [(6, .int (kI 0)), (4, .long g), (0, .ref (z + 0)), (1, .long g), (3, .int (kI k))]) hx hb dX5_mixKind_4 hl (by decide) rfl (fun ls hl => ?_)
  have lp6 : ∀ (d : Nat) (h : Int64) (i : Int), (0 ≤ i) → (i ≤ 11) → (h = it (dgF (pkd σ k)) g i) → (11 - i : Int) < (d : Int) → ∀ (H : Heap) (locs : List Loc), Wd D T z 139 σ s H locs → ∀ (ls : Array Slot), lv_has ls 8 [(0, .ref (z + 0)), (1, .long g), (3, .int (kI k)), (4, .long h), (6, .int (kI i))] → W p l e (rmN 4 97) s m ([.ref (z + 0), .long g, .int (kI k)] : List Value).toArray below meth c H locs 0 0 (MQ below (QL D T z 139 (ckd σ k g) σ) ([.ref (z + 0), .long g, .int (kI k)] : List Value).toArray s 0 0 (Own z)) (F0 m 6 ls []) := by
    intro d
    induction d with
    | zero => intro h i h0 h1 hv hd; exact absurd hd (by omega)
    | succ d ih6 =>
      intro h i h0 h1 hv hd H locs G ls hl
      refine lv_iload hx hb dX5_mixKind_6 (lv_at hl 4 rfl) ?_
      refine r_bipush hx hb dX5_mixKind_8 (by decide +kernel) ?_
      refine r_icmp_gt (tgt := 37) hx hb ⟨by omega, by omega⟩ ⟨by decide, by decide⟩ dX5_mixKind_10 (by decide) (fun h_1 => ?_) (fun h_1 => ?_)
      · skip
        refine r_iconst hx hb dX5_mixKind_37 ?_
        refine lv_istore (lv' := [(6, .int (kI 0)), (0, .ref (z + 0)), (1, .long g), (3, .int (kI k)), (4, .long h)]) hx hb dX5_mixKind_38 hl (by decide) rfl (fun ls hl => ?_)
        have lp40 : ∀ (d : Nat) (h2 : Int64) (y : Int), (0 ≤ y) → (y ≤ 16) → (h2 = it (ckF σ k) (ck1 σ k g) y) → (16 - y : Int) < (d : Int) → ∀ (H : Heap) (locs : List Loc), Wd D T z 139 σ s H locs → ∀ (ls : Array Slot), lv_has ls 8 [(0, .ref (z + 0)), (1, .long g), (3, .int (kI k)), (4, .long h2), (6, .int (kI y))] → W p l e (rmN 4 97) s m ([.ref (z + 0), .long g, .int (kI k)] : List Value).toArray below meth c H locs 0 0 (MQ below (QL D T z 139 (ckd σ k g) σ) ([.ref (z + 0), .long g, .int (kI k)] : List Value).toArray s 0 0 (Own z)) (F0 m 40 ls []) := by
          intro d
          induction d with
          | zero => intro h2 y a0 a1 hv2 hd; exact absurd hd (by omega)
          | succ d ih40 =>
            intro h2 y a0 a1 hv2 hd H locs G ls hl
            refine lv_iload hx hb dX5_mixKind_40 (lv_at hl 4 rfl) ?_
            refine r_bipush hx hb dX5_mixKind_42 (by decide +kernel) ?_
            refine r_icmp_ge (tgt := 91) hx hb ⟨by omega, by omega⟩ ⟨by decide, by decide⟩ dX5_mixKind_44 (by decide) (fun h_2 => ?_) (fun h_2 => ?_)
            · skip
              refine r_iconst hx hb dX5_mixKind_91 ?_
              refine lv_istore (lv' := [(6, .int (kI 0)), (0, .ref (z + 0)), (1, .long g), (3, .int (kI k)), (4, .long h2)]) hx hb dX5_mixKind_92 hl (by decide) rfl (fun ls hl => ?_)
              have lp94 : ∀ (d : Nat) (h4 : Int64) (q : Int), (0 ≤ q) → (q ≤ 4) → (h4 = it (dgF (kat σ k)) (ck2 σ k g) q) → (4 - q : Int) < (d : Int) → ∀ (H : Heap) (locs : List Loc), Wd D T z 139 σ s H locs → ∀ (ls : Array Slot), lv_has ls 8 [(0, .ref (z + 0)), (1, .long g), (3, .int (kI k)), (4, .long h4), (6, .int (kI q))] → W p l e (rmN 4 97) s m ([.ref (z + 0), .long g, .int (kI k)] : List Value).toArray below meth c H locs 0 0 (MQ below (QL D T z 139 (ckd σ k g) σ) ([.ref (z + 0), .long g, .int (kI k)] : List Value).toArray s 0 0 (Own z)) (F0 m 94 ls []) := by
                intro d
                induction d with
                | zero => intro h4 q c0 c1 hv4 hd; exact absurd hd (by omega)
                | succ d ih94 =>
                  intro h4 q c0 c1 hv4 hd H locs G ls hl
                  refine lv_iload hx hb dX5_mixKind_94 (lv_at hl 4 rfl) ?_
                  refine r_iconst hx hb dX5_mixKind_96 ?_
                  refine r_icmp_gt (tgt := 127) hx hb ⟨by omega, by omega⟩ ⟨by decide, by decide⟩ dX5_mixKind_97 (by decide) (fun h_3 => ?_) (fun h_3 => ?_)
                  · skip
                    refine lv_lload hx hb dX5_mixKind_127 (lv_at hl 3 rfl) ?_
                    refine lv_aload_n hx hb dX5_mixKind_129 rfl (lv_at hl 0 rfl) ?_
                    refine gf_X5_10 hx hb hts hown G dX5_mixKind_130 ?_
                    refine lv_iload_n hx hb dX5_mixKind_133 rfl (lv_at hl 2 rfl) ?_
                    refine r_callVI ⟨hx, hb, hml, hown, hts⟩ G (k_X1_answerToRow l (k := k) (σ := σ) (⟨by omega, by omega⟩) (hS)) (kV_X1_answerToRow hts qM_X5_188 ⟨by decide, by decide⟩) (rc_X1 G) rfl rfl hl.1 rfl (Nat.le_of_ble_eq_true rfl) dX5_mixKind_134 ⟨Nat.le_refl _, Nat.le_refl _⟩ (fun H locs G => ?_)
                    refine lv_i2l hx hb dX5_mixKind_137 rfl ?_
                    refine r_callSL ⟨hx, hb, hml, hown, hts⟩ G (k_X5_mix l (h := h4) (v := (kI (atr σ k)).toInt64) (σ := σ) ) (kS_X5_mix hts qM_X5_216 ⟨by decide, by decide⟩) rfl rfl hl.1 rfl (Nat.le_of_ble_eq_true rfl) dX5_mixKind_138 ⟨Nat.le_refl _, Nat.le_refl _⟩ (fun H locs G => ?_)
                    refine lv_lstore (lv' := [(4, .long ((31 : Int64) * h4 + ((kI (atr σ k)).toInt64))), (0, .ref (z + 0)), (1, .long g), (3, .int (kI k)), (6, .int (kI q))]) hx hb dX5_mixKind_141 hl (by decide) rfl (fun ls hl => ?_)
                    refine lv_lload hx hb dX5_mixKind_143 (lv_at hl 0 rfl) ?_
                    refine lv_aload_n hx hb dX5_mixKind_145 rfl (lv_at hl 1 rfl) ?_
                    refine gf_X5_10 hx hb hts hown G dX5_mixKind_146 ?_
                    refine gf_X5_80 hx hb hts hown G dX5_mixKind_149 ?_
                    refine lv_iload_n hx hb dX5_mixKind_152 rfl (lv_at hl 3 rfl) ?_
                    refine r_callVI ⟨hx, hb, hml, hown, hts⟩ G (k_X3_daysToKey l (k := k) (σ := σ) (⟨by omega, by omega⟩) (hS.1)) (kV_X3_daysToKey hts qM_X5_191 ⟨by decide, by decide⟩) (rc_X3 G) rfl rfl hl.1 rfl (Nat.le_of_ble_eq_true rfl) dX5_mixKind_153 ⟨Nat.le_refl _, Nat.le_refl _⟩ (fun H locs G => ?_)
                    refine lv_i2l hx hb dX5_mixKind_156 rfl ?_
                    refine r_callSL ⟨hx, hb, hml, hown, hts⟩ G (k_X5_mix l (h := (31 : Int64) * h4 + ((kI (atr σ k)).toInt64)) (v := (kI (dtk σ k)).toInt64) (σ := σ) ) (kS_X5_mix hts qM_X5_216 ⟨by decide, by decide⟩) rfl rfl hl.1 rfl (Nat.le_of_ble_eq_true rfl) dX5_mixKind_157 ⟨Nat.le_refl _, Nat.le_refl _⟩ (fun H locs G => ?_)
                    refine lv_lstore (lv' := [(4, .long ((31 : Int64) * ((31 : Int64) * h4 + ((kI (atr σ k)).toInt64)) + ((kI (dtk σ k)).toInt64))), (0, .ref (z + 0)), (1, .long g), (3, .int (kI k)), (6, .int (kI q))]) hx hb dX5_mixKind_160 hl (by decide) rfl (fun ls hl => ?_)
                    refine r_iconst hx hb dX5_mixKind_162 ?_
                    refine lv_istore (lv' := [(6, .int (kI 1)), (4, .long ((31 : Int64) * ((31 : Int64) * h4 + ((kI (atr σ k)).toInt64)) + ((kI (dtk σ k)).toInt64))), (0, .ref (z + 0)), (1, .long g), (3, .int (kI k))]) hx hb dX5_mixKind_163 hl (by decide) rfl (fun ls hl => ?_)
                    have lp165 : ∀ (d : Nat) (h5 : Int64) (n : Int), (1 ≤ n) → (n ≤ 4) → (h5 = it (dgF (fun j => kor σ k (j + 1))) (ck5 σ k g) (n - 1)) → (4 - n : Int) < (d : Int) → ∀ (H : Heap) (locs : List Loc), Wd D T z 139 σ s H locs → ∀ (ls : Array Slot), lv_has ls 8 [(0, .ref (z + 0)), (1, .long g), (3, .int (kI k)), (4, .long h5), (6, .int (kI n))] → W p l e (rmN 4 97) s m ([.ref (z + 0), .long g, .int (kI k)] : List Value).toArray below meth c H locs 0 0 (MQ below (QL D T z 139 (ckd σ k g) σ) ([.ref (z + 0), .long g, .int (kI k)] : List Value).toArray s 0 0 (Own z)) (F0 m 165 ls []) := by
                      intro d
                      induction d with
                      | zero => intro h5 n e0 e1 hv5 hd; exact absurd hd (by omega)
                      | succ d ih165 =>
                        intro h5 n e0 e1 hv5 hd H locs G ls hl
                        refine lv_iload hx hb dX5_mixKind_165 (lv_at hl 4 rfl) ?_
                        refine r_iconst hx hb dX5_mixKind_167 ?_
                        refine r_icmp_gt (tgt := 195) hx hb ⟨by omega, by omega⟩ ⟨by decide, by decide⟩ dX5_mixKind_168 (by decide) (fun h_4 => ?_) (fun h_4 => ?_)
                        · skip
                          have hd5 : h5 = ck6 σ k g := dg_e hv5 (by omega)
                          refine lv_lload hx hb dX5_mixKind_195 (lv_at hl 3 rfl) ?_
                          refine lv_aload_n hx hb dX5_mixKind_197 rfl (lv_at hl 0 rfl) ?_
                          refine gf_X5_10 hx hb hts hown G dX5_mixKind_198 ?_
                          refine gf_X5_80 hx hb hts hown G dX5_mixKind_201 ?_
                          refine lv_iload_n hx hb dX5_mixKind_204 rfl (lv_at hl 2 rfl) ?_
                          refine r_callVI ⟨hx, hb, hml, hown, hts⟩ G (k_X3_longestSeason l (k := k) (σ := σ) (⟨by omega, by omega⟩) (hS.1)) (kV_X3_longestSeason hts qM_X5_197 ⟨by decide, by decide⟩) (rc_X3 G) rfl rfl hl.1 rfl (Nat.le_of_ble_eq_true rfl) dX5_mixKind_205 ⟨Nat.le_refl _, Nat.le_refl _⟩ (fun H locs G => ?_)
                          refine lv_i2l hx hb dX5_mixKind_208 rfl ?_
                          refine r_callSL ⟨hx, hb, hml, hown, hts⟩ G (k_X5_mix l (h := h5) (v := (kI (lgs σ k)).toInt64) (σ := σ) ) (kS_X5_mix hts qM_X5_216 ⟨by decide, by decide⟩) rfl rfl hl.1 rfl (Nat.le_of_ble_eq_true rfl) dX5_mixKind_209 ⟨Nat.le_refl _, Nat.le_refl _⟩ (fun H locs G => ?_)
                          refine lv_lstore (lv' := [(4, .long ((31 : Int64) * h5 + ((kI (lgs σ k)).toInt64))), (0, .ref (z + 0)), (1, .long g), (3, .int (kI k)), (6, .int (kI n))]) hx hb dX5_mixKind_212 hl (by decide) rfl (fun ls hl => ?_)
                          refine lv_lload hx hb dX5_mixKind_214 (lv_at hl 0 rfl) ?_
                          refine lv_aload_n hx hb dX5_mixKind_216 rfl (lv_at hl 1 rfl) ?_
                          refine gf_X5_10 hx hb hts hown G dX5_mixKind_217 ?_
                          refine gf_X5_80 hx hb hts hown G dX5_mixKind_220 ?_
                          refine lv_iload_n hx hb dX5_mixKind_223 rfl (lv_at hl 3 rfl) ?_
                          refine r_callVF ⟨hx, hb, hml, hown, hts⟩ G (k_X3_meanDays l (k := k) (σ := σ) (⟨by omega, by omega⟩) (hS.1)) (kV_X3_meanDays hts qM_X5_210 ⟨by decide, by decide⟩) (rc_X3 G) rfl rfl hl.1 rfl (Nat.le_of_ble_eq_true rfl) dX5_mixKind_224 ⟨Nat.le_refl _, Nat.le_refl _⟩ (fun H locs G => ?_)
                          refine lv_f2d hx hb dX5_mixKind_227 ((mnW_ok hdr1 hdr2).n2) ?_
                          refine r_bipush hx hb dX5_mixKind_228 (by decide +kernel) ?_
                          refine r_bipush hx hb dX5_mixKind_230 (by decide +kernel) ?_
                          refine r_callSL ⟨hx, hb, hml, hown, hts⟩ G (k_X5_bitsF l (σ := σ) (mnW_ok hdr1 hdr2)) (kS_X5_bitsOf hts qM_X5_224 ⟨by decide, by decide⟩) rfl rfl hl.1 rfl (Nat.le_of_ble_eq_true rfl) dX5_mixKind_232 ⟨Nat.le_refl _, Nat.le_refl _⟩ (fun H locs G => ?_)
                          refine r_callSL ⟨hx, hb, hml, hown, hts⟩ G (k_X5_mix l (h := (31 : Int64) * h5 + ((kI (lgs σ k)).toInt64)) (v := fB (mnW (dsm σ k) (hm σ k 2))) (σ := σ) ) (kS_X5_mix hts qM_X5_216 ⟨by decide, by decide⟩) rfl rfl hl.1 rfl (Nat.le_of_ble_eq_true rfl) dX5_mixKind_235 ⟨Nat.le_refl _, Nat.le_refl _⟩ (fun H locs G => ?_)
                          exact r_lret hx hb hr hlk G (by rw [hd5]; rfl) (by rfl) dX5_mixKind_238
                        · skip
                          refine lv_lload hx hb dX5_mixKind_171 (lv_at hl 3 rfl) ?_
                          refine lv_aload_n hx hb dX5_mixKind_173 rfl (lv_at hl 0 rfl) ?_
                          refine gf_X5_10 hx hb hts hown G dX5_mixKind_174 ?_
                          refine lv_iload_n hx hb dX5_mixKind_177 rfl (lv_at hl 2 rfl) ?_
                          refine lv_iload hx hb dX5_mixKind_178 (lv_at hl 4 rfl) ?_
                          refine r_callVI ⟨hx, hb, hml, hown, hts⟩ G (k_X1_keyOfRow l (k := k) (n := n) (σ := σ) (⟨by omega, by omega⟩) (⟨by omega, by omega⟩) (hS)) (kV_X1_keyOfRow hts qM_X5_194 ⟨by decide, by decide⟩) (rc_X1 G) rfl rfl hl.1 rfl (Nat.le_of_ble_eq_true rfl) dX5_mixKind_180 ⟨Nat.le_refl _, Nat.le_refl _⟩ (fun H locs G => ?_)
                          refine lv_i2l hx hb dX5_mixKind_183 rfl ?_
                          refine r_callSL ⟨hx, hb, hml, hown, hts⟩ G (k_X5_mix l (h := h5) (v := (kI (kor σ k n)).toInt64) (σ := σ) ) (kS_X5_mix hts qM_X5_216 ⟨by decide, by decide⟩) rfl rfl hl.1 rfl (Nat.le_of_ble_eq_true rfl) dX5_mixKind_184 ⟨Nat.le_refl _, Nat.le_refl _⟩ (fun H locs G => ?_)
                          refine lv_lstore (lv' := [(4, .long ((31 : Int64) * h5 + ((kI (kor σ k n)).toInt64))), (0, .ref (z + 0)), (1, .long g), (3, .int (kI k)), (6, .int (kI n))]) hx hb dX5_mixKind_187 hl (by decide) rfl (fun ls hl => ?_)
                          refine r_iinc (lv' := [(6, .int (kI (n + 1))), (4, .long ((31 : Int64) * h5 + ((kI (kor σ k n)).toInt64))), (0, .ref (z + 0)), (1, .long g), (3, .int (kI k))]) hx hb dX5_mixKind_189 hl (k := 4) rfl (by decide) rfl (fun ls hl => ?_)
                          refine lv_goto (tgt := 165) hx hb dX5_mixKind_192 (by decide) ?_
                          exact ih165 ((31 : Int64) * h5 + ((kI (kor σ k n)).toInt64)) (n + 1) (by omega) (by omega) (by have e := dg_s (by omega) hv5; rw [show n - 1 + 1 = n by omega] at e; rw [show n + 1 - 1 = n by omega]; exact e) (by omega) _ _ G _ (lv_sub hl [2, 3, 4, 1, 0] rfl)
                    have hd4 : h4 = ck3 σ k g := dg_e hv4 (by omega)
                    exact lp165 4 ((31 : Int64) * ((31 : Int64) * h4 + ((kI (atr σ k)).toInt64)) + ((kI (dtk σ k)).toInt64)) 1 (by omega) (by omega) (by rw [hd4]; rfl) (by omega) _ _ G _ (lv_sub hl [2, 3, 4, 1, 0] rfl)
                  · skip
                    refine lv_lload hx hb dX5_mixKind_100 (lv_at hl 3 rfl) ?_
                    refine lv_aload_n hx hb dX5_mixKind_102 rfl (lv_at hl 0 rfl) ?_
                    refine gf_X5_10 hx hb hts hown G dX5_mixKind_103 ?_
                    refine gf_X5_80 hx hb hts hown G dX5_mixKind_106 ?_
                    refine lv_iload_n hx hb dX5_mixKind_109 rfl (lv_at hl 2 rfl) ?_
                    refine lv_iload hx hb dX5_mixKind_110 (lv_at hl 4 rfl) ?_
                    refine r_callVI ⟨hx, hb, hml, hown, hts⟩ G (k_X3_keyAt l (k := k) (q := q) (σ := σ) (⟨by omega, by omega⟩) (⟨by omega, by omega⟩) (hS.1)) (kV_X3_keyAt hts qM_X5_89 ⟨by decide, by decide⟩) (rc_X3 G) rfl rfl hl.1 rfl (Nat.le_of_ble_eq_true rfl) dX5_mixKind_112 ⟨Nat.le_refl _, Nat.le_refl _⟩ (fun H locs G => ?_)
                    refine lv_i2l hx hb dX5_mixKind_115 rfl ?_
                    refine r_callSL ⟨hx, hb, hml, hown, hts⟩ G (k_X5_mix l (h := h4) (v := (kI (kat σ k q)).toInt64) (σ := σ) ) (kS_X5_mix hts qM_X5_216 ⟨by decide, by decide⟩) rfl rfl hl.1 rfl (Nat.le_of_ble_eq_true rfl) dX5_mixKind_116 ⟨Nat.le_refl _, Nat.le_refl _⟩ (fun H locs G => ?_)
                    refine lv_lstore (lv' := [(4, .long ((31 : Int64) * h4 + ((kI (kat σ k q)).toInt64))), (0, .ref (z + 0)), (1, .long g), (3, .int (kI k)), (6, .int (kI q))]) hx hb dX5_mixKind_119 hl (by decide) rfl (fun ls hl => ?_)
                    refine r_iinc (lv' := [(6, .int (kI (q + 1))), (4, .long ((31 : Int64) * h4 + ((kI (kat σ k q)).toInt64))), (0, .ref (z + 0)), (1, .long g), (3, .int (kI k))]) hx hb dX5_mixKind_121 hl (k := 4) rfl (by decide) rfl (fun ls hl => ?_)
                    refine lv_goto (tgt := 94) hx hb dX5_mixKind_124 (by decide) ?_
                    exact ih94 ((31 : Int64) * h4 + ((kI (kat σ k q)).toInt64)) (q + 1) (by omega) (by omega) (dg_s c0 hv4) (by omega) _ _ G _ (lv_sub hl [2, 3, 4, 1, 0] rfl)
              have hd3 : h2 = ck2 σ k g := by rw [hv2, show y = 16 by omega]; rfl
              exact lp94 5 h2 0 (by omega) (by omega) (hd3) (by omega) _ _ G _ (lv_sub hl [1, 2, 3, 4, 0] rfl)
            · skip
              refine r_iconst hx hb dX5_mixKind_47 ?_
              refine lv_istore (lv' := [(7, .int (kI 0)), (0, .ref (z + 0)), (1, .long g), (3, .int (kI k)), (4, .long h2), (6, .int (kI y))]) hx hb dX5_mixKind_48 hl (by decide) rfl (fun ls hl => ?_)
              have lp50 : ∀ (d : Nat) (h3 : Int64) (w : Int), (0 ≤ w) → (w ≤ 5) → (h3 = it (dgF (pok σ k y)) h2 w) → (5 - w : Int) < (d : Int) → ∀ (H : Heap) (locs : List Loc), Wd D T z 139 σ s H locs → ∀ (ls : Array Slot), lv_has ls 8 [(0, .ref (z + 0)), (1, .long g), (3, .int (kI k)), (4, .long h3), (6, .int (kI y)), (7, .int (kI w))] → W p l e (rmN 4 97) s m ([.ref (z + 0), .long g, .int (kI k)] : List Value).toArray below meth c H locs 0 0 (MQ below (QL D T z 139 (ckd σ k g) σ) ([.ref (z + 0), .long g, .int (kI k)] : List Value).toArray s 0 0 (Own z)) (F0 m 50 ls []) := by
                intro d
                induction d with
                | zero => intro h3 w b0 b1 hv3 hd; exact absurd hd (by omega)
                | succ d ih50 =>
                  intro h3 w b0 b1 hv3 hd H locs G ls hl
                  refine lv_iload hx hb dX5_mixKind_50 (lv_at hl 5 rfl) ?_
                  refine r_iconst hx hb dX5_mixKind_52 ?_
                  refine r_icmp_gt (tgt := 85) hx hb ⟨by omega, by omega⟩ ⟨by decide, by decide⟩ dX5_mixKind_53 (by decide) (fun h_5 => ?_) (fun h_5 => ?_)
                  · skip
                    have hd2 : h3 = it (ckF σ k) (ck1 σ k g) (y + 1) := by rw [it_s a0, ← hv2, hv3, show w = 5 by omega]; rfl
                    refine r_iinc (lv' := [(6, .int (kI (y + 1))), (0, .ref (z + 0)), (1, .long g), (3, .int (kI k)), (4, .long h3), (7, .int (kI w))]) hx hb dX5_mixKind_85 hl (k := 4) rfl (by decide) rfl (fun ls hl => ?_)
                    refine lv_goto (tgt := 40) hx hb dX5_mixKind_88 (by decide) ?_
                    exact ih40 h3 (y + 1) (by omega) (by omega) (hd2) (by omega) _ _ G _ (lv_sub hl [1, 2, 3, 4, 0] rfl)
                  · skip
                    refine lv_lload hx hb dX5_mixKind_56 (lv_at hl 3 rfl) ?_
                    refine lv_aload_n hx hb dX5_mixKind_58 rfl (lv_at hl 0 rfl) ?_
                    refine gf_X5_10 hx hb hts hown G dX5_mixKind_59 ?_
                    refine gf_X5_80 hx hb hts hown G dX5_mixKind_62 ?_
                    refine lv_iload_n hx hb dX5_mixKind_65 rfl (lv_at hl 2 rfl) ?_
                    refine lv_iload hx hb dX5_mixKind_66 (lv_at hl 4 rfl) ?_
                    refine lv_iload hx hb dX5_mixKind_68 (lv_at hl 5 rfl) ?_
                    refine r_callVI ⟨hx, hb, hml, hown, hts⟩ G (k_X3_propertyOfKey l (k := k) (y := y) (w := w) (σ := σ) (⟨by omega, by omega⟩) (⟨by omega, by omega⟩) (⟨by omega, by omega⟩) (hS.1)) (kV_X3_propertyOfKey hts qM_X5_179 ⟨by decide, by decide⟩) (rc_X3 G) rfl rfl hl.1 rfl (Nat.le_of_ble_eq_true rfl) dX5_mixKind_70 ⟨Nat.le_refl _, Nat.le_refl _⟩ (fun H locs G => ?_)
                    refine lv_i2l hx hb dX5_mixKind_73 rfl ?_
                    refine r_callSL ⟨hx, hb, hml, hown, hts⟩ G (k_X5_mix l (h := h3) (v := (kI (pok σ k y w)).toInt64) (σ := σ) ) (kS_X5_mix hts qM_X5_216 ⟨by decide, by decide⟩) rfl rfl hl.1 rfl (Nat.le_of_ble_eq_true rfl) dX5_mixKind_74 ⟨Nat.le_refl _, Nat.le_refl _⟩ (fun H locs G => ?_)
                    refine lv_lstore (lv' := [(4, .long ((31 : Int64) * h3 + ((kI (pok σ k y w)).toInt64))), (0, .ref (z + 0)), (1, .long g), (3, .int (kI k)), (6, .int (kI y)), (7, .int (kI w))]) hx hb dX5_mixKind_77 hl (by decide) rfl (fun ls hl => ?_)
                    refine r_iinc (lv' := [(7, .int (kI (w + 1))), (4, .long ((31 : Int64) * h3 + ((kI (pok σ k y w)).toInt64))), (0, .ref (z + 0)), (1, .long g), (3, .int (kI k)), (6, .int (kI y))]) hx hb dX5_mixKind_79 hl (k := 5) rfl (by decide) rfl (fun ls hl => ?_)
                    refine lv_goto (tgt := 50) hx hb dX5_mixKind_82 (by decide) ?_
                    exact ih50 ((31 : Int64) * h3 + ((kI (pok σ k y w)).toInt64)) (w + 1) (by omega) (by omega) (dg_s b0 hv3) (by omega) _ _ G _ (lv_sub hl [2, 3, 4, 1, 5, 0] rfl)
              exact lp50 6 h2 0 (by omega) (by omega) (rfl) (by omega) _ _ G _ (lv_sub hl [1, 2, 3, 4, 5, 0] rfl)
        have hd1 : h = ck1 σ k g := dg_e hv (by omega)
        exact lp40 17 h 0 (by omega) (by omega) (hd1) (by omega) _ _ G _ (lv_sub hl [1, 2, 3, 4, 0] rfl)
      · skip
        refine lv_lload hx hb dX5_mixKind_13 (lv_at hl 3 rfl) ?_
        refine lv_aload_n hx hb dX5_mixKind_15 rfl (lv_at hl 0 rfl) ?_
        refine gf_X5_10 hx hb hts hown G dX5_mixKind_16 ?_
        refine lv_iload_n hx hb dX5_mixKind_19 rfl (lv_at hl 2 rfl) ?_
        refine lv_iload hx hb dX5_mixKind_20 (lv_at hl 4 rfl) ?_
        refine r_callVI ⟨hx, hb, hml, hown, hts⟩ G (k_X1_propertyOfKind l (k := k) (w := i) (σ := σ) (⟨by omega, by omega⟩) (⟨by omega, by omega⟩) (hS)) (kV_X1_propertyOfKind hts qM_X5_182 ⟨by decide, by decide⟩) (rc_X1 G) rfl rfl hl.1 rfl (Nat.le_of_ble_eq_true rfl) dX5_mixKind_22 ⟨Nat.le_refl _, Nat.le_refl _⟩ (fun H locs G => ?_)
        refine lv_i2l hx hb dX5_mixKind_25 rfl ?_
        refine r_callSL ⟨hx, hb, hml, hown, hts⟩ G (k_X5_mix l (h := h) (v := (kI (pkd σ k i)).toInt64) (σ := σ) ) (kS_X5_mix hts qM_X5_216 ⟨by decide, by decide⟩) rfl rfl hl.1 rfl (Nat.le_of_ble_eq_true rfl) dX5_mixKind_26 ⟨Nat.le_refl _, Nat.le_refl _⟩ (fun H locs G => ?_)
        refine lv_lstore (lv' := [(4, .long ((31 : Int64) * h + ((kI (pkd σ k i)).toInt64))), (0, .ref (z + 0)), (1, .long g), (3, .int (kI k)), (6, .int (kI i))]) hx hb dX5_mixKind_29 hl (by decide) rfl (fun ls hl => ?_)
        refine r_iinc (lv' := [(6, .int (kI (i + 1))), (4, .long ((31 : Int64) * h + ((kI (pkd σ k i)).toInt64))), (0, .ref (z + 0)), (1, .long g), (3, .int (kI k))]) hx hb dX5_mixKind_31 hl (k := 4) rfl (by decide) rfl (fun ls hl => ?_)
        refine lv_goto (tgt := 6) hx hb dX5_mixKind_34 (by decide) ?_
        exact ih6 ((31 : Int64) * h + ((kI (pkd σ k i)).toInt64)) (i + 1) (by omega) (by omega) (dg_s h0 hv) (by omega) _ _ G _ (lv_sub hl [2, 3, 4, 1, 0] rfl)
  exact lp6 12 g 0 (by omega) (by omega) (rfl) (by omega) _ _ G _ (lv_sub hl [2, 3, 4, 1, 0] rfl)
set_option maxRecDepth 100000 in
set_option maxHeartbeats 4000000 in
theorem k_X5_digest (l : Launch) {σ : Mem} (hS : IS σ) (hT : IT σ) (hKc : ∀ q, 0 ≤ q → q ≤ 1 → σ 130 q = 0 ∨ σ 130 q = 1) : CtL l yX5_digest (Cond.code yX5_digest cX5_digest 4 (some .long)) 5 124 (fun z => [.ref (z + 0)]) σ (cdg σ) σ := by
  intro D T z
  refine Ct_of (by decide) (Nat.le_of_ble_eq_true rfl) ?_
  intro p e s m below meth c ls hx hb hml hr hts hown hlk G hl
  have hown : s.vm.findClass RX5 = some m.cls := hown
  have hl : lv_has ls 4 [(0, .ref (z + 0))] := hl
  have hT0 := hT.1
  have hra0 := hra_rg (σ := σ)
  have hma0 := hma_rg (σ := σ) (w := 2)
  have hsr1 : 0 ≤ hra σ ∧ hra σ ≤ 2147483647 := by omega
  have hsr2 : 0 ≤ hma σ 2 ∧ hma σ 2 ≤ 2147483647 := by omega
  refine lv_ldc2 hx hb hown (hts _ qCon_X5_214) dX5_digest_0 ?_
  refine lv_lstore_n (lv' := [(1, .long (3361 : Int64)), (0, .ref (z + 0))]) hx hb dX5_digest_3 rfl hl (by decide) rfl (fun ls hl => ?_)
  refine r_iconst hx hb dX5_digest_4 ?_
  refine lv_istore_n (lv' := [(3, .int (kI 0)), (1, .long (3361 : Int64)), (0, .ref (z + 0))]) hx hb dX5_digest_5 rfl hl (by decide) rfl (fun ls hl => ?_)
  have lp6 : ∀ (d : Nat) (h : Int64) (i : Int), (0 ≤ i) → (i ≤ 10) → (h = it (dgF (nof σ)) 3361 i) → (10 - i : Int) < (d : Int) → ∀ (H : Heap) (locs : List Loc), Wd D T z 139 σ s H locs → ∀ (ls : Array Slot), lv_has ls 4 [(0, .ref (z + 0)), (1, .long h), (3, .int (kI i))] → W p l e (rmN 5 124) s m ([.ref (z + 0)] : List Value).toArray below meth c H locs 0 0 (MQ below (QL D T z 139 (cdg σ) σ) ([.ref (z + 0)] : List Value).toArray s 0 0 (Own z)) (F0 m 6 ls []) := by
    intro d
    induction d with
    | zero => intro h i h0 h1 hv hd; exact absurd hd (by omega)
    | succ d ih6 =>
      intro h i h0 h1 hv hd H locs G ls hl
      refine lv_iload_n hx hb dX5_digest_6 rfl (lv_at hl 2 rfl) ?_
      refine r_bipush hx hb dX5_digest_7 (by decide +kernel) ?_
      refine r_icmp_gt (tgt := 29) hx hb ⟨by omega, by omega⟩ ⟨by decide, by decide⟩ dX5_digest_9 (by decide) (fun h_1 => ?_) (fun h_1 => ?_)
      · skip
        refine r_iconst hx hb dX5_digest_29 ?_
        refine lv_istore_n (lv' := [(3, .int (kI 0)), (0, .ref (z + 0)), (1, .long h)]) hx hb dX5_digest_30 rfl hl (by decide) rfl (fun ls hl => ?_)
        have lp31 : ∀ (d : Nat) (h2 : Int64) (q : Int), (0 ≤ q) → (q ≤ 3) → (h2 = it (dgF (σ 14)) (cd1 σ) q) → (3 - q : Int) < (d : Int) → ∀ (H : Heap) (locs : List Loc), Wd D T z 139 σ s H locs → ∀ (ls : Array Slot), lv_has ls 4 [(0, .ref (z + 0)), (1, .long h2), (3, .int (kI q))] → W p l e (rmN 5 124) s m ([.ref (z + 0)] : List Value).toArray below meth c H locs 0 0 (MQ below (QL D T z 139 (cdg σ) σ) ([.ref (z + 0)] : List Value).toArray s 0 0 (Own z)) (F0 m 31 ls []) := by
          intro d
          induction d with
          | zero => intro h2 q a0 a1 hv2 hd; exact absurd hd (by omega)
          | succ d ih31 =>
            intro h2 q a0 a1 hv2 hd H locs G ls hl
            refine lv_iload_n hx hb dX5_digest_31 rfl (lv_at hl 2 rfl) ?_
            refine r_iconst hx hb dX5_digest_32 ?_
            refine r_icmp_ge (tgt := 57) hx hb ⟨by omega, by omega⟩ ⟨by decide, by decide⟩ dX5_digest_33 (by decide) (fun h_2 => ?_) (fun h_2 => ?_)
            · skip
              refine r_iconst hx hb dX5_digest_57 ?_
              refine lv_istore_n (lv' := [(3, .int (kI 0)), (0, .ref (z + 0)), (1, .long h2)]) hx hb dX5_digest_58 rfl hl (by decide) rfl (fun ls hl => ?_)
              have lp59 : ∀ (d : Nat) (h3 : Int64) (k : Int), (0 ≤ k) → (k ≤ 4) → (h3 = it (ckd σ) (cd2 σ) k) → (4 - k : Int) < (d : Int) → ∀ (H : Heap) (locs : List Loc), Wd D T z 139 σ s H locs → ∀ (ls : Array Slot), lv_has ls 4 [(0, .ref (z + 0)), (1, .long h3), (3, .int (kI k))] → W p l e (rmN 5 124) s m ([.ref (z + 0)] : List Value).toArray below meth c H locs 0 0 (MQ below (QL D T z 139 (cdg σ) σ) ([.ref (z + 0)] : List Value).toArray s 0 0 (Own z)) (F0 m 59 ls []) := by
                intro d
                induction d with
                | zero => intro h3 k b0 b1 hv3 hd; exact absurd hd (by omega)
                | succ d ih59 =>
                  intro h3 k b0 b1 hv3 hd H locs G ls hl
                  refine lv_iload_n hx hb dX5_digest_59 rfl (lv_at hl 2 rfl) ?_
                  refine r_iconst hx hb dX5_digest_60 ?_
                  refine r_icmp_ge (tgt := 77) hx hb ⟨by omega, by omega⟩ ⟨by decide, by decide⟩ dX5_digest_61 (by decide) (fun h_3 => ?_) (fun h_3 => ?_)
                  · skip
                    refine lv_lload_n hx hb dX5_digest_77 rfl (lv_at hl 1 rfl) ?_
                    refine lv_aload_n hx hb dX5_digest_78 rfl (lv_at hl 0 rfl) ?_
                    refine gf_X5_10 hx hb hts hown G dX5_digest_79 ?_
                    refine gf_X5_80 hx hb hts hown G dX5_digest_82 ?_
                    refine r_callVI ⟨hx, hb, hml, hown, hts⟩ G (k_X3_scarcestKind l (σ := σ) (hS.1)) (kV_X3_scarcestKind hts qM_X5_203 ⟨by decide, by decide⟩) (rc_X3 G) rfl rfl hl.1 rfl (Nat.le_of_ble_eq_true rfl) dX5_digest_85 ⟨Nat.le_refl _, Nat.le_refl _⟩ (fun H locs G => ?_)
                    refine lv_i2l hx hb dX5_digest_88 rfl ?_
                    refine r_callSL ⟨hx, hb, hml, hown, hts⟩ G (k_X5_mix l (h := h3) (v := (kI (scz σ)).toInt64) (σ := σ) ) (kS_X5_mix hts qM_X5_216 ⟨by decide, by decide⟩) rfl rfl hl.1 rfl (Nat.le_of_ble_eq_true rfl) dX5_digest_89 ⟨Nat.le_refl _, Nat.le_refl _⟩ (fun H locs G => ?_)
                    refine lv_lstore_n (lv' := [(1, .long ((31 : Int64) * h3 + ((kI (scz σ)).toInt64))), (0, .ref (z + 0)), (3, .int (kI k))]) hx hb dX5_digest_92 rfl hl (by decide) rfl (fun ls hl => ?_)
                    refine lv_lload_n hx hb dX5_digest_93 rfl (lv_at hl 0 rfl) ?_
                    refine lv_aload_n hx hb dX5_digest_94 rfl (lv_at hl 1 rfl) ?_
                    refine gf_X5_10 hx hb hts hown G dX5_digest_95 ?_
                    refine gf_X5_80 hx hb hts hown G dX5_digest_98 ?_
                    refine r_callVD ⟨hx, hb, hml, hown, hts⟩ G (k_X3_shareOfRipe l (σ := σ) (hS.1)) (kV_X3_shareOfRipe hts qM_X5_206 ⟨by decide, by decide⟩) (rc_X3 G) rfl rfl hl.1 rfl (Nat.le_of_ble_eq_true rfl) dX5_digest_101 ⟨Nat.le_refl _, Nat.le_refl _⟩ (fun H locs G => ?_)
                    refine r_bipush hx hb dX5_digest_104 (by decide +kernel) ?_
                    refine r_sipush hx hb dX5_digest_106 (by decide +kernel) ?_
                    refine r_callSL ⟨hx, hb, hml, hown, hts⟩ G (k_X5_bitsD l (σ := σ) (shW_ok hsr1 hsr2)) (kS_X5_bitsOf hts qM_X5_224 ⟨by decide, by decide⟩) rfl rfl hl.1 rfl (Nat.le_of_ble_eq_true rfl) dX5_digest_109 ⟨Nat.le_refl _, Nat.le_refl _⟩ (fun H locs G => ?_)
                    refine r_callSL ⟨hx, hb, hml, hown, hts⟩ G (k_X5_mix l (h := (31 : Int64) * h3 + ((kI (scz σ)).toInt64)) (v := dB (shW (hra σ) (hma σ 2))) (σ := σ) ) (kS_X5_mix hts qM_X5_216 ⟨by decide, by decide⟩) rfl rfl hl.1 rfl (Nat.le_of_ble_eq_true rfl) dX5_digest_112 ⟨Nat.le_refl _, Nat.le_refl _⟩ (fun H locs G => ?_)
                    refine lv_lstore_n (lv' := [(1, .long ((31 : Int64) * ((31 : Int64) * h3 + ((kI (scz σ)).toInt64)) + (dB (shW (hra σ) (hma σ 2))))), (0, .ref (z + 0)), (3, .int (kI k))]) hx hb dX5_digest_115 rfl hl (by decide) rfl (fun ls hl => ?_)
                    refine r_iconst hx hb dX5_digest_116 ?_
                    refine lv_istore_n (lv' := [(3, .int (kI 0)), (1, .long ((31 : Int64) * ((31 : Int64) * h3 + ((kI (scz σ)).toInt64)) + (dB (shW (hra σ) (hma σ 2))))), (0, .ref (z + 0))]) hx hb dX5_digest_117 rfl hl (by decide) rfl (fun ls hl => ?_)
                    have lp118 : ∀ (d : Nat) (h5 : Int64) (j : Int), (0 ≤ j) → (j ≤ 2) → (h5 = it (dgF (σ 130)) (cd4 σ) j) → (2 - j : Int) < (d : Int) → ∀ (H : Heap) (locs : List Loc), Wd D T z 139 σ s H locs → ∀ (ls : Array Slot), lv_has ls 4 [(0, .ref (z + 0)), (1, .long h5), (3, .int (kI j))] → W p l e (rmN 5 124) s m ([.ref (z + 0)] : List Value).toArray below meth c H locs 0 0 (MQ below (QL D T z 139 (cdg σ) σ) ([.ref (z + 0)] : List Value).toArray s 0 0 (Own z)) (F0 m 118 ls []) := by
                      intro d
                      induction d with
                      | zero => intro h5 j c0 c1 hv5 hd; exact absurd hd (by omega)
                      | succ d ih118 =>
                        intro h5 j c0 c1 hv5 hd H locs G ls hl
                        refine lv_iload_n hx hb dX5_digest_118 rfl (lv_at hl 2 rfl) ?_
                        refine r_iconst hx hb dX5_digest_119 ?_
                        refine r_icmp_ge (tgt := 148) hx hb ⟨by omega, by omega⟩ ⟨by decide, by decide⟩ dX5_digest_120 (by decide) (fun h_4 => ?_) (fun h_4 => ?_)
                        · skip
                          refine lv_lload_n hx hb dX5_digest_148 rfl (lv_at hl 1 rfl) ?_
                          refine lv_aload_n hx hb dX5_digest_149 rfl (lv_at hl 0 rfl) ?_
                          refine gf_X5_34 hx hb hts hown G dX5_digest_150 ?_
                          refine gf_X5_141 hx hb hts hown G dX5_digest_153 ?_
                          refine lv_i2l hx hb dX5_digest_156 rfl ?_
                          refine r_callSL ⟨hx, hb, hml, hown, hts⟩ G (k_X5_mix l (h := h5) (v := (kI (σ 131 1)).toInt64) (σ := σ) ) (kS_X5_mix hts qM_X5_216 ⟨by decide, by decide⟩) rfl rfl hl.1 rfl (Nat.le_of_ble_eq_true rfl) dX5_digest_157 ⟨Nat.le_refl _, Nat.le_refl _⟩ (fun H locs G => ?_)
                          refine lv_lstore_n (lv' := [(1, .long ((31 : Int64) * h5 + ((kI (σ 131 1)).toInt64))), (0, .ref (z + 0)), (3, .int (kI j))]) hx hb dX5_digest_160 rfl hl (by decide) rfl (fun ls hl => ?_)
                          refine r_iconst hx hb dX5_digest_161 ?_
                          refine lv_istore_n (lv' := [(3, .int (kI 0)), (1, .long ((31 : Int64) * h5 + ((kI (σ 131 1)).toInt64))), (0, .ref (z + 0))]) hx hb dX5_digest_162 rfl hl (by decide) rfl (fun ls hl => ?_)
                          have lp163 : ∀ (d : Nat) (h6 : Int64) (n : Int), (0 ≤ n) → (n ≤ σ 131 1) → (h6 = it (dgF (cat σ)) (cd6 σ) n) → (σ 131 1 - n : Int) < (d : Int) → ∀ (H : Heap) (locs : List Loc), Wd D T z 139 σ s H locs → ∀ (ls : Array Slot), lv_has ls 4 [(0, .ref (z + 0)), (1, .long h6), (3, .int (kI n))] → W p l e (rmN 5 124) s m ([.ref (z + 0)] : List Value).toArray below meth c H locs 0 0 (MQ below (QL D T z 139 (cdg σ) σ) ([.ref (z + 0)] : List Value).toArray s 0 0 (Own z)) (F0 m 163 ls []) := by
                            intro d
                            induction d with
                            | zero => intro h6 n e0 e1 hv6 hd; exact absurd hd (by omega)
                            | succ d ih163 =>
                              intro h6 n e0 e1 hv6 hd H locs G ls hl
                              refine lv_iload_n hx hb dX5_digest_163 rfl (lv_at hl 2 rfl) ?_
                              refine lv_aload_n hx hb dX5_digest_164 rfl (lv_at hl 0 rfl) ?_
                              refine gf_X5_34 hx hb hts hown G dX5_digest_165 ?_
                              refine gf_X5_141 hx hb hts hown G dX5_digest_168 ?_
                              refine r_icmp_ge (tgt := 194) hx hb ⟨by omega, by omega⟩ ⟨by omega, by omega⟩ dX5_digest_171 (by decide) (fun h_5 => ?_) (fun h_5 => ?_)
                              · skip
                                refine lv_lload_n hx hb dX5_digest_194 rfl (lv_at hl 1 rfl) ?_
                                exact r_lret hx hb hr hlk G (by rw [hv6, show n = σ 131 1 by omega]; rfl) (by rfl) dX5_digest_195
                              · skip
                                refine lv_lload_n hx hb dX5_digest_174 rfl (lv_at hl 1 rfl) ?_
                                refine lv_aload_n hx hb dX5_digest_175 rfl (lv_at hl 0 rfl) ?_
                                refine gf_X5_34 hx hb hts hown G dX5_digest_176 ?_
                                refine lv_iload_n hx hb dX5_digest_179 rfl (lv_at hl 2 rfl) ?_
                                refine r_callVI ⟨hx, hb, hml, hown, hts⟩ G (k_X2_codeAt l (q := n) (σ := σ) (⟨by omega, by omega⟩) (hT)) (kV_X2_codeAt hts qM_X5_228 ⟨by decide, by decide⟩) (rc_X2 G) rfl rfl hl.1 rfl (Nat.le_of_ble_eq_true rfl) dX5_digest_180 ⟨Nat.le_refl _, Nat.le_refl _⟩ (fun H locs G => ?_)
                                refine lv_i2l hx hb dX5_digest_183 rfl ?_
                                refine r_callSL ⟨hx, hb, hml, hown, hts⟩ G (k_X5_mix l (h := h6) (v := (kI (cat σ n)).toInt64) (σ := σ) ) (kS_X5_mix hts qM_X5_216 ⟨by decide, by decide⟩) rfl rfl hl.1 rfl (Nat.le_of_ble_eq_true rfl) dX5_digest_184 ⟨Nat.le_refl _, Nat.le_refl _⟩ (fun H locs G => ?_)
                                refine lv_lstore_n (lv' := [(1, .long ((31 : Int64) * h6 + ((kI (cat σ n)).toInt64))), (0, .ref (z + 0)), (3, .int (kI n))]) hx hb dX5_digest_187 rfl hl (by decide) rfl (fun ls hl => ?_)
                                refine r_iinc (lv' := [(3, .int (kI (n + 1))), (1, .long ((31 : Int64) * h6 + ((kI (cat σ n)).toInt64))), (0, .ref (z + 0))]) hx hb dX5_digest_188 hl (k := 2) rfl (by decide) rfl (fun ls hl => ?_)
                                refine lv_goto (tgt := 163) hx hb dX5_digest_191 (by decide) ?_
                                exact ih163 ((31 : Int64) * h6 + ((kI (cat σ n)).toInt64)) (n + 1) (by omega) (by omega) (dg_s e0 hv6) (by omega) _ _ G _ (lv_sub hl [2, 1, 0] rfl)
                          have hd5 : h5 = cd5 σ := dg_e hv5 (by omega)
                          exact lp163 61 ((31 : Int64) * h5 + ((kI (σ 131 1)).toInt64)) 0 (by omega) (by omega) (by rw [hd5]; rfl) (by omega) _ _ G _ (lv_sub hl [2, 1, 0] rfl)
                        · skip
                          refine lv_lload_n hx hb dX5_digest_123 rfl (lv_at hl 1 rfl) ?_
                          refine lv_aload_n hx hb dX5_digest_124 rfl (lv_at hl 0 rfl) ?_
                          refine gf_X5_27 hx hb hts hown G dX5_digest_125 ?_
                          refine lv_iload_n hx hb dX5_digest_128 rfl (lv_at hl 2 rfl) ?_
                          refine r_zald hx hb G 130 (by decide) (N := 2) (fun _ => rfl) (by omega) (by omega) (by decide) dX5_digest_129 ?_
                          have hkk := hKc j (by omega) (by omega)
                          refine r_if_eq (tgt := 137) hx hb ⟨by omega, by omega⟩ dX5_digest_130 (by decide) (fun h_6 => ?_) (fun h_6 => ?_)
                          · skip
                            have hz : (0 : Int64) = (kI (σ 130 j)).toInt64 := by rw [show σ 130 j = 0 by omega]; decide
                            refine lv_lconst (v := 0) hx hb dX5_digest_137 rfl ?_
                            refine r_callSL ⟨hx, hb, hml, hown, hts⟩ G (k_X5_mix l (h := h5) (v := 0) (σ := σ) ) (kS_X5_mix hts qM_X5_216 ⟨by decide, by decide⟩) rfl rfl hl.1 rfl (Nat.le_of_ble_eq_true rfl) dX5_digest_138 ⟨Nat.le_refl _, Nat.le_refl _⟩ (fun H locs G => ?_)
                            refine lv_lstore_n (lv' := [(1, .long ((31 : Int64) * h5 + 0)), (0, .ref (z + 0)), (3, .int (kI j))]) hx hb dX5_digest_141 rfl hl (by decide) rfl (fun ls hl => ?_)
                            refine r_iinc (lv' := [(3, .int (kI (j + 1))), (1, .long ((31 : Int64) * h5 + 0)), (0, .ref (z + 0))]) hx hb dX5_digest_142 hl (k := 2) rfl (by decide) rfl (fun ls hl => ?_)
                            refine lv_goto (tgt := 118) hx hb dX5_digest_145 (by decide) ?_
                            exact ih118 ((31 : Int64) * h5 + 0) (j + 1) (by omega) (by omega) (by rw [it_s c0, ← hv5]; unfold dgF; rw [← hz]) (by omega) _ _ G _ (lv_sub hl [2, 1, 0] rfl)
                          · skip
                            have hz : (1 : Int64) = (kI (σ 130 j)).toInt64 := by rw [show σ 130 j = 1 by omega]; decide
                            refine lv_lconst (v := 1) hx hb dX5_digest_133 rfl ?_
                            refine lv_goto (tgt := 138) hx hb dX5_digest_134 (by decide) ?_
                            refine r_callSL ⟨hx, hb, hml, hown, hts⟩ G (k_X5_mix l (h := h5) (v := 1) (σ := σ) ) (kS_X5_mix hts qM_X5_216 ⟨by decide, by decide⟩) rfl rfl hl.1 rfl (Nat.le_of_ble_eq_true rfl) dX5_digest_138 ⟨Nat.le_refl _, Nat.le_refl _⟩ (fun H locs G => ?_)
                            refine lv_lstore_n (lv' := [(1, .long ((31 : Int64) * h5 + 1)), (0, .ref (z + 0)), (3, .int (kI j))]) hx hb dX5_digest_141 rfl hl (by decide) rfl (fun ls hl => ?_)
                            refine r_iinc (lv' := [(3, .int (kI (j + 1))), (1, .long ((31 : Int64) * h5 + 1)), (0, .ref (z + 0))]) hx hb dX5_digest_142 hl (k := 2) rfl (by decide) rfl (fun ls hl => ?_)
                            refine lv_goto (tgt := 118) hx hb dX5_digest_145 (by decide) ?_
                            exact ih118 ((31 : Int64) * h5 + 1) (j + 1) (by omega) (by omega) (by rw [it_s c0, ← hv5]; unfold dgF; rw [← hz]) (by omega) _ _ G _ (lv_sub hl [2, 1, 0] rfl)
                    have hd3 : h3 = cd3 σ := by rw [hv3, show k = 4 by omega]; rfl
                    exact lp118 3 ((31 : Int64) * ((31 : Int64) * h3 + ((kI (scz σ)).toInt64)) + (dB (shW (hra σ) (hma σ 2)))) 0 (by omega) (by omega) (by rw [hd3]; rfl) (by omega) _ _ G _ (lv_sub hl [2, 1, 0] rfl)
                  · skip
                    refine lv_aload_n hx hb dX5_digest_64 rfl (lv_at hl 0 rfl) ?_
                    refine lv_lload_n hx hb dX5_digest_65 rfl (lv_at hl 1 rfl) ?_
                    refine lv_iload_n hx hb dX5_digest_66 rfl (lv_at hl 2 rfl) ?_
                    refine r_callVL ⟨hx, hb, hml, hown, hts⟩ G (k_X5_mixKind l (g := h3) (k := k) (σ := σ) (⟨by omega, by omega⟩) (hS)) (kV_X5_mixKind hts qM_X5_220 ⟨by decide, by decide⟩) (rc_X5 G) rfl rfl hl.1 rfl (Nat.le_of_ble_eq_true rfl) dX5_digest_67 ⟨Nat.le_refl _, Nat.le_refl _⟩ (fun H locs G => ?_)
                    refine lv_lstore_n (lv' := [(1, .long (ckd σ k h3)), (0, .ref (z + 0)), (3, .int (kI k))]) hx hb dX5_digest_70 rfl hl (by decide) rfl (fun ls hl => ?_)
                    refine r_iinc (lv' := [(3, .int (kI (k + 1))), (1, .long (ckd σ k h3)), (0, .ref (z + 0))]) hx hb dX5_digest_71 hl (k := 2) rfl (by decide) rfl (fun ls hl => ?_)
                    refine lv_goto (tgt := 59) hx hb dX5_digest_74 (by decide) ?_
                    exact ih59 (ckd σ k h3) (k + 1) (by omega) (by omega) (by rw [it_s b0, ← hv3]) (by omega) _ _ G _ (lv_sub hl [2, 1, 0] rfl)
              have hd2 : h2 = cd2 σ := dg_e hv2 (by omega)
              exact lp59 5 h2 0 (by omega) (by omega) (hd2) (by omega) _ _ G _ (lv_sub hl [1, 2, 0] rfl)
            · skip
              refine lv_lload_n hx hb dX5_digest_36 rfl (lv_at hl 1 rfl) ?_
              refine lv_aload_n hx hb dX5_digest_37 rfl (lv_at hl 0 rfl) ?_
              refine gf_X5_10 hx hb hts hown G dX5_digest_38 ?_
              refine gf_X5_129 hx hb hts hown G dX5_digest_41 ?_
              refine lv_iload_n hx hb dX5_digest_44 rfl (lv_at hl 2 rfl) ?_
              refine r_iald hx hb G 14 (by decide) (N := 3) (fun _ => rfl) (by omega) (by omega) (by decide) dX5_digest_45 ?_
              refine lv_i2l hx hb dX5_digest_46 rfl ?_
              refine r_callSL ⟨hx, hb, hml, hown, hts⟩ G (k_X5_mix l (h := h2) (v := (kI (σ 14 q)).toInt64) (σ := σ) ) (kS_X5_mix hts qM_X5_216 ⟨by decide, by decide⟩) rfl rfl hl.1 rfl (Nat.le_of_ble_eq_true rfl) dX5_digest_47 ⟨Nat.le_refl _, Nat.le_refl _⟩ (fun H locs G => ?_)
              refine lv_lstore_n (lv' := [(1, .long ((31 : Int64) * h2 + ((kI (σ 14 q)).toInt64))), (0, .ref (z + 0)), (3, .int (kI q))]) hx hb dX5_digest_50 rfl hl (by decide) rfl (fun ls hl => ?_)
              refine r_iinc (lv' := [(3, .int (kI (q + 1))), (1, .long ((31 : Int64) * h2 + ((kI (σ 14 q)).toInt64))), (0, .ref (z + 0))]) hx hb dX5_digest_51 hl (k := 2) rfl (by decide) rfl (fun ls hl => ?_)
              refine lv_goto (tgt := 31) hx hb dX5_digest_54 (by decide) ?_
              exact ih31 ((31 : Int64) * h2 + ((kI (σ 14 q)).toInt64)) (q + 1) (by omega) (by omega) (dg_s a0 hv2) (by omega) _ _ G _ (lv_sub hl [2, 1, 0] rfl)
        have hd1 : h = cd1 σ := dg_e hv (by omega)
        exact lp31 4 h 0 (by omega) (by omega) (hd1) (by omega) _ _ G _ (lv_sub hl [1, 2, 0] rfl)
      · skip
        refine lv_lload_n hx hb dX5_digest_12 rfl (lv_at hl 1 rfl) ?_
        refine lv_aload_n hx hb dX5_digest_13 rfl (lv_at hl 0 rfl) ?_
        refine lv_iload_n hx hb dX5_digest_14 rfl (lv_at hl 2 rfl) ?_
        refine r_callVI ⟨hx, hb, hml, hown, hts⟩ G (k_X5_numberOf l (w := i) (σ := σ) (⟨by omega, by omega⟩) (hS)) (kV_X5_numberOf hts qM_X5_185 ⟨by decide, by decide⟩) (rc_X5 G) rfl rfl hl.1 rfl (Nat.le_of_ble_eq_true rfl) dX5_digest_15 ⟨Nat.le_refl _, Nat.le_refl _⟩ (fun H locs G => ?_)
        refine lv_i2l hx hb dX5_digest_18 rfl ?_
        refine r_callSL ⟨hx, hb, hml, hown, hts⟩ G (k_X5_mix l (h := h) (v := (kI (nof σ i)).toInt64) (σ := σ) ) (kS_X5_mix hts qM_X5_216 ⟨by decide, by decide⟩) rfl rfl hl.1 rfl (Nat.le_of_ble_eq_true rfl) dX5_digest_19 ⟨Nat.le_refl _, Nat.le_refl _⟩ (fun H locs G => ?_)
        refine lv_lstore_n (lv' := [(1, .long ((31 : Int64) * h + ((kI (nof σ i)).toInt64))), (0, .ref (z + 0)), (3, .int (kI i))]) hx hb dX5_digest_22 rfl hl (by decide) rfl (fun ls hl => ?_)
        refine r_iinc (lv' := [(3, .int (kI (i + 1))), (1, .long ((31 : Int64) * h + ((kI (nof σ i)).toInt64))), (0, .ref (z + 0))]) hx hb dX5_digest_23 hl (k := 2) rfl (by decide) rfl (fun ls hl => ?_)
        refine lv_goto (tgt := 6) hx hb dX5_digest_26 (by decide) ?_
        exact ih6 ((31 : Int64) * h + ((kI (nof σ i)).toInt64)) (i + 1) (by omega) (by omega) (dg_s h0 hv) (by omega) _ _ G _ (lv_sub hl [2, 1, 0] rfl)
  exact lp6 11 (3361 : Int64) 0 (by omega) (by omega) (rfl) (by omega) _ _ G _ (lv_sub hl [2, 1, 0] rfl)
