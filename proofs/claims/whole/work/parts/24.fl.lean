/-! longs, doubles, floats as answers -/
theorem dw_of_n {x : UInt64} (h1 : 4503599627370496 ≤ x.toNat) (h2 : x.toNat < 9218868437227405312) : ∃ E T, 1 ≤ E ∧ E ≤ 2046 ∧ T < 4503599627370496 ∧ x = dw E T := by
  refine ⟨x.toNat / 4503599627370496, x.toNat % 4503599627370496, by omega, by omega, Nat.mod_lt _ (by decide), ?_⟩
  unfold dw
  rw [show x.toNat / 4503599627370496 * 4503599627370496 + x.toNat % 4503599627370496 = x.toNat by omega, UInt64.ofNat_toNat]
theorem fw_of_n {x : UInt32} {K : Nat} (h1 : 8388608 ≤ x.toNat) (h2 : x.toNat < K * 8388608) : ∃ E T, 1 ≤ E ∧ E < K ∧ T < 8388608 ∧ x = fw E T := by
  refine ⟨x.toNat / 8388608, x.toNat % 8388608, by omega, by omega, Nat.mod_lt _ (by decide), ?_⟩
  unfold fw
  rw [show x.toNat / 8388608 * 8388608 + x.toNat % 8388608 = x.toNat by omega, UInt32.ofNat_toNat]
/-- a quotient's least -/
theorem div_ge {f : FP.Core.Fmt} (hf : FP.Core.Good f) {x y La Kb : Nat} (hx : La * f.tails ≤ FP.Core.mag f x) (hxf : FP.Core.mag f x < FP.Core.infBits f) (hy : FP.Core.mag f y < Kb * f.tails) (hb : Kb ≤ f.exps - 1) (hL : 1 ≤ La) (hy0 : 1 * f.tails ≤ FP.Core.mag f y)
    (h : Kb + (f.p - 1) + 1 ≤ La + (-f.qmin).toNat) (h3 : 1 ≤ f.exps - 1) : 1 * f.tails ≤ FP.Core.mag f (FP.Core.div f x y) := by
  obtain ⟨s, c, q, x1, x2, x3⟩ := FP.Core.fin_of_mag hf hxf
  obtain ⟨t, d, r, y1, y2, y3⟩ := FP.Core.fin_of_mag hf (FP.Core.mag_lt_inf hy hb)
  have hq := FP.Core.qmin_neg hf
  have l1 : f.tails * 2 ^ (La - 1) ≤ FP.Core.zmag f (.fin s c q) := by
    rw [x3, ← FP.Core.unitsOf_start hL]; exact FP.Core.unitsOf_le_iff.mpr hx
  have l2 : f.tails * 2 ^ (1 - 1) ≤ FP.Core.zmag f (.fin t d r) := by
    rw [y3, ← FP.Core.unitsOf_start (by decide)]; exact FP.Core.unitsOf_le_iff.mpr hy0
  have hd0 : d ≠ 0 := by
    rintro rfl
    have h1 : FP.Core.zmag f (.fin t 0 r) = 0 := Nat.zero_mul _
    have := Nat.mul_pos (FP.Core.tails_pos f) (Nat.two_pow_pos (1 - 1))
    omega
  have hd : FP.Core.decode f (FP.Core.div f x y) = FP.Core.roundRatio f (s != t) c d (q - r) := by
    unfold FP.Core.div
    rw [FP.Core.decode_enc hf (FP.Core.quotient_fits hf _ _), x1, y1]
    simp only [FP.Core.quotient, if_neg hd0]
  have hx1 := x2.2.1
  have hy1 := y2.2.1
  refine FP.Core.mag_ge hf hd (by omega) (e0 := 2 * f.qmin - r) (by omega) (by omega) (Nat.mul_le_mul_right _ h3) ?_
  obtain ⟨k1, l3⟩ := FP.Core.units_lt_start hy
  rw [FP.Core.unitsOf_start (by decide)]
  have e1 : FP.Core.inUnits c (q - r) (2 * f.qmin - r) = FP.Core.zmag f (.fin s c q) * 2 ^ (-f.qmin).toNat := by
    show c * _ = c * _ * _
    rw [Nat.mul_assoc, ← Nat.pow_add]; congr 2; omega
  have e2 : 2 ^ (f.qmin - (2 * f.qmin - r)).toNat * d = FP.Core.zmag f (.fin t d r) := by
    show _ = d * _
    rw [Nat.mul_comm]; congr 2; omega
  rw [e1, Nat.mul_assoc, e2, y3]
  calc f.tails * 2 ^ (1 - 1) * FP.Core.unitsOf f (FP.Core.mag f y) ≤ f.tails * 2 ^ (1 - 1) * (f.tails * 2 ^ (Kb - 1)) := Nat.mul_le_mul_left _ (Nat.le_of_lt l3)
    _ = f.tails * 2 ^ (f.p - 1 + (Kb - 1)) := by rw [Nat.pow_add, show 2 ^ (f.p - 1) = f.tails from rfl]; simp
    _ ≤ f.tails * 2 ^ (La - 1 + (-f.qmin).toNat) := Nat.mul_le_mul_left _ (Nat.pow_le_pow_right (by decide) (by omega))
    _ = f.tails * 2 ^ (La - 1) * 2 ^ (-f.qmin).toNat := by rw [Nat.pow_add, Nat.mul_assoc]
    _ ≤ FP.Core.zmag f (.fin s c q) * 2 ^ (-f.qmin).toNat := Nat.mul_le_mul_right _ l1
theorem i2d_0 : FP.i2d (kI 0) = FP.dconst0 := by decide +kernel
theorem i2f_0 : FP.i2f (kI 0) = FP.fconst0 := by decide +kernel
def DP (x : UInt64) : Prop := x = FP.dconst0 ∨ ∃ E T, 1 ≤ E ∧ E ≤ 2046 ∧ T < 4503599627370496 ∧ x = dw E T
def FPq (x : UInt32) : Prop := x = FP.fconst0 ∨ ∃ E T, 1 ≤ E ∧ E < 161 ∧ T < 8388608 ∧ x = fw E T
theorem DP.n {x : UInt64} (h : DP x) : vf_n64 x := by
  rcases h with rfl | ⟨E, T, h1, h2, h3, rfl⟩
  · exact n64 (by decide)
  · exact n_dw h2 h3
theorem FPq.n {x : UInt32} (h : FPq x) : vf_n32 x := by
  rcases h with rfl | ⟨E, T, h1, h2, h3, rfl⟩
  · exact n32 (by decide)
  · exact n32 (by rw [fw_n (by omega) h3]; omega)
theorem sgn_i2d {a : Int} (ha : 0 ≤ a ∧ a ≤ 2147483647) : FP.Core.sgn (FP.Core.val64 (FP.i2d (kI a))) = false := by
  show FP.Core.sgn (FP.Core.val64 (FP.Core.i2d (kI a))) = false
  rw [FP.Core.val64_i2d, kI_toInt ⟨by omega, by omega⟩]
  show FP.Core.sgn (FP.Core.roundRatio _ _ _ _ _) = false
  rw [FP.Core.sgn_roundRatio, decide_eq_false (by omega)]
theorem q_zero64 {b : UInt64} {c q} (hb : FP.Core.val64 b = .fin false c q) (hc : c ≠ 0) : FP.ddiv FP.dconst0 b = FP.dconst0 := by
  have e0 : FP.Core.val64 FP.dconst0 = .fin false 0 (-1074) := by decide +kernel
  have h : FP.Core.val64 (FP.Core.ddiv FP.dconst0 b) = .fin false 0 (-1074) := by
    rw [FP.Core.val64_ddiv, e0, hb]
    simp only [FP.Core.quotient, if_neg hc]
    show (if (0 : Nat) = 0 then FP.Core.Datum.fin false 0 FP.Core.b64.qmin else _) = _
    rw [if_pos rfl, q64]
  have hx := (FP.Core.ddiv FP.dconst0 b).toNat_lt
  have e := FP.Core.encode_decode FP.Core.good_b64 (FP.Core.ddiv FP.dconst0 b).toNat (by rw [x64, t64]; omega) (by show FP.Core.val64 _ ≠ _; rw [h]; simp)
  have h' : FP.Core.decode FP.Core.b64 (FP.Core.ddiv FP.dconst0 b).toNat = .fin false 0 (-1074) := h
  rw [h'] at e
  have z : FP.Core.encode FP.Core.b64 (.fin false 0 (-1074)) = 0 := by decide +kernel
  rw [z] at e
  exact UInt64.toNat_inj.mp (by show (FP.Core.ddiv FP.dconst0 b).toNat = 0; exact e.symm)
theorem q_zero32 {b : UInt32} {c q} (hb : FP.Core.val32 b = .fin false c q) (hc : c ≠ 0) : FP.fdiv FP.fconst0 b = FP.fconst0 := by
  have e0 : FP.Core.val32 FP.fconst0 = .fin false 0 (-149) := by decide +kernel
  have h : FP.Core.val32 (FP.Core.fdiv FP.fconst0 b) = .fin false 0 (-149) := by
    rw [FP.Core.val32_fdiv, e0, hb]
    simp only [FP.Core.quotient, if_neg hc]
    show (if (0 : Nat) = 0 then FP.Core.Datum.fin false 0 FP.Core.b32.qmin else _) = _
    rw [if_pos rfl, q32]
  have hx := (FP.Core.fdiv FP.fconst0 b).toNat_lt
  have e := FP.Core.encode_decode FP.Core.good_b32 (FP.Core.fdiv FP.fconst0 b).toNat (by rw [x32, t32]; omega) (by show FP.Core.val32 _ ≠ _; rw [h]; simp)
  have h' : FP.Core.decode FP.Core.b32 (FP.Core.fdiv FP.fconst0 b).toNat = .fin false 0 (-149) := h
  rw [h'] at e
  have z : FP.Core.encode FP.Core.b32 (.fin false 0 (-149)) = 0 := by decide +kernel
  rw [z] at e
  exact UInt32.toNat_inj.mp (by show (FP.Core.fdiv FP.fconst0 b).toNat = 0; exact e.symm)
theorem i2d_dw {a : Int} (h0 : 1 ≤ a) (h1 : a ≤ 2147483647) : ∃ E T, 1023 ≤ E ∧ E < 1056 ∧ T < 4503599627370496 ∧ FP.i2d (kI a) = dw E T := by
  have ha : (kI a).toInt = a := kI_toInt ⟨by omega, h1⟩
  have b1 := FP.Core.i2d_big (v := kI a) (by omega)
  have b2 := FP.Core.i2d_mag (kI a)
  have hn : FP.Core.val64 (FP.Core.i2d (kI a)) ≠ .nan := (FP.Core.ne_nan _).mpr (by omega)
  have sg := FP.Core.sgn_bits hn
  rw [show FP.Core.sgn (FP.Core.val64 (FP.Core.i2d (kI a))) = false from sgn_i2d ⟨by omega, h1⟩] at sg
  have lt := of_decide_eq_false sg.symm
  obtain ⟨E, T, e1, e2, e3, e4⟩ := dw_of_n (x := FP.Core.i2d (kI a)) (by omega) (by omega)
  have hn2 := dw_n e2 e3
  rw [← e4] at hn2
  exact ⟨E, T, by omega, by omega, e3, e4⟩
theorem sgn_i2f {a : Int} (ha : 0 ≤ a ∧ a ≤ 2147483647) : FP.Core.sgn (FP.Core.val32 (FP.i2f (kI a))) = false := by
  show FP.Core.sgn (FP.Core.val32 (FP.Core.i2f (kI a))) = false
  rw [FP.Core.val32_i2f, kI_toInt ⟨by omega, by omega⟩]
  show FP.Core.sgn (FP.Core.roundRatio _ _ _ _ _) = false
  rw [FP.Core.sgn_roundRatio, decide_eq_false (by omega)]
theorem i2f_fw {a : Int} (h0 : 1 ≤ a) (h1 : a ≤ 2147483647) : ∃ E T, 127 ≤ E ∧ E < 160 ∧ T < 8388608 ∧ FP.i2f (kI a) = fw E T := by
  have ha : (kI a).toInt = a := kI_toInt ⟨by omega, h1⟩
  have b1 := FP.Core.fromInt_ge32 (FP.Core.toNat_i2f (kI a)) (by omega)
  have b2 := FP.Core.i2f_mag (kI a)
  have hn : FP.Core.val32 (FP.Core.i2f (kI a)) ≠ .nan := (FP.Core.ne_nan32 _).mpr (by omega)
  have sg := FP.Core.sgn_bits32 hn
  rw [show FP.Core.sgn (FP.Core.val32 (FP.Core.i2f (kI a))) = false from sgn_i2f ⟨by omega, h1⟩] at sg
  have lt := of_decide_eq_false sg.symm
  obtain ⟨E, T, e1, e2, e3, e4⟩ := fw_of_n (x := FP.Core.i2f (kI a)) (K := 255) (by omega) (by omega)
  have hn2 := fw_n (by omega : E ≤ 254) e3
  rw [← e4] at hn2
  exact ⟨E, T, by omega, by omega, e3, e4⟩
/-- the share and the mean as words -/
def shW (a b : Int) : UInt64 := if b = 0 then FP.dconst1 else FP.ddiv (FP.i2d (kI a)) (FP.i2d (kI b))
def mnW (a b : Int) : UInt32 := if b = 0 then FP.fconst0 else FP.fdiv (FP.i2f (kI a)) (FP.i2f (kI b))
theorem ddiv_ok {a b : Int} (ha : 0 ≤ a ∧ a ≤ 2147483647) (hb : 1 ≤ b ∧ b ≤ 2147483647) : DP (FP.ddiv (FP.i2d (kI a)) (FP.i2d (kI b))) := by
  obtain ⟨F, U, f1, f2, f3, f4⟩ := i2d_dw hb.1 hb.2
  have vb : FP.Core.val64 (FP.i2d (kI b)) = .fin false (4503599627370496 + U) ((F : Int) - 1075) := by rw [f4]; exact val_dw (by omega) (by omega) f3
  by_cases h0 : a = 0
  · subst h0
    left
    rw [i2d_0]
    exact q_zero64 vb (by omega)
  · right
    obtain ⟨E, T, e1, e2, e3, e4⟩ := i2d_dw (a := a) (by omega) ha.2
    have na := dw_n (by omega : E ≤ 2046) e3
    have nb := dw_n (by omega : F ≤ 2046) f3
    rw [← e4] at na
    rw [← f4] at nb
    have hq : (FP.Core.ddiv (FP.i2d (kI a)) (FP.i2d (kI b))).toNat = FP.Core.div FP.Core.b64 (FP.i2d (kI a)).toNat (FP.i2d (kI b)).toNat := FP.Core.toNat_of64 (FP.Core.quotient_fits FP.Core.good_b64 _ _)
    have up := FP.Core.ddiv_mag (a := FP.i2d (kI a)) (b := FP.i2d (kI b)) (K := 1056) (L := 1023) (by omega) (by omega) (by omega) (by decide) (by decide)
    have lo := div_ge FP.Core.good_b64 (x := (FP.i2d (kI a)).toNat) (y := (FP.i2d (kI b)).toNat) (La := 1023) (Kb := 1056) (by rw [FP.Core.mag_toNat64, t64]; omega) (by rw [FP.Core.mag_toNat64, FP.Core.infBits_b64]; omega) (by rw [FP.Core.mag_toNat64, t64]; omega) (by decide) (by decide) (by rw [FP.Core.mag_toNat64, t64]; omega) (by decide) (by decide)
    rw [← hq, FP.Core.mag_toNat64, t64] at lo
    have va : FP.Core.val64 (FP.i2d (kI a)) = .fin false (4503599627370496 + T) ((E : Int) - 1075) := by rw [e4]; exact val_dw (by omega) (by omega) e3
    have hn : FP.Core.val64 (FP.Core.ddiv (FP.i2d (kI a)) (FP.i2d (kI b))) ≠ .nan := (FP.Core.ne_nan _).mpr (by omega)
    have sg := FP.Core.sgn_bits hn
    have hd0 : ¬ (4503599627370496 + U : Nat) = 0 := by omega
    rw [FP.Core.val64_ddiv, va, vb] at sg
    simp only [FP.Core.quotient, if_neg hd0] at sg
    rw [FP.Core.sgn_roundRatio] at sg
    have lt := of_decide_eq_false sg.symm
    exact dw_of_n (x := FP.Core.ddiv (FP.i2d (kI a)) (FP.i2d (kI b))) (by omega) (by omega)
theorem fdiv_ok {a b : Int} (ha : 0 ≤ a ∧ a ≤ 2147483647) (hb : 1 ≤ b ∧ b ≤ 2147483647) : FPq (FP.fdiv (FP.i2f (kI a)) (FP.i2f (kI b))) := by
  obtain ⟨F, U, f1, f2, f3, f4⟩ := i2f_fw hb.1 hb.2
  have vb : FP.Core.val32 (FP.i2f (kI b)) = .fin false (8388608 + U) ((F : Int) - 150) := by rw [f4]; exact val_fw (by omega) (by omega) f3
  by_cases h0 : a = 0
  · subst h0
    left
    rw [i2f_0]
    exact q_zero32 vb (by omega)
  · right
    obtain ⟨E, T, e1, e2, e3, e4⟩ := i2f_fw (a := a) (by omega) ha.2
    have na := fw_n (by omega : E ≤ 254) e3
    have nb := fw_n (by omega : F ≤ 254) f3
    rw [← e4] at na
    rw [← f4] at nb
    have hq : (FP.Core.fdiv (FP.i2f (kI a)) (FP.i2f (kI b))).toNat = FP.Core.div FP.Core.b32 (FP.i2f (kI a)).toNat (FP.i2f (kI b)).toNat := FP.Core.toNat_of32 (FP.Core.quotient_fits FP.Core.good_b32 _ _)
    have up := FP.Core.fdiv_mag (a := FP.i2f (kI a)) (b := FP.i2f (kI b)) (K := 160) (L := 127) (by omega) (by omega) (by omega) (by decide) (by decide)
    have lo := div_ge FP.Core.good_b32 (x := (FP.i2f (kI a)).toNat) (y := (FP.i2f (kI b)).toNat) (La := 127) (Kb := 160) (by rw [FP.Core.mag_toNat32, t32]; omega) (by rw [FP.Core.mag_toNat32, FP.Core.infBits_b32]; omega) (by rw [FP.Core.mag_toNat32, t32]; omega) (by decide) (by decide) (by rw [FP.Core.mag_toNat32, t32]; omega) (by decide) (by decide)
    rw [← hq, FP.Core.mag_toNat32, t32] at lo
    have va : FP.Core.val32 (FP.i2f (kI a)) = .fin false (8388608 + T) ((E : Int) - 150) := by rw [e4]; exact val_fw (by omega) (by omega) e3
    have hn : FP.Core.val32 (FP.Core.fdiv (FP.i2f (kI a)) (FP.i2f (kI b))) ≠ .nan := (FP.Core.ne_nan32 _).mpr (by omega)
    have sg := FP.Core.sgn_bits32 hn
    have hd0 : ¬ (8388608 + U : Nat) = 0 := by omega
    rw [FP.Core.val32_fdiv, va, vb] at sg
    simp only [FP.Core.quotient, if_neg hd0] at sg
    rw [FP.Core.sgn_roundRatio] at sg
    have lt := of_decide_eq_false sg.symm
    exact fw_of_n (x := FP.Core.fdiv (FP.i2f (kI a)) (FP.i2f (kI b))) (by omega) (by omega)
theorem shW_ok {a b : Int} (ha : 0 ≤ a ∧ a ≤ 2147483647) (hb : 0 ≤ b ∧ b ≤ 2147483647) : DP (shW a b) := by
  unfold shW; split
  · exact Or.inr ⟨1023, 0, by decide, by decide, by decide, d_one⟩
  · exact ddiv_ok ha ⟨by omega, hb.2⟩
theorem mnW_ok {a b : Int} (ha : 0 ≤ a ∧ a ≤ 2147483647) (hb : 0 ≤ b ∧ b ≤ 2147483647) : FPq (mnW a b) := by
  unfold mnW; split
  · exact Or.inl rfl
  · exact fdiv_ok ha ⟨by omega, hb.2⟩
/-- a float as a double -/
theorem f2d_fw {E T : Nat} (h1 : 1 ≤ E) (hE : E ≤ 254) (hT : T < 8388608) : FP.f2d (fw E T) = dw (E + 896) (T * 536870912) := by
  have hn : FP.Core.fIsNaN (fw E T) = false := by rw [FP.Core.notNaN_iff32, val_fw h1 hE hT]; simp
  unfold FP.f2d
  rw [hn]
  show FP.Core.f2d (fw E T) = _
  have hv : FP.Core.val64 (FP.Core.f2d (fw E T)) = FP.Core.round FP.Core.b64 (FP.Core.val32 (fw E T)) := by
    show FP.Core.decode _ (FP.Core.of64 (FP.Core.round FP.Core.b64 (FP.Core.decode FP.Core.b32 (fw E T).toNat))).toNat = _
    rw [FP.Core.toNat_of64 (FP.Core.round_fits FP.Core.good_b64 _), FP.Core.decode_enc FP.Core.good_b64 (FP.Core.round_fits FP.Core.good_b64 _)]
    rfl
  refine dw_of (by omega) (by omega) (by omega) ?_
  rw [hv, val_fw h1 hE hT]
  show FP.Core.roundRatio FP.Core.b64 false (8388608 + T) 1 _ = _
  refine FP.Core.roundRatio_exact FP.Core.good_b64 (by decide) (fit_dw (by omega) (by omega) (by omega)) ?_
  rw [show ((E : Int) - 150 - (((E + 896 : Nat) : Int) - 1075)).toNat = 29 by omega, show ((((E + 896 : Nat) : Int) - 1075) - ((E : Int) - 150)).toNat = 0 by omega]
  omega
theorem f2d_0 : FP.f2d FP.fconst0 = FP.dconst0 := by decide +kernel
