/-! doubles and floats above 0 by their fields -/
def dw (E T : Nat) : UInt64 := UInt64.ofNat (E * 4503599627370496 + T)
def fw (E T : Nat) : UInt32 := UInt32.ofNat (E * 8388608 + T)
theorem t64 : FP.Core.b64.tails = 4503599627370496 := by decide
theorem x64 : FP.Core.b64.exps = 2048 := by decide
theorem t32 : FP.Core.b32.tails = 8388608 := by decide
theorem x32 : FP.Core.b32.exps = 256 := by decide
theorem q64 : FP.Core.b64.qmin = -1074 := by decide
theorem q32 : FP.Core.b32.qmin = -149 := by decide
theorem m64 : FP.Core.b64.qmax = 971 := by decide
theorem m32 : FP.Core.b32.qmax = 104 := by decide
theorem dw_n {E T : Nat} (hE : E ≤ 2046) (hT : T < 4503599627370496) : (dw E T).toNat = E * 4503599627370496 + T := by
  unfold dw; rw [UInt64.toNat_ofNat_of_lt' (by show _ < 18446744073709551616; omega)]
theorem fw_n {E T : Nat} (hE : E ≤ 254) (hT : T < 8388608) : (fw E T).toNat = E * 8388608 + T := by
  unfold fw; rw [UInt32.toNat_ofNat_of_lt' (by show _ < 4294967296; omega)]
theorem dec64 {n E T : Nat} (h1 : 1 ≤ E) (hE : E ≤ 2046) (hT : T < 4503599627370496) (hn : n = E * 4503599627370496 + T) : FP.Core.decode FP.Core.b64 n = .fin false (4503599627370496 + T) ((E : Int) - 1075) := by
  have fT : FP.Core.fieldT FP.Core.b64 n = T := by unfold FP.Core.fieldT; rw [t64]; omega
  have fE : FP.Core.fieldE FP.Core.b64 n = E := by unfold FP.Core.fieldE; rw [t64, x64]; omega
  have fS : FP.Core.fieldS FP.Core.b64 n = false := by
    unfold FP.Core.fieldS; rw [t64, x64]
    have : n / 4503599627370496 / 2048 % 2 = 0 := by omega
    rw [this]; rfl
  unfold FP.Core.decode
  rw [fT, fE, fS, x64, t64, q64, if_neg (by omega), if_neg (by omega)]
  congr 1
  omega
theorem dec32 {n E T : Nat} (h1 : 1 ≤ E) (hE : E ≤ 254) (hT : T < 8388608) (hn : n = E * 8388608 + T) : FP.Core.decode FP.Core.b32 n = .fin false (8388608 + T) ((E : Int) - 150) := by
  have fT : FP.Core.fieldT FP.Core.b32 n = T := by unfold FP.Core.fieldT; rw [t32]; omega
  have fE : FP.Core.fieldE FP.Core.b32 n = E := by unfold FP.Core.fieldE; rw [t32, x32]; omega
  have fS : FP.Core.fieldS FP.Core.b32 n = false := by
    unfold FP.Core.fieldS; rw [t32, x32]
    have : n / 8388608 / 256 % 2 = 0 := by omega
    rw [this]; rfl
  unfold FP.Core.decode
  rw [fT, fE, fS, x32, t32, q32, if_neg (by omega), if_neg (by omega)]
  congr 1
  omega
theorem val_dw {E T : Nat} (h1 : 1 ≤ E) (hE : E ≤ 2046) (hT : T < 4503599627370496) : FP.Core.val64 (dw E T) = .fin false (4503599627370496 + T) ((E : Int) - 1075) := dec64 h1 hE hT (dw_n hE hT)
theorem val_fw {E T : Nat} (h1 : 1 ≤ E) (hE : E ≤ 254) (hT : T < 8388608) : FP.Core.val32 (fw E T) = .fin false (8388608 + T) ((E : Int) - 150) := dec32 h1 hE hT (fw_n hE hT)
theorem fit_dw {E T : Nat} (h1 : 1 ≤ E) (hE : E ≤ 2046) (hT : T < 4503599627370496) : FP.Core.fits FP.Core.b64 (.fin false (4503599627370496 + T) ((E : Int) - 1075)) := by
  refine ⟨?_, by rw [q64]; omega, by rw [m64]; omega, Or.inr (by rw [t64]; omega)⟩
  show _ < 2 ^ 53
  omega
theorem dw_of {x : UInt64} {E T : Nat} (h1 : 1 ≤ E) (hE : E ≤ 2046) (hT : T < 4503599627370496) (h : FP.Core.val64 x = .fin false (4503599627370496 + T) ((E : Int) - 1075)) : x = dw E T := by
  have hx := x.toNat_lt
  have e := FP.Core.encode_decode FP.Core.good_b64 x.toNat (by rw [x64, t64]; omega) (by show FP.Core.val64 x ≠ _; rw [h]; simp)
  have h' : FP.Core.decode FP.Core.b64 x.toNat = .fin false (4503599627370496 + T) ((E : Int) - 1075) := h
  have e2 := FP.Core.encode_decode FP.Core.good_b64 (dw E T).toNat (by rw [x64, t64, dw_n hE hT]; omega) (by show FP.Core.val64 (dw E T) ≠ _; rw [val_dw h1 hE hT]; simp)
  have h2 : FP.Core.decode FP.Core.b64 (dw E T).toNat = .fin false (4503599627370496 + T) ((E : Int) - 1075) := val_dw h1 hE hT
  rw [h'] at e
  rw [h2] at e2
  exact UInt64.toNat_inj.mp (e.symm.trans e2)
theorem d_two : (4611686018427387904 : UInt64) = dw 1024 0 := by decide
theorem d_one : FP.dconst1 = dw 1023 0 := by decide
theorem ddiv_2 {E T : Nat} (h1 : 2 ≤ E) (hE : E ≤ 2046) (hT : T < 4503599627370496) : FP.ddiv (dw E T) (dw 1024 0) = dw (E - 1) T := by
  refine dw_of (by omega) (by omega) hT ?_
  show FP.Core.val64 (FP.Core.ddiv _ _) = _
  rw [FP.Core.val64_ddiv, val_dw (by omega) hE hT, val_dw (by decide) (by decide) (by decide)]
  have hd0 : ¬ (4503599627370496 + 0 : Nat) = 0 := by decide
  simp only [FP.Core.quotient, if_neg hd0]
  show FP.Core.roundRatio FP.Core.b64 false _ _ _ = _
  refine FP.Core.roundRatio_exact FP.Core.good_b64 (by decide) (fit_dw (by omega) (by omega) hT) ?_
  rw [show (((E : Int) - 1075 - (((1024 : Nat) : Int) - 1075) - (((E - 1 : Nat) : Int) - 1075)).toNat) = 52 by omega, show ((((E - 1 : Nat) : Int) - 1075 - ((E : Int) - 1075 - (((1024 : Nat) : Int) - 1075))).toNat) = 0 by omega]
  omega
theorem dmul_2 {E T : Nat} (h1 : 1 ≤ E) (hE : E ≤ 2045) (hT : T < 4503599627370496) : FP.dmul (dw E T) (dw 1024 0) = dw (E + 1) T := by
  refine dw_of (by omega) (by omega) hT ?_
  show FP.Core.val64 (FP.Core.dmul _ _) = _
  rw [FP.Core.val64_dmul, val_dw (by omega) (by omega) hT, val_dw (by decide) (by decide) (by decide)]
  show FP.Core.roundRatio FP.Core.b64 false ((4503599627370496 + T) * (4503599627370496 + 0)) 1 _ = _
  refine FP.Core.roundRatio_exact FP.Core.good_b64 (by decide) (fit_dw (by omega) (by omega) hT) ?_
  rw [show (((E : Int) - 1075 + (((1024 : Nat) : Int) - 1075) - (((E + 1 : Nat) : Int) - 1075)).toNat) = 0 by omega, show ((((E + 1 : Nat) : Int) - 1075 - ((E : Int) - 1075 + (((1024 : Nat) : Int) - 1075))).toNat) = 52 by omega]
  omega
theorem n64 {r : UInt64} (h : r.toNat < 9218868437227405312) : vf_n64 r := by
  unfold vf_n64
  rw [UInt64.le_iff_toNat_le, UInt64.toNat_and]
  exact Nat.le_trans Nat.and_le_left (by show _ ≤ 9218868437227405312; omega)
theorem n32 {r : UInt32} (h : r.toNat < 2139095040) : vf_n32 r := by
  unfold vf_n32
  rw [UInt32.le_iff_toNat_le, UInt32.toNat_and]
  exact Nat.le_trans Nat.and_le_left (by show _ ≤ 2139095040; omega)
theorem n_dw {E T : Nat} (hE : E ≤ 2046) (hT : T < 4503599627370496) : vf_n64 (dw E T) := n64 (by rw [dw_n hE hT]; omega)
theorem dcmp_dw {E T E' T' : Nat} (h1 : 1 ≤ E) (hE : E ≤ 2046) (hT : T < 4503599627370496) (h1' : 1 ≤ E') (hE' : E' ≤ 2046) (hT' : T' < 4503599627370496) : FP.dcmp (dw E T) (dw E' T') = some (compare ((E * 4503599627370496 + T : Nat) : Int) ((E' * 4503599627370496 + T' : Nat) : Int)) := by
  have k : ∀ E T : Nat, 1 ≤ E → E ≤ 2046 → T < 4503599627370496 → FP.Core.key FP.Core.b64 (dw E T).toNat = ((E * 4503599627370496 + T : Nat) : Int) := by
    intro E T a b c
    have hh : FP.Core.half FP.Core.b64 = 9223372036854775808 := by decide
    unfold FP.Core.key FP.Core.mag
    rw [hh, dw_n b c, decide_eq_false (by omega), Nat.mod_eq_of_lt (by omega)]
    rfl
  have hh : FP.Core.half FP.Core.b64 = 9223372036854775808 := by decide
  show FP.Core.cmp FP.Core.b64 _ _ = _
  rw [FP.Core.cmp_key FP.Core.good_b64 (by rw [hh, dw_n hE hT]; omega) (by rw [hh, dw_n hE' hT']; omega) (by show FP.Core.val64 _ ≠ _; rw [val_dw h1 hE hT]; simp) (by show FP.Core.val64 _ ≠ _; rw [val_dw h1' hE' hT']; simp), k E T h1 hE hT, k E' T' h1' hE' hT']
theorem cv_lt {a b : Int} {op : CmpOp} (h : a < b) : Op.cmpValue (some (compare a b)) op = -1 := by
  rw [show compare a b = .lt from by rw [Int.compare_eq_lt]; exact h]; rfl
theorem cv_eq {a b : Int} {op : CmpOp} (h : a = b) : Op.cmpValue (some (compare a b)) op = 0 := by
  rw [show compare a b = .eq from by rw [Int.compare_eq_eq]; exact h]; rfl
theorem cv_gt {a b : Int} {op : CmpOp} (h : b < a) : Op.cmpValue (some (compare a b)) op = 1 := by
  rw [show compare a b = .gt from by rw [Int.compare_eq_gt]; exact h]; rfl
/-- at least 2 to the power, or below it -/
theorem cv_neg {E T K : Nat} {op : CmpOp} (h1 : 1 ≤ E) (hE : E ≤ 2046) (hT : T < 4503599627370496) (hk : 1 ≤ K) (hK : K ≤ 2046) : Op.cmpValue (FP.dcmp (dw E T) (dw K 0)) op < 0 ↔ E < K := by
  rw [dcmp_dw h1 hE hT hk hK (by decide)]
  rcases Int.lt_trichotomy ((E * 4503599627370496 + T : Nat) : Int) ((K * 4503599627370496 + 0 : Nat) : Int) with h | h | h
  · rw [cv_lt h]; exact ⟨fun _ => by omega, fun _ => by decide⟩
  · rw [cv_eq h]; exact ⟨fun q => absurd q (by decide), fun _ => by omega⟩
  · rw [cv_gt h]; exact ⟨fun q => absurd q (by decide), fun _ => by omega⟩
theorem cv_nn {E T K : Nat} {op : CmpOp} (h1 : 1 ≤ E) (hE : E ≤ 2046) (hT : T < 4503599627370496) (hk : 1 ≤ K) (hK : K ≤ 2046) : 0 ≤ Op.cmpValue (FP.dcmp (dw E T) (dw K 0)) op ↔ K ≤ E := by
  rw [dcmp_dw h1 hE hT hk hK (by decide)]
  rcases Int.lt_trichotomy ((E * 4503599627370496 + T : Nat) : Int) ((K * 4503599627370496 + 0 : Nat) : Int) with h | h | h
  · rw [cv_lt h]; exact ⟨fun q => absurd q (by decide), fun _ => by omega⟩
  · rw [cv_eq h]; exact ⟨fun _ => by omega, fun _ => by decide⟩
  · rw [cv_gt h]; exact ⟨fun _ => by omega, fun _ => by decide⟩
theorem cv_pos {E T : Nat} {op : CmpOp} (h1 : 1 ≤ E) (hE : E ≤ 2046) (hT : T < 4503599627370496) : 0 < Op.cmpValue (FP.dcmp (dw E T) FP.dconst0) op := by
  have hh : FP.Core.half FP.Core.b64 = 9223372036854775808 := by decide
  have e : FP.dcmp (dw E T) FP.dconst0 = some (compare ((E * 4503599627370496 + T : Nat) : Int) 0) := by
    show FP.Core.cmp FP.Core.b64 _ _ = _
    rw [FP.Core.cmp_key FP.Core.good_b64 (by rw [hh, dw_n hE hT]; omega) (by decide) (by show FP.Core.val64 _ ≠ _; rw [val_dw h1 hE hT]; simp) (by decide)]
    congr 2
    unfold FP.Core.key FP.Core.mag
    rw [hh, dw_n hE hT, decide_eq_false (by omega), Nat.mod_eq_of_lt (by omega)]
    rfl
  rw [e, cv_gt (by omega)]
  decide
theorem cv_00 : Op.cmpValue (FP.dcmp FP.dconst0 FP.dconst0) .g = 0 := by decide +kernel
/-- the fraction -/
theorem d_fr {T fb V : Nat} (hT : T < 4503599627370496) (hf : fb = 52 ∨ fb = 23) (hV : T = V * 2 ^ (52 - fb)) : FP.d2l (FP.dmul (FP.dsub (dw 1023 T) (dw 1023 0)) (FP.l2d (Int64.ofInt (2 ^ fb : Nat)))) = Int64.ofInt V ∧ vf_n64 (FP.dsub (dw 1023 T) (dw 1023 0)) ∧ vf_n64 (FP.dmul (FP.dsub (dw 1023 T) (dw 1023 0)) (FP.l2d (Int64.ofInt (2 ^ fb : Nat)))) := by
  have hs : FP.Core.val64 (FP.Core.dsub (dw 1023 T) (dw 1023 0)) = FP.Core.round FP.Core.b64 (.fin false T (-52)) := by
    rw [FP.Core.val64_dsub, val_dw (by decide) (by decide) hT, val_dw (by decide) (by decide) (by decide)]
    congr 1
    have e : FP.Core.sumUnits false (4503599627370496 + T) (((1023 : Nat) : Int) - 1075) (!false) (4503599627370496 + 0) (((1023 : Nat) : Int) - 1075) (min (((1023 : Nat) : Int) - 1075) (((1023 : Nat) : Int) - 1075)) = (T : Int) := by
      show (((4503599627370496 + T) * 2 ^ 0 : Nat) : Int) + -(((4503599627370496 + 0) * 2 ^ 0 : Nat) : Int) = _
      omega
    show FP.Core.Datum.fin (FP.Core.sumSign false (!false) _) _ _ = _
    rw [e]
    have e2 : FP.Core.sumSign false (!false) (T : Int) = false := by
      unfold FP.Core.sumSign
      split
      · rfl
      · exact decide_eq_false (by omega)
    rw [e2]
    rfl
  obtain ⟨c, q, h1, h2⟩ := FP.Core.round_exact FP.Core.good_b64 false (c := T) (q := -52) (by show _ < 2 ^ 53; omega) (by decide) (by decide)
  have hfit := FP.Core.round_fits FP.Core.good_b64 (.fin false T (-52))
  rw [h1] at hfit hs
  obtain ⟨f1, f2, f3, f4⟩ := hfit
  rw [q64] at f2 f4
  have h3 : c * 2 ^ (q + 1074).toNat = T * 2 ^ 1022 := by
    have := h2
    unfold FP.Core.inUnits at this
    rw [q64] at this
    rw [show (q - -1074).toNat = (q + 1074).toNat by omega, show ((-52 : Int) - -1074).toNat = 1022 by decide] at this
    exact this
  have hy : FP.Core.val64 (FP.Core.l2d (Int64.ofInt (2 ^ fb : Nat))) = .fin false 4503599627370496 ((fb : Int) - 52) := by
    rcases hf with rfl | rfl
    · decide +kernel
    · decide +kernel
  have hq0 : q ≤ 0 ∨ c = 0 := by
    by_cases g : q ≤ 0
    · exact Or.inl g
    · right
      have p : 2 ^ (q + 1074).toNat ≥ 2 ^ 1074 := Nat.pow_le_pow_right (by decide) (by omega)
      have a : c * 2 ^ 1074 ≤ T * 2 ^ 1022 := by rw [← h3]; exact Nat.mul_le_mul_left _ p
      have b : T * 2 ^ 1022 < 2 ^ 1074 := by
        rw [show (2 : Nat) ^ 1074 = 4503599627370496 * 2 ^ 1022 from by rw [show (4503599627370496 : Nat) = 2 ^ 52 by decide, ← Nat.pow_add]]
        exact Nat.mul_lt_mul_of_pos_right hT (Nat.two_pow_pos _)
      have d : c * 2 ^ 1074 < 1 * 2 ^ 1074 := by rw [Nat.one_mul]; omega
      have := Nat.lt_of_mul_lt_mul_right d
      omega
  have hw : FP.Core.Whole (V : Int) (.fin false (c * 4503599627370496) (q + ((fb : Int) - 52))) := by
    show ((c * 4503599627370496 * 2 ^ (q + ((fb : Int) - 52)).toNat : Nat) : Int) = (V : Int) * ((2 ^ (-(q + ((fb : Int) - 52))).toNat : Nat) : Int)
    have key : c * 4503599627370496 * 2 ^ (q + ((fb : Int) - 52)).toNat = V * 2 ^ (-(q + ((fb : Int) - 52))).toNat := by
      rcases hq0 with g | g
      · have e0 : (q + ((fb : Int) - 52)).toNat = 0 := by omega
        rw [e0, Nat.pow_zero, Nat.mul_one]
        apply Nat.eq_of_mul_eq_mul_right (Nat.two_pow_pos (q + 1074).toNat)
        have e1 : T * 2 ^ 1022 * 4503599627370496 = V * 2 ^ (52 - fb + 1022 + 52) := by
          rw [hV, Nat.pow_add, Nat.pow_add, show (2 : Nat) ^ 52 = 4503599627370496 by decide, Nat.mul_assoc, Nat.mul_assoc, Nat.mul_assoc]
        rw [Nat.mul_right_comm, h3, e1, Nat.mul_assoc, ← Nat.pow_add, show 52 - fb + 1022 + 52 = (-(q + ((fb : Int) - 52))).toNat + (q + 1074).toNat by omega]
      · subst g
        have hT0 : T = 0 := by
          rw [Nat.zero_mul] at h3
          have := Nat.two_pow_pos 1022
          rcases Nat.mul_eq_zero.mp h3.symm with z | z
          · exact z
          · omega
        have hV0 : V = 0 := by
          rw [hT0] at hV
          have := Nat.two_pow_pos (52 - fb)
          rcases Nat.mul_eq_zero.mp hV.symm with z | z
          · exact z
          · omega
        simp [hV0]
    exact_mod_cast key
  have hVlt : V < 4503599627370496 := by
    have := Nat.le_mul_of_pos_right V (Nat.two_pow_pos (52 - fb))
    omega
  have hm : FP.Core.val64 (FP.Core.dmul (FP.Core.dsub (dw 1023 T) (dw 1023 0)) (FP.Core.l2d (Int64.ofInt (2 ^ fb : Nat)))) = FP.Core.round FP.Core.b64 (.fin false (c * 4503599627370496) (q + ((fb : Int) - 52))) := by
    rw [FP.Core.val64_dmul, hs, hy]
    rfl
  have hr := FP.Core.whole_round FP.Core.good_b64 (f := FP.Core.b64) (by unfold FP.Core.Wide; decide) (i := (V : Int)) (by show V ≤ 2 ^ 53; omega) hw
  rw [← hm] at hr
  have eV : (Int64.ofInt (V : Int)).toInt = V := Int64.toInt_ofInt_of_le (by omega) (by omega)
  have nan : ∀ x : UInt64, FP.Core.val64 x ≠ .nan → x.toNat < 9223372036854775808 → vf_n64 x := by
    intro x hx hlt
    have := (FP.Core.ne_nan x).mp hx
    unfold vf_n64
    rw [UInt64.le_iff_toNat_le, UInt64.toNat_and]
    exact Nat.le_trans Nat.and_le_left (by show _ ≤ 9218868437227405312; omega)
  have pos : ∀ x : UInt64, ∀ c q, FP.Core.val64 x = .fin false c q → x.toNat < 9223372036854775808 := by
    intro x c q h
    have := FP.Core.sgn_bits (a := x) (by rw [h]; simp)
    rw [h] at this
    have h2 : decide (2 ^ 63 ≤ x.toNat) = false := this.symm
    have := of_decide_eq_false h2
    omega
  refine ⟨FP.Core.d2l_int (a := Int64.ofInt V) (by show FP.Core.Whole _ _; rw [eV]; exact hr), ?_, ?_⟩
  · exact nan _ (by show FP.Core.val64 (FP.Core.dsub _ _) ≠ _; rw [hs]; simp) (pos _ _ _ hs)
  · have h5 : FP.Core.val64 (FP.Core.dmul (FP.Core.dsub (dw 1023 T) (dw 1023 0)) (FP.Core.l2d (Int64.ofInt (2 ^ fb : Nat)))) = FP.Core.roundRatio FP.Core.b64 false (c * 4503599627370496) 1 (q + ((fb : Int) - 52)) := hm
    have hn := FP.Core.Whole.ne_nan hr
    have hsg := FP.Core.sgn_bits (a := FP.Core.dmul (FP.Core.dsub (dw 1023 T) (dw 1023 0)) (FP.Core.l2d (Int64.ofInt (2 ^ fb : Nat)))) hn
    rw [h5, FP.Core.sgn_roundRatio] at hsg
    have := of_decide_eq_false hsg.symm
    exact nan _ hn (Nat.lt_of_not_le this)
