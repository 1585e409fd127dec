/-! THE TEXT: the class's states and the reference's orders -/
theorem TX.cta {α μ : Mem} (h : TX α μ) {j : Int} (hj : 0 ≤ j) : ct μ j = cat α j := by
  unfold ct cat
  rw [h.1]
  by_cases q : j < μ 133 5
  · rw [if_pos q, if_pos ⟨hj, q⟩]; exact (h.2.2 j hj q).1.symm
  · rw [if_neg q, if_neg (fun r => q r.2)]
theorem TX.x {α μ : Mem} (h : TX α μ) {j : Int} (hj : 0 ≤ j) (q : j < μ 133 5) : μ 136 j = cat α j := by
  rw [← h.cta hj]; unfold ct; rw [if_pos q]
theorem TX.no {α μ : Mem} (h : TX α μ) {j : Int} (q : μ 133 5 ≤ j) : cat α j = -1 := by
  unfold cat; rw [h.1, if_neg (by omega)]
theorem TX.lt {α μ : Mem} (h : TX α μ) {j : Int} (q : 0 ≤ cat α j) : j < μ 133 5 := by
  by_cases r : j < μ 133 5
  · exact r
  · have := h.no (j := j) (by omega); omega
theorem TX.ix {α μ : Mem} (h : TX α μ) : IX μ := ⟨h.2.1, fun i a b => (h.2.2 i a b).2⟩
theorem TX.itt {α μ : Mem} (h : TX α μ) : IT α := ⟨by rw [h.1]; exact h.2.1, fun i a b => by rw [h.1] at b; have g := h.2.2 i a b; rw [g.1]; exact g.2⟩
theorem ct_q {μ ν : Mem} (h5 : ν 133 5 = μ 133 5) (h6 : ∀ j, ν 136 j = μ 136 j) (j : Int) : ct ν j = ct μ j := by unfold ct; rw [h5, h6]
theorem sb_0 {c : Int} : sb 0 c = sbv c := by unfold sb; rw [if_neg (by omega), if_pos rfl]
theorem sb_1 {c : Int} : sb 1 c = if 48 ≤ c ∧ c ≤ 51 then 8 else 9 := by unfold sb; rw [if_neg (by omega), if_neg (by decide), if_pos rfl]
theorem sb_2 {c : Int} : sb 2 c = if 48 ≤ c ∧ c ≤ 51 then 3 else 9 := by unfold sb; rw [if_neg (by omega), if_neg (by decide), if_neg (by decide), if_pos rfl]
theorem sb_3 {c : Int} : sb 3 c = if c = 46 then 4 else 9 := by unfold sb; rw [if_neg (by omega), if_neg (by decide), if_neg (by decide), if_neg (by decide), if_pos rfl]
theorem sb_4 {c : Int} : sb 4 c = if c = 49 then 5 else if isd c then 8 else 9 := by unfold sb; rw [if_neg (by omega), if_neg (by decide), if_neg (by decide), if_neg (by decide), if_neg (by decide), if_pos rfl]
theorem sb_5 {c : Int} : sb 5 c = if c = 59 then 0 else if 48 ≤ c ∧ c ≤ 53 then 8 else 9 := by unfold sb; (repeat' split) <;> omega
theorem sb_6 {c : Int} : sb 6 c = if isd c ∧ c ≠ 48 then 7 else 9 := by unfold sb; (repeat' split) <;> omega
theorem sb_7 {c : Int} : sb 7 c = if c = 59 then 0 else if isd c then 8 else 9 := by unfold sb; (repeat' split) <;> omega
theorem sb_8 {c : Int} : sb 8 c = if c = 59 then 0 else 9 := by unfold sb; (repeat' split) <;> omega
theorem sb_9 {c : Int} : sb 9 c = 9 := by unfold sb; (repeat' split) <;> omega
theorem num_1 {α : Mem} {q : Int} (h1 : isd (cat α q)) (h2 : ¬ isd (cat α (q + 1))) : num α q = cat α q - 48 := by
  have e0 : ((0 : Int), (1 : Int)) = it (numF α q) (0, 1) 0 := rfl
  have e1 := num_next (by decide) e0 (by rw [Int.add_zero]; exact h1)
  have e2 := num_stop (by decide) (by decide) e1 h2
  rw [← e2, Int.add_zero]; omega
theorem num_2 {α : Mem} {q : Int} (h1 : isd (cat α q)) (h2 : isd (cat α (q + 1))) (h3 : ¬ isd (cat α (q + 2))) : num α q = 10 * (cat α q - 48) + cat α (q + 1) - 48 := by
  have e0 : ((0 : Int), (1 : Int)) = it (numF α q) (0, 1) 0 := rfl
  have e1 := num_next (by decide) e0 (by rw [Int.add_zero]; exact h1)
  have e2 := num_next (by decide) e1 h2
  have e3 := num_stop (by decide) (by decide) e2 h3
  rw [← e3, Int.add_zero, show (0 : Int) + 1 = 1 by decide]; omega
/-- an order that is one; one that is none -/
def OG (α μ : Mem) (p q : Int) : Prop := p < q ∧ q ≤ μ 133 5 ∧ (∀ j, p < j → j ≤ q → ast α j ≠ 9) ∧ mayE (ast α q) ∧ (∀ j, p ≤ j → j < q → cat α j ≠ 59) ∧ (q < μ 133 5 → cat α q ≠ 59 → ast α (q + 1) = 9) ∧ ordR μ = cat α p ∧ (q = μ 133 5 ∨ cat α q = 59 → num α (p + 1) = ordM μ 133 7 ∧ (isP2 (cat α p) → num α (p + 3) = ordM μ 133 8)) ∧ (isP2 (cat α p) ∨ q = p + 2 ∨ q = p + 3)
def OB (α μ : Mem) (p q : Int) : Prop := p ≤ q ∧ q ≤ μ 133 5 ∧ (∀ j, p < j → j ≤ q → ast α j ≠ 9) ∧ (q < μ 133 5 → ast α (q + 1) = 9) ∧ (q = μ 133 5 → ¬ mayE (ast α q))
section ORD
variable {α μ : Mem} {p : Int}
theorem sgA (hT : TX α μ) (hp : μ 133 6 = p) (h0 : 0 ≤ p) {lo hi : Int} : sg (adv μ) lo hi ↔ lo ≤ cat α (p + 1) ∧ cat α (p + 1) ≤ hi := by
  have e : ct (adv μ) (adv μ 133 6) = cat α (p + 1) := by rw [ct_q adv5 (fun _ => adv136), adv6, hp, hT.cta (by omega)]
  show (lo ≤ ct (adv μ) (adv μ 133 6) ∧ ct (adv μ) (adv μ 133 6) ≤ hi) ↔ _
  rw [e]
theorem ol_c (hT : TX α μ) (hp : μ 133 6 = p) (h0 : 0 ≤ p) (h : isL (cat α p)) : p < μ 133 5 ∧ ol μ = cat α p := by
  have h1 := hT.lt (j := p) (by omega)
  exact ⟨h1, by unfold ol; rw [hp, if_pos h1]; exact hT.x h0 h1⟩
theorem ast_n {i s : Int} (h : 0 ≤ i) (hs : ast α i = s) : ast α (i + 1) = sb s (cat α i) := by rw [ast_s h, hs]
theorem ord_x (hT : TX α μ) (hp : μ 133 6 = p) (h0 : 0 ≤ p) (h1 : p ≤ μ 133 5) (ha : ast α p = 0) (hL : ¬ isL (cat α p)) : ordR μ = 32 ∧ OB α μ p (ordM μ 133 6) := by
  have hol : ¬ isL (ol μ) := by
    unfold ol; rw [hp]
    by_cases q : p < μ 133 5
    · rw [if_pos q, hT.x h0 q]; exact hL
    · rw [if_neg q]; omega
  rw [ordM_x hol, hp]
  have a1 := ast_n h0 ha
  rw [sb_0] at a1
  refine ⟨(ordR_x hol).symm, Int.le_refl _, h1, fun j a b => by omega, fun _ => ?_, fun _ => by rw [ha]; omega⟩
  rw [a1]; unfold sbv
  rw [if_neg (by omega), if_neg (by omega), if_neg (by omega)]
theorem ord_t (hT : TX α μ) (hp : μ 133 6 = p) (h0 : 0 ≤ p) (ha : ast α p = 0) (hc : cat α p = 116) : (ordR μ ≠ 32 ∧ OG α μ p (ordM μ 133 6)) ∨ (ordR μ = 32 ∧ OB α μ p (ordM μ 133 6)) := by
  have hL : isL (cat α p) := by omega
  obtain ⟨hlt, hol⟩ := ol_c hT hp h0 hL
  have hL' : isL (ol μ) := by rw [hol]; exact hL
  have h116 : ol μ = 116 := by rw [hol, hc]
  have s1 := sgA hT hp h0 (lo := 49) (hi := 57)
  have a1 : ast α (p + 1) = 6 := by rw [ast_n h0 ha, sb_0, hc]; rfl
  have a2 : ast α (p + 2) = sb 6 (cat α (p + 1)) := by rw [show p + 2 = p + 1 + 1 by omega]; exact ast_n (by omega) a1
  rw [ordM_d hL' h116]
  by_cases g1 : sg (adv μ) 49 57
  · have c1 := s1.mp g1
    have l1 := hT.lt (j := p + 1) (by omega)
    have hR : ordR μ = cat α p := by rw [← hol]; exact (ordR_y hL' ((oOk_d h116).mpr g1)).symm
    left
    have x1 : adv μ 136 (adv μ 133 6) = cat α (p + 1) := by rw [adv136, adv6, hp]; exact hT.x (by omega) l1
    have t5 : tdy1 (adv μ) 133 5 = μ 133 5 := by rw [tdy1_5, adv5]
    have t6 : tdy1 (adv μ) 133 6 = p + 2 := by rw [tdy1_6, adv6, hp]; omega
    have s2 : sg (tdy1 (adv μ)) 48 57 ↔ 48 ≤ cat α (p + 2) ∧ cat α (p + 2) ≤ 57 := by
      have e : ct (tdy1 (adv μ)) (tdy1 (adv μ) 133 6) = cat α (p + 2) := by rw [ct_q t5 (fun j => by rw [tdy1_136, adv136]), t6, hT.cta (by omega)]
      show (48 ≤ ct (tdy1 (adv μ)) (tdy1 (adv μ) 133 6) ∧ ct (tdy1 (adv μ)) (tdy1 (adv μ) 133 6) ≤ 57) ↔ _
      rw [e]
    rw [sb_6, if_pos (by omega)] at a2
    have a3 : ast α (p + 3) = sb 7 (cat α (p + 2)) := by rw [show p + 3 = p + 2 + 1 by omega]; exact ast_n (by omega) a2
    rw [sb_7] at a3
    refine ⟨by rw [hR, hc]; decide, ?_⟩
    by_cases g2 : sg (tdy1 (adv μ)) 48 57
    · have c2 := s2.mp g2
      have l2 := hT.lt (j := p + 2) (by omega)
      rw [if_neg (by omega), if_pos (by omega)] at a3
      have a4 : ast α (p + 3 + 1) = sb 8 (cat α (p + 3)) := ast_n (by omega) a3
      rw [sb_8] at a4
      have x2 : adv μ 136 (adv μ 133 6 + 1) = cat α (p + 2) := by rw [adv136, adv6, hp, show p + 1 + 1 = p + 2 by omega]; exact hT.x (by omega) l2
      have eM : ordM μ = adv (up (tdy1 (adv μ)) 133 7 (10 * (adv μ 136 (adv μ 133 6) - 48) + adv μ 136 (adv μ 133 6 + 1) - 48)) := by rw [ordM_d hL' h116]; unfold tdyM; rw [if_pos g1, if_pos g2]
      rw [← ordM_d hL' h116]
      have e6 : ordM μ 133 6 = p + 3 := by rw [eM, adv6, up_ap, if_neg (by omega), t6]; omega
      have e7 : ordM μ 133 7 = 10 * (cat α (p + 1) - 48) + cat α (p + 2) - 48 := by rw [eM, x1, x2]; unfold adv; rw [up_ap, if_neg (by omega), up_ap, if_pos ⟨rfl, rfl⟩]
      rw [e6]
      refine ⟨by omega, by omega, fun j a b => ?_, by rw [a3]; omega, fun j a b => ?_, fun _ w => by rw [a4, if_neg w], hR, fun w => ⟨?_, fun z => by omega⟩, by omega⟩
      · rcases (by omega : j = p + 1 ∨ j = p + 2 ∨ j = p + 3) with e | e | e <;> rw [e] <;> omega
      · rcases (by omega : j = p ∨ j = p + 1 ∨ j = p + 2) with e | e | e <;> rw [e] <;> omega
      · have n3 : ¬ isd (cat α (p + 1 + 2)) := by
          rw [show p + 1 + 2 = p + 3 by omega]
          rcases w with w | w
          · rw [hT.no (by omega)]; omega
          · rw [w]; omega
        rw [e7, num_2 (by omega) (by rw [show p + 1 + 1 = p + 2 by omega]; omega) n3, show p + 1 + 1 = p + 2 by omega]
    · have c2 : ¬ (48 ≤ cat α (p + 2) ∧ cat α (p + 2) ≤ 57) := fun w => g2 (s2.mpr w)
      have eM : ordM μ = tdy1 (adv μ) := by rw [ordM_d hL' h116]; unfold tdyM; rw [if_pos g1, if_neg g2]
      rw [← ordM_d hL' h116]
      have e6 : ordM μ 133 6 = p + 2 := by rw [eM, t6]
      have e7 : ordM μ 133 7 = cat α (p + 1) - 48 := by rw [eM, tdy1_7, x1]
      rw [e6]
      refine ⟨by omega, by omega, fun j a b => ?_, by rw [a2]; omega, fun j a b => ?_, fun _ w => ?_, hR, fun w => ⟨?_, fun z => by omega⟩, by omega⟩
      · rcases (by omega : j = p + 1 ∨ j = p + 2) with e | e <;> rw [e] <;> omega
      · rcases (by omega : j = p ∨ j = p + 1) with e | e <;> rw [e] <;> omega
      · rw [show p + 2 + 1 = p + 3 by omega, a3, if_neg w, if_neg (by omega)]
      · rw [e7]; exact num_1 (by omega) (by rw [show p + 1 + 1 = p + 2 by omega]; omega)
  · have c1 : ¬ (49 ≤ cat α (p + 1) ∧ cat α (p + 1) ≤ 57) := fun w => g1 (s1.mpr w)
    right
    have eM : tdyM (adv μ) = adv μ := by unfold tdyM; rw [if_neg g1]
    rw [eM, adv6, hp]
    refine ⟨(ordR_n (fun w => g1 ((oOk_d h116).mp w))).symm, by omega, by omega, fun j a b => by rw [show j = p + 1 by omega]; omega, fun _ => ?_, fun _ => by rw [a1]; omega⟩
    rw [show p + 1 + 1 = p + 2 by omega, a2, sb_6, if_neg (by omega)]
theorem ord_k (hT : TX α μ) (hp : μ 133 6 = p) (h0 : 0 ≤ p) (ha : ast α p = 0) (hc : cat α p = 97 ∨ cat α p = 112) : (ordR μ ≠ 32 ∧ OG α μ p (ordM μ 133 6)) ∨ (ordR μ = 32 ∧ OB α μ p (ordM μ 133 6)) := by
  have hL : isL (cat α p) := by omega
  obtain ⟨hlt, hol⟩ := ol_c hT hp h0 hL
  have hL' : isL (ol μ) := by rw [hol]; exact hL
  have h116 : ¬ ol μ = 116 := by rw [hol]; omega
  have hP : ¬ isP2 (ol μ) := by rw [hol]; omega
  have s1 := sgA hT hp h0 (lo := 48) (hi := 51)
  have a1 : ast α (p + 1) = 1 := by rw [ast_n h0 ha, sb_0]; unfold sbv; rw [if_pos (by omega)]
  have a2 : ast α (p + 2) = sb 1 (cat α (p + 1)) := by rw [show p + 2 = p + 1 + 1 by omega]; exact ast_n (by omega) a1
  rw [sb_1] at a2
  have eM : ordM μ = tknM (adv μ) := ordM_1 hL' h116 hP
  by_cases g1 : sg (adv μ) 48 51
  · have c1 := s1.mp g1
    have l1 := hT.lt (j := p + 1) (by omega)
    have hR : ordR μ = cat α p := by rw [← hol]; exact (ordR_y hL' ((oOk_k h116).mpr ⟨g1, fun w => absurd w hP⟩)).symm
    left
    have x1 : adv μ 136 (adv μ 133 6) = cat α (p + 1) := by rw [adv136, adv6, hp]; exact hT.x (by omega) l1
    rw [if_pos (by omega)] at a2
    have a3 : ast α (p + 2 + 1) = sb 8 (cat α (p + 2)) := ast_n (by omega) a2
    rw [sb_8] at a3
    have e6 : ordM μ 133 6 = p + 2 := by rw [eM, tkn6, bz_t g1, adv6, hp]; omega
    have e7 : ordM μ 133 7 = cat α (p + 1) - 48 := by rw [eM]; unfold tknM; rw [up_ap, if_neg (by omega), up_ap, if_pos ⟨rfl, rfl⟩, if_pos g1, x1]
    rw [e6]
    refine ⟨by omega, by omega, by omega, fun j a b => ?_, by rw [a2]; omega, fun j a b => ?_, fun _ w => by rw [a3, if_neg w], hR, fun w => ⟨?_, fun z => by omega⟩, by omega⟩
    · rcases (by omega : j = p + 1 ∨ j = p + 2) with e | e <;> rw [e] <;> omega
    · rcases (by omega : j = p ∨ j = p + 1) with e | e <;> rw [e] <;> omega
    · have n3 : ¬ isd (cat α (p + 1 + 1)) := by
        rw [show p + 1 + 1 = p + 2 by omega]
        rcases w with w | w
        · rw [hT.no (by omega)]; omega
        · rw [w]; omega
      rw [e7]; exact num_1 (by omega) n3
  · have c1 : ¬ (48 ≤ cat α (p + 1) ∧ cat α (p + 1) ≤ 51) := fun w => g1 (s1.mpr w)
    right
    have e6 : ordM μ 133 6 = p + 1 := by rw [eM, tkn6, bz_f g1, adv6, hp]; omega
    rw [e6]
    refine ⟨(ordR_n (fun w => g1 ((oOk_k h116).mp w).1)).symm, by omega, by omega, fun j a b => by rw [show j = p + 1 by omega]; omega, fun _ => ?_, fun _ => by rw [a1]; omega⟩
    rw [show p + 1 + 1 = p + 2 by omega, a2, if_neg c1]
theorem ord_d (hT : TX α μ) (hp : μ 133 6 = p) (h0 : 0 ≤ p) (ha : ast α p = 0) (hc : cat α p = 100 ∨ cat α p = 98) : (ordR μ ≠ 32 ∧ OG α μ p (ordM μ 133 6)) ∨ (ordR μ = 32 ∧ OB α μ p (ordM μ 133 6)) := by
  have hL : isL (cat α p) := by omega
  obtain ⟨hlt, hol⟩ := ol_c hT hp h0 hL
  have hL' : isL (ol μ) := by rw [hol]; exact hL
  have h116 : ¬ ol μ = 116 := by rw [hol]; omega
  have hP : isP2 (ol μ) := by rw [hol]; omega
  have s1 := sgA hT hp h0 (lo := 48) (hi := 51)
  have a1 : ast α (p + 1) = 2 := by rw [ast_n h0 ha, sb_0]; unfold sbv; rw [if_neg (by omega), if_pos (by omega)]
  have a2 : ast α (p + 2) = sb 2 (cat α (p + 1)) := by rw [show p + 2 = p + 1 + 1 by omega]; exact ast_n (by omega) a1
  rw [sb_2] at a2
  by_cases g1 : sg (adv μ) 48 51
  · have c1 := s1.mp g1
    have l1 := hT.lt (j := p + 1) (by omega)
    have x1 : adv μ 136 (adv μ 133 6) = cat α (p + 1) := by rw [adv136, adv6, hp]; exact hT.x (by omega) l1
    rw [if_pos (by omega)] at a2
    have a3 : ast α (p + 3) = sb 3 (cat α (p + 2)) := by rw [show p + 3 = p + 2 + 1 by omega]; exact ast_n (by omega) a2
    rw [sb_3] at a3
    have eM : ordM μ = tkyM (tknM (adv μ)) := ordM_2 hL' h116 g1 hP
    generalize hν : tknM (adv μ) = ν at eM
    have n5 : ν 133 5 = μ 133 5 := by rw [← hν, tkn5, adv5]
    have n6 : ν 133 6 = p + 2 := by rw [← hν, tkn6, bz_t g1, adv6, hp]; omega
    have n136 : ∀ j, ν 136 j = μ 136 j := fun j => by rw [← hν, tkn136, adv136]
    have n7 : ν 133 7 = cat α (p + 1) - 48 := by rw [← hν]; unfold tknM; rw [up_ap, if_neg (by omega), up_ap, if_pos ⟨rfl, rfl⟩, if_pos g1, x1]
    have e7 : ordM μ 133 7 = cat α (p + 1) - 48 := by rw [eM, tky_7, n7]
    have s2 : sg ν 46 46 ↔ 46 ≤ cat α (p + 2) ∧ cat α (p + 2) ≤ 46 := by
      have e : ct ν (ν 133 6) = cat α (p + 2) := by rw [ct_q n5 n136, n6, hT.cta (by omega)]
      show (46 ≤ ct ν (ν 133 6) ∧ ct ν (ν 133 6) ≤ 46) ↔ _
      rw [e]
    have s3 : sg (adv ν) 48 57 ↔ 48 ≤ cat α (p + 3) ∧ cat α (p + 3) ≤ 57 := by
      have e : ct (adv ν) (adv ν 133 6) = cat α (p + 3) := by rw [ct_q (μ := μ) (by rw [adv5, n5]) (fun j => by rw [adv136, n136]), adv6, n6, show p + 2 + 1 = p + 3 by omega, hT.cta (by omega)]
      show (48 ≤ ct (adv ν) (adv ν 133 6) ∧ ct (adv ν) (adv ν 133 6) ≤ 57) ↔ _
      rw [e]
    by_cases g2 : sg ν 46 46
    · have c2 := s2.mp g2
      have l2 := hT.lt (j := p + 2) (by omega)
      rw [if_pos (by omega)] at a3
      have a4 : ast α (p + 4) = sb 4 (cat α (p + 3)) := by rw [show p + 4 = p + 3 + 1 by omega]; exact ast_n (by omega) a3
      rw [sb_4] at a4
      by_cases g3 : sg (adv ν) 48 57
      · have c3 := s3.mp g3
        have l3 := hT.lt (j := p + 3) (by omega)
        have hok : oOk μ := (oOk_k h116).mpr ⟨g1, fun _ => by rw [hν]; exact ⟨g2, g3⟩⟩
        have hR : ordR μ = cat α p := by rw [← hol]; exact (ordR_y hL' hok).symm
        have x3 : ν 136 (ν 133 6 + 1) = cat α (p + 3) := by rw [n136, n6, show p + 2 + 1 = p + 3 by omega]; exact hT.x (by omega) l3
        have s4 : sg (tky2 ν) 48 53 ↔ 48 ≤ cat α (p + 4) ∧ cat α (p + 4) ≤ 53 := by
          have e : ct (tky2 ν) (tky2 ν 133 6) = cat α (p + 4) := by rw [ct_q (μ := μ) (by rw [tky2_5, n5]) (fun j => by rw [tky2_136, n136]), tky2_6, n6, show p + 2 + 2 = p + 4 by omega, hT.cta (by omega)]
          show (48 ≤ ct (tky2 ν) (tky2 ν 133 6) ∧ ct (tky2 ν) (tky2 ν 133 6) ≤ 53) ↔ _
          rw [e]
        left
        refine ⟨by rw [hR]; omega, ?_⟩
        have n2 : ∀ {q : Int}, q = p + 4 ∨ q = p + 5 → (q = μ 133 5 ∨ cat α q = 59) → num α (p + 1) = ordM μ 133 7 := fun _ _ => by rw [e7]; exact num_1 (by omega) (by rw [show p + 1 + 1 = p + 2 by omega]; omega)
        by_cases g4 : ν 136 (ν 133 6 + 1) - 48 = 1 ∧ sg (tky2 ν) 48 53
        · have c4 := s4.mp g4.2
          have l4 := hT.lt (j := p + 4) (by omega)
          have c3' : cat α (p + 3) = 49 := by rw [x3] at g4; omega
          rw [if_pos c3'] at a4
          have a5 : ast α (p + 5) = sb 5 (cat α (p + 4)) := by rw [show p + 5 = p + 4 + 1 by omega]; exact ast_n (by omega) a4
          rw [sb_5, if_neg (by omega), if_pos (by omega)] at a5
          have a6 : ast α (p + 5 + 1) = sb 8 (cat α (p + 5)) := ast_n (by omega) a5
          rw [sb_8] at a6
          have x4 : ν 136 (ν 133 6 + 2) = cat α (p + 4) := by rw [n136, n6, show p + 2 + 2 = p + 4 by omega]; exact hT.x (by omega) l4
          have eK : ordM μ = adv (up (tky2 ν) 133 8 (10 + ν 136 (ν 133 6 + 2) - 48)) := by rw [eM]; unfold tkyM; rw [if_pos g2, if_pos g3, if_pos g4]
          have e6 : ordM μ 133 6 = p + 5 := by rw [eK, adv6, up_ap, if_neg (by omega), tky2_6, n6]; omega
          have e8 : ordM μ 133 8 = 10 + cat α (p + 4) - 48 := by rw [eK, x4]; unfold adv; rw [up_ap, if_neg (by omega), up_ap, if_pos ⟨rfl, rfl⟩]
          rw [e6]
          refine ⟨by omega, by omega, fun j a b => ?_, by rw [a5]; omega, fun j a b => ?_, fun _ w => by rw [a6, if_neg w], hR, fun w => ⟨n2 (Or.inr rfl) w, fun z => ?_⟩, by omega⟩
          · rcases (by omega : j = p + 1 ∨ j = p + 2 ∨ j = p + 3 ∨ j = p + 4 ∨ j = p + 5) with e | e | e | e | e <;> rw [e] <;> omega
          · rcases (by omega : j = p ∨ j = p + 1 ∨ j = p + 2 ∨ j = p + 3 ∨ j = p + 4) with e | e | e | e | e <;> rw [e] <;> omega
          · have n3 : ¬ isd (cat α (p + 3 + 2)) := by
              rw [show p + 3 + 2 = p + 5 by omega]
              rcases w with w | w
              · rw [hT.no (by omega)]; omega
              · rw [w]; omega
            rw [e8, num_2 (by omega) (by rw [show p + 3 + 1 = p + 4 by omega]; omega) n3, show p + 3 + 1 = p + 4 by omega, c3']; omega
        · have c4 : ¬ (cat α (p + 3) = 49 ∧ 48 ≤ cat α (p + 4) ∧ cat α (p + 4) ≤ 53) := fun w => g4 ⟨by rw [x3]; omega, s4.mpr w.2⟩
          have eK : ordM μ = tky2 ν := by rw [eM]; unfold tkyM; rw [if_pos g2, if_pos g3, if_neg g4]
          have e6 : ordM μ 133 6 = p + 4 := by rw [eK, tky2_6, n6]; omega
          have e8 : ordM μ 133 8 = cat α (p + 3) - 48 := by rw [eK, tky2_8, x3]
          have a45 : (cat α (p + 3) = 49 ∧ ast α (p + 4) = 5) ∨ (cat α (p + 3) ≠ 49 ∧ ast α (p + 4) = 8) := by
            by_cases w : cat α (p + 3) = 49
            · rw [if_pos w] at a4; exact Or.inl ⟨w, a4⟩
            · rw [if_neg w, if_pos (by omega)] at a4; exact Or.inr ⟨w, a4⟩
          rw [e6]
          refine ⟨by omega, by omega, fun j a b => ?_, by omega, fun j a b => ?_, fun _ w => ?_, hR, fun w => ⟨n2 (Or.inl rfl) w, fun z => ?_⟩, by omega⟩
          · rcases (by omega : j = p + 1 ∨ j = p + 2 ∨ j = p + 3 ∨ j = p + 4) with e | e | e | e <;> rw [e] <;> omega
          · rcases (by omega : j = p ∨ j = p + 1 ∨ j = p + 2 ∨ j = p + 3) with e | e | e | e <;> rw [e] <;> omega
          · rcases a45 with ⟨v, a⟩ | ⟨v, a⟩
            · rw [ast_n (by omega) a, sb_5, if_neg w, if_neg (by omega)]
            · rw [ast_n (by omega) a, sb_8, if_neg w]
          · have n3 : ¬ isd (cat α (p + 3 + 1)) := by
              rw [show p + 3 + 1 = p + 4 by omega]
              rcases w with w | w
              · rw [hT.no (by omega)]; omega
              · rw [w]; omega
            rw [e8]; exact num_1 (by omega) n3
      · have c3 : ¬ (48 ≤ cat α (p + 3) ∧ cat α (p + 3) ≤ 57) := fun w => g3 (s3.mpr w)
        right
        have eK : ordM μ = adv ν := by rw [eM]; unfold tkyM; rw [if_pos g2, if_neg g3]
        have e6 : ordM μ 133 6 = p + 3 := by rw [eK, adv6, n6]; omega
        rw [e6]
        refine ⟨(ordR_n (fun w => g3 (by have := ((oOk_k h116).mp w).2 hP; rw [hν] at this; exact this.2))).symm, by omega, by omega, fun j a b => ?_, fun _ => ?_, fun _ => by rw [a3]; omega⟩
        · rcases (by omega : j = p + 1 ∨ j = p + 2 ∨ j = p + 3) with e | e | e <;> rw [e] <;> omega
        · rw [show p + 3 + 1 = p + 4 by omega, a4, if_neg (by omega), if_neg (by omega)]
    · have c2 : ¬ cat α (p + 2) = 46 := fun w => g2 (s2.mpr (by omega))
      right
      have eK : ordM μ = ν := by rw [eM]; unfold tkyM; rw [if_neg g2]
      have e6 : ordM μ 133 6 = p + 2 := by rw [eK, n6]
      rw [e6]
      refine ⟨(ordR_n (fun w => g2 (by have := ((oOk_k h116).mp w).2 hP; rw [hν] at this; exact this.1))).symm, by omega, by omega, fun j a b => ?_, fun _ => ?_, fun _ => by rw [a2]; omega⟩
      · rcases (by omega : j = p + 1 ∨ j = p + 2) with e | e <;> rw [e] <;> omega
      · rw [show p + 2 + 1 = p + 3 by omega, a3, if_neg c2]
  · have c1 : ¬ (48 ≤ cat α (p + 1) ∧ cat α (p + 1) ≤ 51) := fun w => g1 (s1.mpr w)
    right
    have eM : ordM μ = tknM (adv μ) := ordM_n hL' h116 g1
    have e6 : ordM μ 133 6 = p + 1 := by rw [eM, tkn6, bz_f g1, adv6, hp]; omega
    rw [e6]
    refine ⟨(ordR_n (fun w => g1 ((oOk_k h116).mp w).1)).symm, by omega, by omega, fun j a b => by rw [show j = p + 1 by omega]; omega, fun _ => ?_, fun _ => by rw [a1]; omega⟩
    rw [show p + 1 + 1 = p + 2 by omega, a2, if_neg c1]
theorem ord_cl (hT : TX α μ) (hp : μ 133 6 = p) (h0 : 0 ≤ p) (h1 : p ≤ μ 133 5) (ha : ast α p = 0) : (ordR μ ≠ 32 ∧ OG α μ p (ordM μ 133 6)) ∨ (ordR μ = 32 ∧ OB α μ p (ordM μ 133 6)) := by
  by_cases hL : isL (cat α p)
  · by_cases c1 : cat α p = 116
    · exact ord_t hT hp h0 ha c1
    · by_cases c2 : cat α p = 97 ∨ cat α p = 112
      · exact ord_k hT hp h0 ha c2
      · exact ord_d hT hp h0 ha (by omega)
  · exact Or.inr (ord_x hT hp h0 h1 ha hL)
theorem ast_9 {i j : Int} (h0 : 0 ≤ i) (h : ast α i = 9) (hij : i ≤ j) : ast α j = 9 := by
  obtain ⟨d, rfl⟩ : ∃ d : Nat, j = i + d := ⟨(j - i).toNat, by omega⟩
  clear hij
  induction d with
  | zero => rw [show i + ((0 : Nat) : Int) = i by omega]; exact h
  | succ d ih => rw [show i + ((d + 1 : Nat) : Int) = i + d + 1 by omega, ast_n (by omega) ih, sb_9]
/-- the class's first error -/
theorem erA_q (hT : TX α μ) {q : Int} (h0 : 0 ≤ q) (h1 : q ≤ μ 133 5) (hn : ∀ j, 0 ≤ j → j ≤ q → ast α j ≠ 9) (h9 : q < μ 133 5 → ast α (q + 1) = 9) : erA α = q := by
  have key : ∀ d : Nat, (d : Int) ≤ q → fs (fun j => ast α (j + 1) = 9) d = -1 := by
    intro d
    induction d with
    | zero => intro _; rfl
    | succ d ih =>
      intro hd
      exact fs_miss (i := (d : Int)) (by omega) (ih (by omega)) (hn _ (by omega) (by omega))
  have k1 := key q.toNat (by omega)
  rw [show ((q.toNat : Nat) : Int) = q by omega] at k1
  unfold erA
  rw [hT.1]
  by_cases e : q = μ 133 5
  · rw [← e, if_pos k1]
  · have k2 := fs_hit (j := μ 133 5) h0 (by omega) k1 (h9 (by omega))
    rw [← k2, if_neg (by omega)]
end ORD
/-- along the errors' walk -/
def EW (α β : Mem) (i : Int) (μ : Mem) (f : Int) : Prop := TX α μ ∧ μ 133 5 = β 133 5 ∧ (f = 0 → i ≤ μ 133 6 ∧ μ 133 6 ≤ β 133 5 ∧ ast α (μ 133 6) = 0 ∧ ∀ j, 0 ≤ j → j ≤ μ 133 6 → ast α j ≠ 9) ∧ (f = 1 → mayE (ast α (β 133 5)) ∧ ∀ j, 0 ≤ j → j ≤ β 133 5 → ast α j ≠ 9) ∧ (f ≠ 0 → f ≠ 1 → ¬ mayE (ast α (β 133 5)) ∧ erA α = μ 133 6)
theorem TX.q {α μ ν : Mem} (h : TX α μ) (h5 : ν 133 5 = μ 133 5) (h6 : ∀ j, ν 136 j = μ 136 j) : TX α ν := ⟨by rw [h5]; exact h.1, by rw [h5]; exact h.2.1, fun j a b => by rw [h5] at b; rw [h6]; exact h.2.2 j a b⟩
theorem EW_s {α β μ : Mem} {i f : Int} (h0 : 0 ≤ i) (h : EW α β i μ f) : EW α β (i + 1) (erF i (μ, f)).1 (erF i (μ, f)).2 := by
  obtain ⟨hT1, h5, g0, g1, g2⟩ := h
  by_cases hf : f = 0
  · subst hf
    obtain ⟨p0, p1, p2, p3⟩ := g0 rfl
    have oT : TX α (ordM μ) := hT1.q (ordM_o (by omega)) (fun _ => ordM_o (by omega))
    have o5 : ordM μ 133 5 = β 133 5 := by rw [ordM_o (by omega)]; exact h5
    rcases ord_cl hT1 (p := μ 133 6) rfl (by omega) (by rw [h5]; exact p1) p2 with ⟨hr, k1, k2, k3, k4, k5, k6, k7, k8⟩ | ⟨hr, k1, k2, k3, k4, k5⟩
    · by_cases e1 : ordM μ 133 6 = ordM μ 133 5
      · rw [erF_e hr e1]
        show EW α β (i + 1) (ordM μ) 1
        refine ⟨oT, o5, fun q => absurd q (show ¬ (1 : Int) = 0 by decide), fun _ => ?_, fun _ q => absurd rfl q⟩
        rw [← o5, ← e1]
        refine ⟨k4, fun j a b => ?_⟩
        by_cases c : j ≤ μ 133 6
        · exact p3 j a c
        · exact k3 j (by omega) b
      · have hlt : ordM μ 133 6 < μ 133 5 := by omega
        have hx : ordM μ 136 (ordM μ 133 6) = cat α (ordM μ 133 6) := oT.x (by omega) (by omega)
        by_cases e2 : ordM μ 136 (ordM μ 133 6) = 59
        · rw [erF_g hr e1 e2]
          show EW α β (i + 1) (adv (ordM μ)) 0
          refine ⟨oT.q adv5 (fun _ => adv136), adv5.trans o5, fun _ => ?_, fun q => absurd q (show ¬ (0 : Int) = 1 by decide), fun q => absurd rfl q⟩
          rw [adv6]
          have a0 : ast α (ordM μ 133 6 + 1) = 0 := by
            rw [ast_n (by omega) rfl, ← hx, e2]
            unfold sb; rw [if_pos ⟨rfl, k4⟩]
          refine ⟨by omega, by omega, a0, fun j a b => ?_⟩
          by_cases c : j ≤ μ 133 6
          · exact p3 j a c
          · by_cases d : j ≤ ordM μ 133 6
            · exact k3 j (by omega) d
            · rw [show j = ordM μ 133 6 + 1 by omega, a0]; omega
        · rw [erF_n hr e1 e2]
          show EW α β (i + 1) (ordM μ) 2
          have a9 := k6 hlt (by rw [← hx]; exact e2)
          refine ⟨oT, o5, fun q => absurd q (show ¬ (2 : Int) = 0 by decide), fun q => absurd q (show ¬ (2 : Int) = 1 by decide), fun _ _ => ⟨?_, ?_⟩⟩
          · rw [ast_9 (by omega) a9 (by omega)]; omega
          · refine erA_q hT1 (by omega) k2 (fun j a b => ?_) (fun _ => a9)
            by_cases c : j ≤ μ 133 6
            · exact p3 j a c
            · exact k3 j (by omega) b
    · rw [erF_x hr]
      show EW α β (i + 1) (ordM μ) 2
      refine ⟨oT, o5, fun q => absurd q (show ¬ (2 : Int) = 0 by decide), fun q => absurd q (show ¬ (2 : Int) = 1 by decide), fun _ _ => ⟨?_, ?_⟩⟩
      · by_cases c : ordM μ 133 6 = μ 133 5
        · rw [← h5, ← c]; exact k5 c
        · have a9 := k4 (by omega)
          rw [ast_9 (by omega) a9 (by omega)]; omega
      · refine erA_q hT1 (by omega) k2 (fun j a b => ?_) k4
        by_cases c : j ≤ μ 133 6
        · exact p3 j a c
        · exact k3 j (by omega) b
  · have e : erF i (μ, f) = (μ, f) := by unfold erF; rw [if_pos (show (μ, f).2 ≠ 0 from hf)]
    rw [e]
    exact ⟨hT1, h5, fun q => absurd q hf, g1, g2⟩
theorem EW_all {α β : Mem} (hT : TX α β) : EW α β 61 (erI β 61).1 (erI β 61).2 := by
  have e6 : up β 133 6 0 133 6 = 0 := by rw [up_ap, if_pos ⟨rfl, rfl⟩]
  have e5 : up β 133 6 0 133 5 = β 133 5 := by rw [up_ap, if_neg (by omega)]
  have hN := hT.2.1
  have h0 : EW α β 0 (up β 133 6 0) 0 := by
    refine ⟨hT.q e5 (fun _ => by rw [up_ap, if_neg (by omega)]), e5, fun _ => ?_, fun q => absurd q (show ¬ (0 : Int) = 1 by decide), fun q => absurd rfl q⟩
    rw [e6]
    have z : ast α 0 = 0 := rfl
    exact ⟨by decide, hN.1, z, fun j a b => by rw [show j = 0 by omega, z]; omega⟩
  exact it_inv (f := erF) (a := (up β 133 6 0, 0)) (n := 61) (i := 61) (fun i v => EW α β i v.1 v.2) h0 (fun i v a _ h => EW_s a h) (by decide) (by decide)
theorem er_cl {α β : Mem} (hT : TX α β) : (erR β < 0 ↔ mayE (ast α (β 133 5))) ∧ erA α = if erR β < 0 then β 133 5 else erR β := by
  obtain ⟨hT1, h5, g0, g1, g2⟩ := EW_all hT
  have h6 := er_6 hT.ix (i := 61) (by decide)
  have hN := hT.2.1
  by_cases f0 : (erI β 61).2 = 0
  · obtain ⟨p0, p1, p2, p3⟩ := g0 f0; omega
  · by_cases f1 : (erI β 61).2 = 1
    · have g := g1 f1
      have e : erR β = -1 := by unfold erR; rw [if_pos f1]
      rw [e]
      exact ⟨⟨fun _ => g.1, fun _ => by decide⟩, by rw [if_pos (by decide)]; exact erA_q hT hN.1 (Int.le_refl _) g.2 (fun q => absurd q (by omega))⟩
    · have g := g2 f0 f1
      have e : erR β = (erI β 61).1 133 6 := by unfold erR; rw [if_neg f1]
      rw [e]
      exact ⟨⟨fun q => by omega, fun q => absurd q g.1⟩, by rw [if_neg (by omega)]; exact g.2⟩
