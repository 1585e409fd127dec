/-! SAVED STATES, SNAPSHOTS, TEXT: all that class (α) and reference (β) hold -/
theorem R1.mc {α β α' β' : Mem} (h : R1 α β) (ea : ∀ k j, inC k j → α' (k + 1) j = α (k + 1) j) (eb : ∀ j, 0 ≤ j → j < 291 → β' 134 j = β 134 j) : R1 α' β' := by
  have a2 : α' 2 0 = α 2 0 := ea 1 0 (Or.inl ⟨rfl, rfl⟩)
  have a3 : ∀ k, 0 ≤ k ∧ k < 4 → α' 3 k = α 3 k := fun k hk => ea 2 k (Or.inr (Or.inl ⟨rfl, hk.1, hk.2⟩))
  have a4 : ∀ c j, 4 ≤ c → c ≤ 7 → 0 ≤ j → j < 64 → α' c j = α c j := fun c j p q r s => by
    obtain ⟨k, rfl⟩ : ∃ k, c = k + 1 := ⟨c - 1, by omega⟩
    exact ea k j (Or.inr (Or.inr (Or.inl ⟨by omega, by omega, r, s⟩)))
  have a8 : ∀ j, 5 ≤ j → j ≤ 7 → α' 8 j = α 8 j := fun j p q => ea 7 j (Or.inr (Or.inr (Or.inr (Or.inl ⟨rfl, p, q⟩))))
  have a9 : ∀ c k, 9 ≤ c → c ≤ 13 → 0 ≤ k ∧ k < 4 → α' c k = α c k := fun c j p q r => by
    obtain ⟨k, rfl⟩ : ∃ k, c = k + 1 := ⟨c - 1, by omega⟩
    exact ea k j (Or.inr (Or.inr (Or.inr (Or.inr (Or.inl ⟨by omega, by omega, r.1, r.2⟩)))))
  have a14 : ∀ j, 0 ≤ j → j < 3 → α' 14 j = α 14 j := fun j p q => ea 13 j (Or.inr (Or.inr (Or.inr (Or.inr (Or.inr ⟨rfl, p, q⟩)))))
  have h := h.m (α' := α) (β' := β') (fun _ _ _ => rfl) eb
  obtain ⟨h1, h2, h3, h4, h5, h6⟩ := h
  refine ⟨by rw [a2]; exact h1, by rw [a14 0 (by decide) (by decide), a14 1 (by decide) (by decide), a14 2 (by decide) (by decide)]; exact h2, fun k hk => by rw [a3 k hk]; exact h3 k hk, fun k y hk hy => ?_, ⟨fun k hk => ?_, ?_, fun k hk => ?_, ?_⟩, h6⟩
  · have g := h4 k y hk hy
    unfold RK at g ⊢
    rw [a4 4 _ (by decide) (by decide) (by omega) (by omega), a4 5 _ (by decide) (by decide) (by omega) (by omega), a4 6 _ (by decide) (by decide) (by omega) (by omega), a4 7 _ (by decide) (by decide) (by omega) (by omega), a2]
    exact g
  · rw [a9 9 k (by decide) (by decide) hk, a9 10 k (by decide) (by decide) hk, a9 11 k (by decide) (by decide) hk, a9 12 k (by decide) (by decide) hk, a9 13 k (by decide) (by decide) hk]; exact h5.1 k hk
  · rw [a8 5 (by decide) (by decide), a8 6 (by decide) (by decide), a8 7 (by decide) (by decide)]; exact h5.2.1
  · rw [a9 13 k (by decide) (by decide) hk]; exact h5.2.2.1 k hk
  · rw [a8 6 (by decide) (by decide), a8 7 (by decide) (by decide)]; exact h5.2.2.2
/-- a Compost at b; a stretch t -/
def vC (α : Mem) (b : Nat) : Mem := fun c j => α (b + c - 1) j
def vS (β : Mem) (t : Int) : Mem := fun c j => β c (291 * t + j)
theorem vC_k {α : Mem} {b k : Nat} {j : Int} : vC α b (k + 1) j = α (b + k) j := rfl
theorem R1.vv {α β α' β' : Mem} {b b' : Nat} {t t' : Int} (h : R1 (vC α b) (vS β t)) (ea : ∀ k j, inC k j → α' (b' + k) j = α (b + k) j) (eb : ∀ j, 0 ≤ j → j < 291 → β' 134 (291 * t' + j) = β 134 (291 * t + j)) : R1 (vC α' b') (vS β' t') := h.mc (fun k j q => ea k j q) eb
theorem R1.in_ {α β α' β' : Mem} {b' : Nat} {t' : Int} (h : R1 α β) (ea : ∀ k j, inC k j → α' (b' + k) j = α (1 + k) j) (eb : ∀ j, 0 ≤ j → j < 291 → β' 134 (291 * t' + j) = β 134 j) : R1 (vC α' b') (vS β' t') := h.mc (fun k j q => (ea k j q).trans (by rw [Nat.add_comm])) eb
theorem R1.out {α β α' β' : Mem} {b : Nat} {t : Int} (h : R1 (vC α b) (vS β t)) (ea : ∀ k j, inC k j → α' (1 + k) j = α (b + k) j) (eb : ∀ j, 0 ≤ j → j < 291 → β' 134 j = β 134 (291 * t + j)) : R1 α' β' := h.mc (fun k j q => (congrFun (congrArg α' (Nat.add_comm k 1)) j).trans (ea k j q)) eb
theorem inC_k {k : Nat} {j : Int} (h : inC k j) : 1 ≤ k ∧ k < 14 := by unfold inC at h; omega
abbrev bX (α : Mem) (i : Int) : Nat := 17 + 14 * (α 16 i).toNat
abbrev bY (q : Int) : Nat := 102 + 14 * q.toNat
def XI (α : Mem) : Prop := XC α ∧ ∀ i j, 0 ≤ i → i < j → j < 6 → α 16 i ≠ α 16 j
def SV (α β : Mem) : Prop := α 15 1 = β 133 1 ∧ (0 ≤ β 133 1 ∧ β 133 1 ≤ 6) ∧ XI α ∧ ∀ i, 0 ≤ i → i < β 133 1 → R1 (vC α (bX α i)) (vS β (i + 1))
def SL (α β : Mem) : Prop := ∀ q, 0 ≤ q → q ≤ 1 → α 130 q = β 135 q ∧ (β 135 q = 0 ∨ β 135 q = 1) ∧ (β 135 q = 1 → R1 (vC α (bY q)) (vS β (7 + q)))
def TX (α β : Mem) : Prop := α 131 1 = β 133 5 ∧ (0 ≤ β 133 5 ∧ β 133 5 ≤ 60) ∧ ∀ j, 0 ≤ j → j < β 133 5 → α 132 j = β 136 j ∧ 33 ≤ β 136 j ∧ β 136 j ≤ 126
def RG (α β : Mem) : Prop := R1 α β ∧ SV α β ∧ SL α β ∧ TX α β
theorem XI.ne {α : Mem} (h : XI α) {i j : Int} (hi : 0 ≤ i ∧ i < 6) (hj : 0 ≤ j ∧ j < 6) (hne : i ≠ j) : α 16 i ≠ α 16 j := by
  rcases Int.lt_or_gt_of_ne hne with q | q
  · exact h.2 i j hi.1 q hj.2
  · exact fun e => h.2 j i hj.1 q hi.2 e.symm
theorem bX_ne {a b : Int} {k : Nat} (ha : 0 ≤ a ∧ a < 6) (hb : 0 ≤ b ∧ b < 6) (h : a ≠ b) (hk : k < 14) : 17 + 14 * a.toNat + k < 17 + 14 * b.toNat ∨ 17 + 14 * b.toNat + 13 < 17 + 14 * a.toNat + k := by omega
/-- other memories with the same -/
theorem RG.m {α β α' β' : Mem} (h : RG α β) (ea : ∀ c, 1 ≤ c → c < 133 → α' c = α c) (e4 : ∀ j, j < 2619 → β' 134 j = β 134 j) (e1 : β' 133 1 = β 133 1) (e5 : β' 133 5 = β 133 5) (eK : ∀ j, β' 135 j = β 135 j) (eT : ∀ j, β' 136 j = β 136 j) : RG α' β' := by
  obtain ⟨h1, ⟨v1, v2, v3, v4⟩, h3, h4⟩ := h
  refine ⟨h1.m (fun c a b => ea c a (by omega)) (fun j _ b => e4 j (by omega)), ⟨by rw [ea 15 (by decide) (by decide), e1]; exact v1, by rw [e1]; exact v2, ?_, fun i a b => ?_⟩, fun q a b => ?_, ?_⟩
  · unfold XI XC at *; rw [ea 16 (by decide) (by decide)]; exact v3
  · rw [e1] at b
    have x := v3.1 i a (by omega)
    have e16 : bX α' i = bX α i := by unfold bX; rw [ea 16 (by decide) (by decide)]
    rw [e16]
    refine (v4 i a b).vv (fun k j q => by have := inC_k q; have hbb : bX α i = 17 + 14 * (α 16 i).toNat := rfl; rw [ea _ (by omega) (by omega)]) (fun j p q => e4 _ (by omega))
  · have g := h3 q a b
    rw [ea 130 (by decide) (by decide), eK]
    exact ⟨g.1, g.2.1, fun r => (g.2.2 r).vv (fun k j w => by have := inC_k w; have hbb : bY q = 102 + 14 * q.toNat := rfl; rw [ea _ (by omega) (by omega)]) (fun j p r => e4 _ (by omega))⟩
  · unfold TX at *
    rw [ea 131 (by decide) (by decide), ea 132 (by decide) (by decide), e5]
    exact ⟨h4.1, h4.2.1, fun j a b => by rw [eT]; exact h4.2.2 j a b⟩
/-- first the class's cells, then the reference's -/
theorem RG.two {α β : Mem} (h : RG α β) (e : ∀ c, 1 ≤ c → c < 133 → β c = α c) : RG β β := h.m e (fun _ _ => rfl) rfl rfl (fun _ => rfl) (fun _ => rfl)
theorem RG.fst {σ α : Mem} (h : RG σ σ) (e : ∀ c, 133 ≤ c → c < 137 → α c = σ c) : RG σ α := h.m (fun _ _ _ => rfl) (fun j _ => by rw [e 134 (by decide) (by decide)]) (by rw [e 133 (by decide) (by decide)]) (by rw [e 133 (by decide) (by decide)]) (fun _ => by rw [e 135 (by decide) (by decide)]) (fun _ => by rw [e 136 (by decide) (by decide)])
/-- an order on the state that is now -/
theorem RG.op {α β α' β' : Mem} (h : RG α β) (h1 : R1 α' β') (ea : ∀ c, 15 ≤ c → c < 133 → α' c = α c) (e4 : ∀ j, 291 ≤ j → j < 2619 → β' 134 j = β 134 j) (e1 : β' 133 1 = β 133 1) (e5 : β' 133 5 = β 133 5) (eK : ∀ j, β' 135 j = β 135 j) (eT : ∀ j, β' 136 j = β 136 j) : RG α' β' := by
  obtain ⟨_, ⟨v1, v2, v3, v4⟩, h3, h4⟩ := h
  refine ⟨h1, ⟨by rw [ea 15 (by decide) (by decide), e1]; exact v1, by rw [e1]; exact v2, ?_, fun i a b => ?_⟩, fun q a b => ?_, ?_⟩
  · unfold XI XC at *; rw [ea 16 (by decide) (by decide)]; exact v3
  · rw [e1] at b
    have x := v3.1 i a (by omega)
    have e16 : bX α' i = bX α i := by unfold bX; rw [ea 16 (by decide) (by decide)]
    rw [e16]
    refine (v4 i a b).vv (fun k j q => by have := inC_k q; have hbb : bX α i = 17 + 14 * (α 16 i).toNat := rfl; rw [ea _ (by omega) (by omega)]) (fun j p q => e4 _ (by omega) (by omega))
  · have g := h3 q a b
    rw [ea 130 (by decide) (by decide), eK]
    exact ⟨g.1, g.2.1, fun r => (g.2.2 r).vv (fun k j w => by have := inC_k w; have hbb : bY q = 102 + 14 * q.toNat := rfl; rw [ea _ (by omega) (by omega)]) (fun j p r => e4 _ (by omega) (by omega))⟩
  · unfold TX at *
    rw [ea 131 (by decide) (by decide), ea 132 (by decide) (by decide), e5]
    exact ⟨h4.1, h4.2.1, fun j a b => by rw [eT]; exact h4.2.2 j a b⟩
theorem sgc_v {σ : Mem} {f t i j : Int} (h : 0 ≤ j ∧ j < i) : sgc σ f t i 134 (291 * t + j) = σ 134 (291 * f + j) := by
  have e : sgc σ f t i 134 (291 * t + j) = σ 134 (291 * t + j - 291 * t + 291 * f) := if_pos ⟨rfl, by omega, by omega⟩
  rw [e]; exact m_at (by omega)
theorem shfc_in {σ : Mem} {j : Int} (h : 291 ≤ j ∧ j < 291 * 6) : shfc σ 6 134 j = σ 134 (j + 291) := if_pos ⟨rfl, h.1, h.2⟩
theorem sgc_c {σ : Mem} {f t i j : Int} {c : Nat} (h : c ≠ 134) : sgc σ f t i c j = σ c j := by simp only [sgc]; rw [if_neg (fun q => h q.1)]
theorem goM_lt {β : Mem} (h : ¬ β 133 1 = 6) : goM β = sgc (up (up β 133 3 0) 133 1 (β 133 1 + 1)) 0 (β 133 1 + 1) 291 := by
  have e : (up β 133 3 0) 133 1 = β 133 1 := by rw [up_ap, if_neg (by omega)]
  unfold goM svM
  rw [e, if_neg h]
theorem goM_6 {β : Mem} (h : β 133 1 = 6) : goM β = sgc (up (shfc (up β 133 3 0) 6) 133 1 6) 0 6 291 := by
  have e : (up β 133 3 0) 133 1 = β 133 1 := by rw [up_ap, if_neg (by omega)]
  unfold goM svM
  rw [e, if_pos h]
theorem goM_1 {β : Mem} (h : 0 ≤ β 133 1 ∧ β 133 1 ≤ 6) : 0 ≤ goM β 133 1 ∧ goM β 133 1 ≤ 6 := by
  by_cases q : β 133 1 = 6
  · rw [goM_6 q, sgc_c (by decide), up_ap, if_pos ⟨rfl, rfl⟩]; decide
  · rw [goM_lt q, sgc_c (by decide), up_ap, if_pos ⟨rfl, rfl⟩]; omega
theorem goM_0 {β : Mem} {j : Int} (hs : 0 ≤ β 133 1 ∧ β 133 1 ≤ 6) (h : j < 291) : goM β 134 j = β 134 j := by
  unfold goM
  have e : (up β 133 3 0) 133 1 = β 133 1 := by rw [up_ap, if_neg (by omega)]
  rw [svM_0 (by rw [e]; exact hs) h, up_ap, if_neg (by omega)]
theorem SV.push {α β : Mem} (h1 : R1 α β) (h : SV α β) : SV (pus α) (goM β) := by
  obtain ⟨v1, v2, v3, v4⟩ := h
  have hx := v3.1
  by_cases hs : β 133 1 = 6
  · have x0 := hx 0 (by decide) (by decide)
    have hp : pus α = psh (dro α) := by unfold pus; rw [if_neg (by omega)]
    have d5 : dro α 15 1 = 5 := dro_15
    have d16 : dro α 16 5 = α 16 0 := by rw [dro_16 (by decide) (by decide)]; rfl
    have p16 : ∀ i, 0 ≤ i → i < 6 → pus α 16 i = α 16 ((i + 1) % 6) := fun i a b => by rw [hp, psh_o (by decide), csp_o (by omega), dro_16 a b]
    have pc : ∀ c, 17 ≤ c → pus α c = csp (dro α) 1 (17 + 14 * (α 16 0).toNat) c := fun c a => by rw [hp, psh_o (by omega), d5, d16]
    have g1 : goM β 133 1 = 6 := by rw [goM_6 hs, sgc_c (by decide), up_ap, if_pos ⟨rfl, rfl⟩]
    refine ⟨?_, by rw [g1]; decide, ⟨fun i a b => by rw [p16 i a b]; exact hx _ (by omega) (by omega), fun i j a b c => by rw [p16 i a (by omega), p16 j (by omega) c]; exact v3.ne ⟨by omega, by omega⟩ ⟨by omega, by omega⟩ (by omega)⟩, fun i a b => ?_⟩
    · rw [g1, hp]
      show up _ 15 1 _ 15 1 = 6
      rw [up_ap, if_pos ⟨rfl, rfl⟩, csp_o (by omega), d5]; rfl
    · rw [g1] at b
      have b0 : bX (pus α) i = 17 + 14 * (α 16 ((i + 1) % 6)).toNat := by unfold bX; rw [p16 i a b]
      rw [b0]
      by_cases h5 : i = 5
      · subst h5
        refine h1.in_ (fun k j q => ?_) (fun j p q => ?_)
        · have hk := inC_k q
          rw [show ((5 : Int) + 1) % 6 = 0 by decide, pc _ (by omega), csp_t (by unfold dsj; omega) q, dro_o (by omega) (by omega)]
        · rw [goM_6 hs, show (5 : Int) + 1 = 6 by decide, sgc_v ⟨p, q⟩, up_ap, if_neg (by omega)]
          simp only [shfc]
          rw [if_neg (by omega), up_ap, if_neg (by omega)]; exact m_at (by omega)
      · have e6 : (i + 1) % 6 = i + 1 := by omega
        rw [e6]
        refine (v4 (i + 1) (by omega) (by omega)).vv (fun k j q => ?_) (fun j p q => ?_)
        · have hk := inC_k q
          have xi := hx (i + 1) (by omega) (by omega)
          have ne := bX_ne xi x0 (v3.ne (i := i + 1) (j := 0) ⟨by omega, by omega⟩ ⟨by omega, by omega⟩ (by omega)) hk.2
          rw [pc _ (by omega), csp_o (by omega), dro_o (by omega) (by omega)]
        · rw [goM_6 hs, sgc_at (by omega), up_ap, if_neg (by omega)]
          rw [shfc_in (by omega), up_ap, if_neg (by omega)]; exact m_at (by omega)
  · have xs := hx (β 133 1) (by omega) (by omega)
    have hp : pus α = psh α := by unfold pus; rw [if_pos (by omega)]
    have p16 : ∀ i, pus α 16 i = α 16 i := fun i => by rw [hp, psh_o (by decide), csp_o (by omega)]
    have pc : ∀ c, 17 ≤ c → pus α c = csp α 1 (17 + 14 * (α 16 (β 133 1)).toNat) c := fun c a => by rw [hp, psh_o (by omega), v1]
    have g1 : goM β 133 1 = β 133 1 + 1 := by rw [goM_lt hs, sgc_c (by decide), up_ap, if_pos ⟨rfl, rfl⟩]
    refine ⟨?_, by rw [g1]; omega, ⟨fun i a b => by rw [p16]; exact hx i a b, fun i j a b c => by rw [p16, p16]; exact v3.2 i j a b c⟩, fun i a b => ?_⟩
    · rw [g1, hp]
      show up _ 15 1 _ 15 1 = _
      rw [up_ap, if_pos ⟨rfl, rfl⟩, csp_o (by omega), v1]
    · rw [g1] at b
      have b0 : bX (pus α) i = 17 + 14 * (α 16 i).toNat := by unfold bX; rw [p16]
      rw [b0]
      by_cases h5 : i = β 133 1
      · subst h5
        refine h1.in_ (fun k j q => ?_) (fun j p q => ?_)
        · have hk := inC_k q
          rw [pc _ (by omega), csp_t (by unfold dsj; omega) q]
        · rw [goM_lt hs, sgc_v ⟨p, q⟩, up_ap, if_neg (by omega), up_ap, if_neg (by omega)]; exact m_at (by omega)
      · refine (v4 i a (by omega)).vv (fun k j q => ?_) (fun j p q => ?_)
        · have hk := inC_k q
          have xi := hx i a (by omega)
          have ne := bX_ne xi xs (v3.ne (i := i) (j := β 133 1) ⟨by omega, by omega⟩ ⟨by omega, by omega⟩ h5) hk.2
          rw [pc _ (by omega), csp_o (by omega)]
        · rw [goM_lt hs, sgc_at (by omega), up_ap, if_neg (by omega), up_ap, if_neg (by omega)]
theorem RG.xc {α β : Mem} (h : RG α β) : XC α ∧ 0 ≤ α 15 1 ∧ α 15 1 ≤ 6 := ⟨h.2.1.2.2.1.1, by rw [h.2.1.1]; exact h.2.1.2.1⟩
theorem RG.push {α β : Mem} (h : RG α β) : RG (pus α) (goM β) := by
  have x := h.xc
  have hs := h.2.1.2.1
  obtain ⟨h1, h2, h3, h4⟩ := h
  refine ⟨h1.m (fun c _ b => pus_o x.1 x.2 (Or.inl b)) (fun j _ b => goM_0 hs b), h2.push h1, fun q a b => ?_, ?_⟩
  · have g := h3 q a b
    rw [pus_o x.1 x.2 (Or.inr (by decide)), goM_o (by decide) (by omega)]
    exact ⟨g.1, g.2.1, fun r => (g.2.2 r).vv (fun k j w => by have hbb : bY q = 102 + 14 * q.toNat := rfl; rw [pus_o x.1 x.2 (Or.inr (by omega))]) (fun j p r => goM_7 hs ⟨rfl, by omega⟩)⟩
  · unfold TX at *
    rw [pus_o x.1 x.2 (Or.inr (by decide)), pus_o x.1 x.2 (Or.inr (by decide)), goM_o (by decide) (by omega)]
    exact ⟨h4.1, h4.2.1, fun j a b => by rw [goM_o (by decide) (by omega)]; exact h4.2.2 j a b⟩
/-- undone -/
def unM (β : Mem) : Mem := up (sgc (up β 133 3 0) (β 133 1) 0 291) 133 1 (β 133 1 - 1)
theorem RG.undo {α β : Mem} (h : RG α β) (hp : 0 < β 133 1) : RG (pop α) (unM β) := by
  obtain ⟨h1, ⟨v1, v2, v3, v4⟩, h3, h4⟩ := h
  have hx := v3.1 (β 133 1 - 1) (by omega) (by omega)
  have e : pop α = csp (up α 15 1 (β 133 1 - 1)) (17 + 14 * (α 16 (β 133 1 - 1)).toNat) 1 := by unfold pop; rw [if_neg (by omega), v1]
  have po : ∀ c, 16 ≤ c → pop α c = α c := fun c a => by rw [e, csp_o (by omega), up_o (by omega)]
  have u1 : unM β 133 1 = β 133 1 - 1 := by unfold unM; rw [up_ap, if_pos ⟨rfl, rfl⟩]
  have uo : ∀ c j, c ≠ 134 → (c ≠ 133 ∨ (j ≠ 1 ∧ j ≠ 3)) → unM β c j = β c j := fun c j a b => by unfold unM; rw [up_ap, if_neg (by omega), sgc_c a, up_ap, if_neg (by omega)]
  have u4 : ∀ j, 291 ≤ j → unM β 134 j = β 134 j := fun j a => by unfold unM; rw [up_ap, if_neg (by omega), sgc_at (by omega), up_ap, if_neg (by omega)]
  have hn : R1 (pop α) (unM β) := by
    refine (v4 (β 133 1 - 1) (by omega) (by omega)).out (fun k j q => ?_) (fun j p q => ?_)
    · have hk := inC_k q
      rw [e, csp_t (by unfold dsj; omega) q, up_o (by omega)]
    · have s0 := sgc_v (σ := up β 133 3 0) (f := β 133 1) (t := 0) (i := 291) (j := j) ⟨p, q⟩
      rw [show 291 * 0 + j = j by omega] at s0
      unfold unM
      rw [up_ap, if_neg (by omega), s0, up_ap, if_neg (by omega)]; exact m_at (by omega)
  refine ⟨hn, ⟨?_, by rw [u1]; omega, ?_, fun i a b => ?_⟩, fun q a b => ?_, ?_⟩
  · rw [u1, e, csp_o (by omega), up_ap, if_pos ⟨rfl, rfl⟩]
  · unfold XI XC at *; rw [po 16 (by decide)]; exact v3
  · rw [u1] at b
    have e16 : bX (pop α) i = bX α i := by unfold bX; rw [po 16 (by decide)]
    rw [e16]
    refine (v4 i a (by omega)).vv (fun k j q => by have hbb : bX α i = 17 + 14 * (α 16 i).toNat := rfl; rw [po _ (by omega)]) (fun j p q => u4 _ (by omega))
  · have g := h3 q a b
    rw [po 130 (by decide), uo _ _ (by decide) (by omega)]
    exact ⟨g.1, g.2.1, fun r => (g.2.2 r).vv (fun k j w => by have hbb : bY q = 102 + 14 * q.toNat := rfl; rw [po _ (by omega)]) (fun j p r => u4 _ (by omega))⟩
  · unfold TX at *
    rw [po 131 (by decide), po 132 (by decide), uo _ _ (by decide) (by omega)]
    exact ⟨h4.1, h4.2.1, fun j a b => by rw [uo _ _ (by decide) (by omega)]; exact h4.2.2 j a b⟩
/-- a snapshot taken -/
def kpM (β : Mem) (q : Int) : Mem := up (sgc (up β 133 3 0) 0 (7 + q) 291) 135 q 1
theorem RG.keep {α β : Mem} (h : RG α β) {q : Int} (hq : 0 ≤ q ∧ q ≤ 1) : RG (up (csp α 1 (bY q)) 130 q 1) (kpM β q) := by
  have hbq : bY q = 102 + 14 * q.toNat := rfl
  obtain ⟨h1, ⟨v1, v2, v3, v4⟩, h3, h4⟩ := h
  have po : ∀ c, c < 102 → up (csp α 1 (bY q)) 130 q 1 c = α c := fun c a => by rw [up_o (by omega), csp_o (by omega)]
  have uo : ∀ c j, c ≠ 134 → c ≠ 135 → (c ≠ 133 ∨ j ≠ 3) → kpM β q c j = β c j := fun c j a a2 b => by unfold kpM; rw [up_ap, if_neg (by omega), sgc_c a, up_ap, if_neg (by omega)]
  have u4 : ∀ j, (j < 291 * (7 + q) ∨ 291 * (7 + q) + 291 ≤ j) → kpM β q 134 j = β 134 j := fun j a => by unfold kpM; rw [up_ap, if_neg (by omega), sgc_at (by omega), up_ap, if_neg (by omega)]
  have u5 : ∀ r, kpM β q 135 r = if r = q then 1 else β 135 r := fun r => by
    unfold kpM; rw [up_ap]; by_cases e : r = q
    · rw [if_pos ⟨rfl, e⟩, if_pos e]
    · rw [if_neg (fun w => e w.2), if_neg e, sgc_c (by decide), up_ap, if_neg (by omega)]
  refine ⟨h1.m (fun c _ b => po c (by omega)) (fun j _ b => u4 j (by omega)), ⟨by rw [po 15 (by decide), uo _ _ (by decide) (by decide) (by omega)]; exact v1, by rw [uo _ _ (by decide) (by decide) (by omega)]; exact v2, ?_, fun i a b => ?_⟩, fun r a b => ?_, ?_⟩
  · unfold XI XC at *; rw [po 16 (by decide)]; exact v3
  · rw [uo _ _ (by decide) (by decide) (by omega)] at b
    have x := v3.1 i a (by omega)
    have e16 : bX (up (csp α 1 (bY q)) 130 q 1) i = bX α i := by unfold bX; rw [po 16 (by decide)]
    rw [e16]
    refine (v4 i a b).vv (fun k j w => by have := inC_k w; have hbb : bX α i = 17 + 14 * (α 16 i).toNat := rfl; rw [po _ (by omega)]) (fun j p w => u4 _ (by omega))
  · have g := h3 r a b
    have e130 : up (csp α 1 (bY q)) 130 q 1 130 r = if r = q then 1 else α 130 r := by
      rw [up_ap]; by_cases e : r = q
      · rw [if_pos ⟨rfl, e⟩, if_pos e]
      · rw [if_neg (fun w => e w.2), if_neg e, csp_o (by omega)]
    rw [e130, u5]
    by_cases e : r = q
    · subst e
      rw [if_pos rfl, if_pos rfl]
      refine ⟨rfl, Or.inr rfl, fun _ => h1.in_ (fun k j w => ?_) (fun j p w => ?_)⟩
      · have hk := inC_k w
        rw [up_o (by omega), csp_t (by unfold dsj; omega) w]
      · unfold kpM; rw [up_ap, if_neg (by omega), sgc_v ⟨p, w⟩, up_ap, if_neg (by omega)]; exact m_at (by omega)
    · rw [if_neg e, if_neg e]
      exact ⟨g.1, g.2.1, fun w => (g.2.2 w).vv (fun k j w => by have := inC_k w; have hbb : bY r = 102 + 14 * r.toNat := rfl; rw [up_o (by omega), csp_o (by omega)]) (fun j p w => u4 _ (by omega))⟩
  · unfold TX at *
    have o131 : up (csp α 1 (bY q)) 130 q 1 131 = α 131 := by rw [up_o (by decide), csp_o (by omega)]
    have o132 : up (csp α 1 (bY q)) 130 q 1 132 = α 132 := by rw [up_o (by decide), csp_o (by omega)]
    rw [o131, o132, uo _ _ (by decide) (by decide) (by omega)]
    exact ⟨h4.1, h4.2.1, fun j a b => by rw [uo _ _ (by decide) (by decide) (by omega)]; exact h4.2.2 j a b⟩
/-- gone back to a snapshot -/
theorem RG.back {α β : Mem} (h : RG α β) {q : Int} (hq : 0 ≤ q ∧ q ≤ 1) (hk : β 135 q = 1) : RG (csp α (bY q) 1) (sgc β (7 + q) 0 291) := by
  have hbq : bY q = 102 + 14 * q.toNat := rfl
  have g := (h.2.2.1 q hq.1 hq.2).2.2 hk
  refine h.op (g.out (fun k j w => ?_) (fun j p w => ?_)) (fun c a b => csp_o (by omega)) (fun j a b => sgc_at (by omega)) (sgc_c (by decide)) (sgc_c (by decide)) (fun j => sgc_c (by decide)) (fun j => sgc_c (by decide))
  · have hk := inC_k w
    exact csp_t (by unfold dsj; omega) w
  · have s0 := sgc_v (σ := β) (f := 7 + q) (t := 0) (i := 291) (j := j) ⟨p, w⟩
    rw [show 291 * 0 + j = j by omega] at s0
    exact s0
/-- the text -/
theorem RG.txt {α β α' β' : Mem} (h : RG α β) (ea : ∀ c, 1 ≤ c → c < 131 → α' c = α c) (e4 : ∀ j, j < 2619 → β' 134 j = β 134 j) (e1 : β' 133 1 = β 133 1) (eK : ∀ j, β' 135 j = β 135 j) (hT : TX α' β') : RG α' β' := by
  have g := h.m (α' := fun c => if c < 131 then α' c else α c) (β' := fun c j => if c = 133 ∧ j = 5 then β 133 5 else if c = 136 then β 136 j else β' c j) (fun c a b => by
    show (if c < 131 then α' c else α c) = α c
    split
    · exact ea c a (by omega)
    · rfl) (fun j b => by show (if _ then _ else if _ then _ else _) = _; rw [if_neg (by omega), if_neg (by decide)]; exact e4 j b) (by show (if _ then _ else if _ then _ else _) = _; rw [if_neg (by decide), if_neg (by decide)]; exact e1) (by simp) (fun j => by show (if _ then _ else if _ then _ else _) = _; rw [if_neg (by omega), if_neg (by decide)]; exact eK j) (fun j => by show (if _ then _ else if _ then _ else _) = _; rw [if_neg (by omega), if_pos rfl])
  obtain ⟨g1, ⟨w1, w2, w3, w4⟩, g3, g4⟩ := g
  have h1 := h.1.m (α' := α') (β' := β') (fun c a b => ea c a (by omega)) (fun j _ b => e4 j (by omega))
  obtain ⟨_, ⟨v1, v2, v3, v4⟩, h3, _⟩ := h
  refine ⟨h1, ⟨by rw [ea 15 (by decide) (by decide), e1]; exact v1, by rw [e1]; exact v2, ?_, fun i a b => ?_⟩, fun q a b => ?_, hT⟩
  · unfold XI XC at *; rw [ea 16 (by decide) (by decide)]; exact v3
  · rw [e1] at b
    have x := v3.1 i a (by omega)
    have e16 : bX α' i = bX α i := by unfold bX; rw [ea 16 (by decide) (by decide)]
    rw [e16]
    refine (v4 i a b).vv (fun k j q => by have := inC_k q; have hbb : bX α i = 17 + 14 * (α 16 i).toNat := rfl; rw [ea _ (by omega) (by omega)]) (fun j p q => e4 _ (by omega))
  · have g := h3 q a b
    rw [ea 130 (by decide) (by decide), eK]
    exact ⟨g.1, g.2.1, fun r => (g.2.2 r).vv (fun k j w => by have := inC_k w; have hbb : bY q = 102 + 14 * q.toNat := rfl; rw [ea _ (by omega) (by omega)]) (fun j p r => e4 _ (by omega))⟩
theorem RG.app {α β : Mem} (h : RG α β) {v : Int} (hv : 33 ≤ v ∧ v ≤ 126) (hl : β 133 5 < 60) : RG (up (up α 132 (α 131 1) v) 131 1 (α 131 1 + 1)) (up (up (up β 133 3 0) 136 (β 133 5) v) 133 5 (β 133 5 + 1)) := by
  obtain ⟨t1, t2, t3⟩ := h.2.2.2
  refine h.txt (fun c a b => by rw [up_o (by omega), up_o (by omega)]) (fun j _ => by rw [up_ap, if_neg (by omega), up_ap, if_neg (by omega), up_ap, if_neg (by omega)]) (by rw [up_ap, if_neg (by omega), up_ap, if_neg (by omega), up_ap, if_neg (by omega)]) (fun j => by rw [up_ap, if_neg (by omega), up_ap, if_neg (by omega), up_ap, if_neg (by omega)]) ⟨?_, ?_, fun j a b => ?_⟩
  · rw [up_ap, if_pos ⟨rfl, rfl⟩, up_ap, if_pos ⟨rfl, rfl⟩, t1]
  · rw [up_ap, if_pos ⟨rfl, rfl⟩]; omega
  · rw [up_ap, if_pos ⟨rfl, rfl⟩] at b
    rw [up_ap, if_neg (by omega)]
    by_cases e : j = β 133 5
    · rw [up_ap, if_pos ⟨rfl, by omega⟩, up_ap, if_neg (by omega), up_ap, if_pos ⟨rfl, e⟩]; exact ⟨rfl, hv⟩
    · rw [up_ap, if_neg (by omega), up_ap, if_neg (by omega), up_ap, if_neg (by omega), up_ap, if_neg (by omega)]; exact t3 j a (by omega)
theorem RG.clr {α β : Mem} (h : RG α β) : RG (up α 131 1 0) (up β 133 5 0) :=
  h.txt (fun c a b => up_o (by omega)) (fun j _ => by rw [up_ap, if_neg (by omega)]) (by rw [up_ap, if_neg (by omega)]) (fun j => by rw [up_ap, if_neg (by omega)]) ⟨by rw [up_ap, if_pos ⟨rfl, rfl⟩, up_ap, if_pos ⟨rfl, rfl⟩], by rw [up_ap, if_pos ⟨rfl, rfl⟩]; decide, fun j a b => by rw [up_ap, if_pos ⟨rfl, rfl⟩] at b; omega⟩
