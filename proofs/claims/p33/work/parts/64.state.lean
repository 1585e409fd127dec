/-! ALL THAT THE OBJECT HOLDS, n acts behind the start -/
def vC (α : Mem) (b : Nat) : Mem := fun c j => α (b + c - 1) j
abbrev bY (q : Int) : Nat := 102 + 14 * q.toNat
def SLi (n : Int) (σ : Mem) (q : Int) : Prop := (σ 130 q = 0 ∨ σ 130 q = 1) ∧ (σ 130 q = 1 → Inv n (vC σ (bY q)))
def GI (n : Int) (σ : Mem) : Prop := Inv n σ ∧ XC σ ∧ (0 ≤ σ 15 1 ∧ σ 15 1 ≤ 6) ∧ (∀ q, 0 ≤ q → q ≤ 1 → SLi n σ q) ∧ σ 131 1 = 0
section GIS
variable {n : Int} {σ τ : Mem} {k y q w : Int}
theorem GI.i (h : GI n σ) : Inv n σ := h.1
theorem GI.s (h : GI n σ) : IS σ := h.1.is
theorem GI.xc (h : GI n σ) : XC σ := h.2.1
theorem GI.z (h : GI n σ) : 0 ≤ σ 15 1 ∧ σ 15 1 ≤ 6 := h.2.2.1
theorem GI.sl (h : GI n σ) (h0 : 0 ≤ q) (h1 : q ≤ 1) : SLi n σ q := h.2.2.2.1 q h0 h1
theorem GI.kc (h : GI n σ) : ∀ q, 0 ≤ q → q ≤ 1 → σ 130 q = 0 ∨ σ 130 q = 1 := fun q a b => (h.sl a b).1
theorem GI.t (h : GI n σ) : σ 131 1 = 0 := h.2.2.2.2
theorem GI.it (h : GI n σ) : IT σ := ⟨by rw [h.t]; decide, fun i a b => by rw [h.t] at b; omega⟩
theorem vC_of {b : Nat} (h : ∀ c, b ≤ c → c < b + 14 → τ c = σ c) (hi : Inv n (vC σ b)) : Inv n (vC τ b) := hi.of (fun c a c14 => by
  funext j
  show τ (b + c - 1) j = σ (b + c - 1) j
  rw [h (b + c - 1) (by omega) (by omega)])
theorem psh_15 : psh σ 15 1 = σ 15 1 + 1 := by
  unfold psh
  show up (csp σ 1 (17 + 14 * (σ 16 (σ 15 1)).toNat)) 15 1 ((csp σ 1 (17 + 14 * (σ 16 (σ 15 1)).toNat)) 15 1 + 1) 15 1 = _
  rw [up_ap, if_pos ⟨rfl, rfl⟩, csp_o (Or.inl (by omega))]
theorem psh_16 : psh σ 16 = σ 16 := by rw [psh_o (by decide), csp_o (Or.inl (by omega))]
theorem pus_15 (h : GI n σ) : (σ 15 1 = 6 ∧ pus σ 15 1 = 6) ∨ (σ 15 1 ≠ 6 ∧ pus σ 15 1 = σ 15 1 + 1) := by
  have hz := h.z
  unfold pus
  by_cases c : σ 15 1 < 6
  · rw [if_pos c, psh_15]; exact Or.inr ⟨by omega, rfl⟩
  · rw [if_neg c, psh_15, dro_15]; exact Or.inl ⟨by omega, rfl⟩
theorem pus_x (h : GI n σ) : XC (pus σ) := by
  unfold pus
  split
  · unfold XC; rw [psh_16]; exact h.xc
  · unfold XC; rw [psh_16]; exact XC_d h.xc
theorem pus_lo (h : GI n σ) {c : Nat} (hc : c < 15) : pus σ c = σ c := pus_o h.xc h.z (Or.inl hc)
theorem pus_hi (h : GI n σ) {c : Nat} (hc : 101 ≤ c) : pus σ c = σ c := pus_o h.xc h.z (Or.inr hc)
theorem pus_i (h : GI n σ) : Inv n (pus σ) := h.i.of (fun c _ hc => pus_lo h hc)
theorem bY_d {q : Int} (a : 0 ≤ q) (b : q ≤ 1) : bY q = 102 ∨ bY q = 116 := by
  obtain rfl | rfl : q = 0 ∨ q = 1 := by omega
  · exact Or.inl rfl
  · exact Or.inr rfl
/-- a call that saves the state from before it and then changes the state now -/
theorem GI.next (h : GI n σ) (hi : Inv (n + 1) τ) (e : ∀ c, 15 ≤ c → τ c = pus σ c) : GI (n + 1) τ ∧ ((σ 15 1 = 6 ∧ τ 15 1 = 6) ∨ (σ 15 1 ≠ 6 ∧ τ 15 1 = σ 15 1 + 1)) := by
  have p15 := pus_15 h
  have hz := h.z
  have e15 : τ 15 1 = pus σ 15 1 := by rw [e 15 (by decide)]
  refine ⟨⟨hi, ?_, by rw [e15]; omega, fun q a b => ⟨?_, fun g => ?_⟩, ?_⟩, by rw [e15]; exact p15⟩
  · unfold XC; rw [e 16 (by decide)]; exact pus_x h
  · rw [e 130 (by decide), pus_hi h (by decide)]; exact (h.sl a b).1
  · rw [e 130 (by decide), pus_hi h (by decide)] at g
    have hb := bY_d a b
    refine vC_of (fun c c1 c2 => ?_) (((h.sl a b).2 g).up (by omega))
    rw [e c (by omega), pus_hi h (by omega)]
  · rw [e 131 (by decide), pus_hi h (by decide)]; exact h.t
theorem GI.up (h : GI n σ) : GI (n + 1) σ := ⟨h.i.up (by omega), h.xc, h.z, fun q a b => ⟨(h.sl a b).1, fun g => ((h.sl a b).2 g).up (by omega)⟩, h.t⟩
/-- back to a snapshot -/
theorem GI_gob (h : GI n σ) (a : 0 ≤ q) (b : q ≤ 1) (g : σ 130 q = 1) : GI (n + 1) (csp (pus σ) (bY q) 1) ∧ ((σ 15 1 = 6 ∧ csp (pus σ) (bY q) 1 15 1 = 6) ∨ (σ 15 1 ≠ 6 ∧ csp (pus σ) (bY q) 1 15 1 = σ 15 1 + 1)) := by
  have hi := ((h.sl a b).2 g).up (show n ≤ n + 1 by omega)
  have hb := bY_d a b
  refine h.next (hi.mc (fun k j hk => ?_)) (fun c hc => csp_o (Or.inr (by omega)))
  have hk2 : 1 ≤ k ∧ k < 14 := by unfold inC at hk; omega
  have e := csp_t (σ := pus σ) (f := bY q) (t := 1) (Or.inr (by omega)) hk
  rw [Nat.add_comm k 1, e, pus_hi h (by omega)]
  show σ (bY q + k) j = σ (bY q + (1 + k) - 1) j
  rw [show bY q + (1 + k) - 1 = bY q + k by omega]
/-- a snapshot taken -/
theorem GI_kee (h : GI n σ) (a : 0 ≤ q) (b : q ≤ 1) : GI (n + 1) (up (csp σ 1 (102 + 14 * q.toNat)) 130 q 1) ∧ up (csp σ 1 (102 + 14 * q.toNat)) 130 q 1 15 1 = σ 15 1 := by
  have hb := bY_d a b
  have o : ∀ c, c ≠ 130 → (c < bY q ∨ bY q + 13 < c) → up (csp σ 1 (102 + 14 * q.toNat)) 130 q 1 c = σ c := fun c h1 h2 => by rw [up_o h1, csp_o h2]
  have h' := h.up
  have e130 : ∀ i, up (csp σ 1 (102 + 14 * q.toNat)) 130 q 1 130 i = if i = q then 1 else σ 130 i := fun i => by
    rw [up_ap]
    by_cases z : i = q
    · rw [if_pos ⟨rfl, z⟩, if_pos z]
    · rw [if_neg (fun w => z w.2), if_neg z, csp_o (by show 130 < bY q ∨ bY q + 13 < 130; omega)]
  refine ⟨⟨h'.i.of (fun c c1 c2 => o c (by omega) (by omega)), by unfold XC; rw [o 16 (by decide) (by omega)]; exact h.xc, by rw [o 15 (by decide) (by omega)]; exact h.z, fun i i0 i1 => ⟨?_, fun g => ?_⟩, by rw [o 131 (by decide) (by omega)]; exact h.t⟩, by rw [o 15 (by decide) (by omega)]⟩
  · rw [e130]
    split
    · exact Or.inr rfl
    · exact (h.sl i0 i1).1
  · by_cases z : i = q
    · subst z
      refine h'.i.mc (fun k j hk => ?_)
      have hk2 : 1 ≤ k ∧ k < 14 := by unfold inC at hk; omega
      have e := csp_t (σ := σ) (f := 1) (t := bY i) (Or.inl (by omega)) hk
      show up (csp σ 1 (102 + 14 * i.toNat)) 130 i 1 (bY i + (k + 1) - 1) j = σ (k + 1) j
      rw [show bY i + (k + 1) - 1 = bY i + k by omega, up_o (by omega), Nat.add_comm k 1]
      exact e
    · rw [e130, if_neg z] at g
      have hb2 := bY_d i0 i1
      refine vC_of (fun c c1 c2 => ?_) (((h.sl i0 i1).2 g).up (by omega))
      have hne : bY i ≠ bY q := fun e => z (by have e' : 102 + 14 * i.toNat = 102 + 14 * q.toNat := e; omega)
      exact o c (by omega) (by omega)
/-! what each act does, as the law looks at it -/
theorem ag_g (h : GI n σ) (hn : n ≤ 900) (hk : 0 ≤ k ∧ k < 4) (ha : atr σ k < 100) : atr (pus σ) k = atr σ k ∧ GI (n + 1) (svr (pus σ) k) ∧ ((σ 15 1 = 6 ∧ svr (pus σ) k 15 1 = 6) ∨ (σ 15 1 ≠ 6 ∧ svr (pus σ) k 15 1 = σ 15 1 + 1)) ∧ svr (pus σ) k 9 k = σ 9 k + 1 ∧ (0 ≤ atr σ k ∧ atr σ k < 16) ∧ svr (pus σ) k 4 (k * 16 + atr σ k) = 1 ∧ atr (svr (pus σ) k) k = (if 0 ≤ kor σ k 2 then kor σ k 2 else if hm (svr (pus σ) k) k 2 = 0 then 101 else 102) := by
  have hp := pus_i h
  have e0 : atr (pus σ) k = atr σ k := atr_m (fun c _ b => pus_lo h b)
  have ek : kor (pus σ) k 2 = kor σ k 2 := kor_m (fun c _ b => pus_lo h b)
  have har := atr_rg (σ := σ) (k := k)
  have ed : atr σ k = drw (pus σ) k (pus σ 14 0) 0 := by
    have q := atr_eq (σ := pus σ) (k := k)
    rw [e0] at q
    rw [q]
    split
    · rfl
    · rename_i c; rw [if_neg c] at q; rw [q] at ha; split at ha <;> omega
  have es : svr (pus σ) k = gvk (pus σ) k (atr σ k) := by unfold svr; rw [e0, if_neg (by omega)]
  have hd := drw0 (r := pus σ 14 0) hp hk
  rw [← ed] at hd
  obtain ⟨a1, a2⟩ := hd.pos har.1
  have hg := Inv_gvk hp (by omega) hk ⟨har.1, a1⟩ a2
  have hN := h.next (τ := svr (pus σ) k) (by rw [es]; exact hg) (fun c hc => svr_o hc)
  have hac := h.i.ac hk
  unfold ACk at hac
  have e9 : pus σ 9 k = σ 9 k := by rw [pus_lo h (by decide)]
  refine ⟨e0, hN.1, hN.2, ?_, ⟨har.1, a1⟩, ?_, ?_⟩
  · rw [es, gvk_9, if_pos rfl, e9, wr_eq ⟨by omega, by omega⟩]
  · rw [es, gvk_4, if_pos rfl]
  · rw [es, ask_post hp (by omega) hk ed har.1, ek]
theorem ag_n (h : GI n σ) (hn : n ≤ 900) (hk : 0 ≤ k ∧ k < 4) (ha : ¬ atr σ k < 100) : atr (pus σ) k = atr σ k ∧ GI (n + 1) (svr (pus σ) k) ∧ ((σ 15 1 = 6 ∧ svr (pus σ) k 15 1 = 6) ∨ (σ 15 1 ≠ 6 ∧ svr (pus σ) k 15 1 = σ 15 1 + 1)) ∧ svr (pus σ) k 12 k = σ 12 k + 1 := by
  have hp := pus_i h
  have e0 : atr (pus σ) k = atr σ k := atr_m (fun c _ b => pus_lo h b)
  have es : svr (pus σ) k = nwo (pus σ) k (atr σ k - 100) := by unfold svr; rw [e0, if_pos (by omega)]
  have hg := Inv_nwo (k := k) (q := atr σ k - 100) hp (by omega)
  have hN := h.next (τ := svr (pus σ) k) (by rw [es]; exact hg) (fun c hc => svr_o hc)
  have hac := h.i.ac hk
  unfold ACk at hac
  have e12 : pus σ 12 k = σ 12 k := by rw [pus_lo h (by decide)]
  refine ⟨e0, hN.1, hN.2, ?_⟩
  rw [es, nwo_12, if_pos rfl, e12, wr_eq ⟨by omega, by omega⟩]
theorem svw_o {c : Nat} (h : 15 ≤ c) : svw σ k y c = σ c := by
  unfold svw; split
  · unfold gvk; rw [up_o (by omega), giv_o (by omega) (by omega) (by omega)]
  · exact nwo_o (by omega) (by omega)
theorem aw_g (h : GI n σ) (hn : n ≤ 900) (hk : 0 ≤ k ∧ k < 4) (hy : 0 ≤ y ∧ y < 16) (ha : rag (pus σ) k y = 0) : svwR (pus σ) k y = σ 5 (k * 16 + y) + 1 ∧ σ 5 (k * 16 + y) ≤ 8 ∧ GI (n + 1) (svw (pus σ) k y) ∧ ((σ 15 1 = 6 ∧ svw (pus σ) k y 15 1 = 6) ∨ (σ 15 1 ≠ 6 ∧ svw (pus σ) k y 15 1 = σ 15 1 + 1)) ∧ svw (pus σ) k y 9 k = σ 9 k + 1 ∧ svw (pus σ) k y 4 (k * 16 + y) = 1 ∧ svw (pus σ) k y 5 (k * 16 + y) = σ 5 (k * 16 + y) + 1 := by
  have hp := pus_i h
  have hc : cbg (pus σ) k y := by
    unfold rag at ha
    by_cases c1 : pus σ 4 (k * 16 + y) = 1
    · rw [if_pos c1] at ha; omega
    · rw [if_neg c1] at ha
      by_cases c3 : pus σ 4 (k * 16 + y) = 3
      · rw [if_pos c3] at ha; omega
      · rw [if_neg c3] at ha
        by_cases c : cbg (pus σ) k y
        · exact c
        · rw [if_neg c] at ha; omega
  have es : svw (pus σ) k y = gvk (pus σ) k y := by unfold svw; rw [if_pos ha]
  have hg := Inv_gvk hp (by omega) hk hy hc
  have hN := h.next (τ := svw (pus σ) k y) (by rw [es]; exact hg) (fun c hc => svw_o hc)
  have hac := h.i.ac hk
  unfold ACk at hac
  have e9 : pus σ 9 k = σ 9 k := by rw [pus_lo h (by decide)]
  have e5 : pus σ 5 (k * 16 + y) = σ 5 (k * 16 + y) := by rw [pus_lo h (by decide)]
  have gk := hp.ki hk hy
  unfold KI at gk
  rw [e5] at gk
  refine ⟨by unfold svwR; rw [if_pos ha, e5], ?_, hN.1, hN.2, ?_, ?_, ?_⟩
  · rcases cbg_2 hc with q | q
    · have := gk.1.mp q; omega
    · exact (gk.2 q).1
  · rw [es, gvk_9, if_pos rfl, e9, wr_eq ⟨by omega, by omega⟩]
  · rw [es, gvk_4, if_pos rfl]
  · rw [es, gvk_5, if_pos rfl, e5]
theorem aw_n (h : GI n σ) (hn : n ≤ 900) (hk : 0 ≤ k ∧ k < 4) (ha : ¬ rag (pus σ) k y = 0) : (101 ≤ svwR (pus σ) k y ∧ svwR (pus σ) k y ≤ 105) ∧ GI (n + 1) (svw (pus σ) k y) ∧ ((σ 15 1 = 6 ∧ svw (pus σ) k y 15 1 = 6) ∨ (σ 15 1 ≠ 6 ∧ svw (pus σ) k y 15 1 = σ 15 1 + 1)) ∧ svw (pus σ) k y 12 k = σ 12 k + 1 := by
  have hp := pus_i h
  have es : svw (pus σ) k y = nwo (pus σ) k (rag (pus σ) k y) := by unfold svw; rw [if_neg ha]
  have hg := Inv_nwo (k := k) (q := rag (pus σ) k y) hp (by omega)
  have hN := h.next (τ := svw (pus σ) k y) (by rw [es]; exact hg) (fun c hc => svw_o hc)
  have hac := h.i.ac hk
  unfold ACk at hac
  have e12 : pus σ 12 k = σ 12 k := by rw [pus_lo h (by decide)]
  have hr := rag_rg (σ := pus σ) (k := k) (y := y)
  refine ⟨by unfold svwR; rw [if_neg ha]; omega, hN.1, hN.2, ?_⟩
  rw [es, nwo_12, if_pos rfl, e12, wr_eq ⟨by omega, by omega⟩]
theorem ad_y (h : GI n σ) (hn : n ≤ 900) (hk : 0 ≤ k ∧ k < 4) (hy : 0 ≤ y ∧ y < 16) (h1 : σ 4 (k * 16 + y) = 1) : GI (n + 1) (dlr (pus σ) k y) ∧ ((σ 15 1 = 6 ∧ dlr (pus σ) k y 15 1 = 6) ∨ (σ 15 1 ≠ 6 ∧ dlr (pus σ) k y 15 1 = σ 15 1 + 1)) ∧ ((σ 14 1 ≤ σ 5 (k * 16 + y) ∧ bz (pus σ 14 1 ≤ pus σ 5 (k * 16 + y)) = 1 ∧ dlr (pus σ) k y 4 (k * 16 + y) = 3) ∨ (σ 5 (k * 16 + y) < σ 14 1 ∧ bz (pus σ 14 1 ≤ pus σ 5 (k * 16 + y)) = 0 ∧ dlr (pus σ) k y 4 (k * 16 + y) = 2 ∧ kat (dlr (pus σ) k y) k 0 = y ∧ pok (dlr (pus σ) k y) k y 3 = 0)) := by
  have hp := pus_i h
  have e4 : pus σ 4 (k * 16 + y) = σ 4 (k * 16 + y) := by rw [pus_lo h (by decide)]
  have e5 : pus σ 5 (k * 16 + y) = σ 5 (k * 16 + y) := by rw [pus_lo h (by decide)]
  have e14 : pus σ 14 1 = σ 14 1 := by rw [pus_lo h (by decide)]
  have hg := Inv_dlr hp (by omega) hk hy (by rw [e4]; exact h1)
  have hN := h.next (τ := dlr (pus σ) k y) hg (fun c hc => dlr_o hc)
  refine ⟨hN.1, hN.2, ?_⟩
  by_cases c : σ 14 1 ≤ σ 5 (k * 16 + y)
  · left
    refine ⟨c, bz_t (by rw [e14, e5]; exact c), ?_⟩
    unfold dlr
    rw [if_pos (by rw [e14, e5]; exact c), wor_4, if_pos rfl]
  · right
    have es : dlr (pus σ) k y = lot (del10 (pus σ) k) k y := by unfold dlr; rw [if_neg (by rw [e14, e5]; exact c)]
    have t4 : dlr (pus σ) k y 4 (k * 16 + y) = 2 := by rw [es, lot_4, if_pos rfl]
    have t6 : dlr (pus σ) k y 6 (k * 16 + y) = 0 := by rw [es, lot_6 hy hy, if_pos ⟨rfl, rfl⟩]
    have t7 : dlr (pus σ) k y 7 (k * 16 + y) = dlr (pus σ) k y 2 0 := by rw [es, lot_7, if_pos rfl, lot_o (by decide) (by decide) (by decide)]
    refine ⟨by omega, bz_f (by rw [e14, e5]; exact c), t4, ?_, ?_⟩
    · have q := kat_at hg hk hy t4
      rw [t6] at q
      exact q
    · have q := pok_c (σ := dlr (pus σ) k y) (k := k) (y := y)
      omega
theorem ab_y (h : GI n σ) (hn : n ≤ 900) (hk : 0 ≤ k ∧ k < 4) (hy : 0 ≤ y ∧ y < 16) (h2 : σ 4 (k * 16 + y) = 2) : pus σ 5 (k * 16 + y) = σ 5 (k * 16 + y) ∧ GI (n + 1) (brb (pus σ) k y) ∧ ((σ 15 1 = 6 ∧ brb (pus σ) k y 15 1 = 6) ∨ (σ 15 1 ≠ 6 ∧ brb (pus σ) k y 15 1 = σ 15 1 + 1)) ∧ brb (pus σ) k y 4 (k * 16 + y) = 1 ∧ brb (pus σ) k y 5 (k * 16 + y) = σ 5 (k * 16 + y) := by
  have hp := pus_i h
  have e4 : pus σ 4 (k * 16 + y) = σ 4 (k * 16 + y) := by rw [pus_lo h (by decide)]
  have e5 : pus σ 5 (k * 16 + y) = σ 5 (k * 16 + y) := by rw [pus_lo h (by decide)]
  have hg := Inv_brb hp (by omega) hk hy (by rw [e4]; exact h2)
  have hN := h.next (τ := brb (pus σ) k y) hg (fun c hc => brb_o hc)
  exact ⟨e5, hN.1, hN.2, by rw [brb_4, if_pos rfl], by rw [brb_e (by decide) (by decide) (by decide), e5]⟩
theorem af_y (h : GI n σ) (hn : n ≤ 900) : jud (pus σ) k y q = jud σ k y q ∧ GI (n + 1) (nfo (pus σ) w) ∧ ((σ 15 1 = 6 ∧ nfo (pus σ) w 15 1 = 6) ∨ (σ 15 1 ≠ 6 ∧ nfo (pus σ) w 15 1 = σ 15 1 + 1)) := by
  have hN := h.next (τ := nfo (pus σ) w) (Inv_nfo (pus_i h) (by omega)) (fun c hc => nfo_e (by omega))
  exact ⟨by unfold jud; rw [pus_lo h (c := 4) (by decide), pus_lo h (c := 5) (by decide)], hN⟩
theorem ap_y (h : GI n σ) (hn : n ≤ 900) (hq : 0 ≤ q ∧ q ≤ 5) : GI (n + 1) (up (pus σ) 2 0 (pus σ 2 0 + q)) ∧ ((σ 15 1 = 6 ∧ up (pus σ) 2 0 (pus σ 2 0 + q) 15 1 = 6) ∨ (σ 15 1 ≠ 6 ∧ up (pus σ) 2 0 (pus σ 2 0 + q) 15 1 = σ 15 1 + 1)) ∧ up (pus σ) 2 0 (pus σ 2 0 + q) 2 0 = σ 2 0 + q := by
  have hN := h.next (τ := up (pus σ) 2 0 (pus σ 2 0 + q)) (Inv_day (pus_i h) hq (by omega)) (fun c hc => up_o (by omega))
  exact ⟨hN.1, hN.2, by rw [up_ap, if_pos ⟨rfl, rfl⟩, pus_lo h (by decide)]⟩
theorem as_y (h : GI n σ) (hq : 0 ≤ q ∧ q ≤ 99) : GI (n + 1) (up (pus σ) 3 k q) ∧ ((σ 15 1 = 6 ∧ up (pus σ) 3 k q 15 1 = 6) ∨ (σ 15 1 ≠ 6 ∧ up (pus σ) 3 k q 15 1 = σ 15 1 + 1)) := h.next ((Inv_sea (pus_i h) hq).up (by omega)) (fun c hc => up_o (by omega))
theorem ae_y (h : GI n σ) (hq : (k = 0 → 0 ≤ q ∧ q ≤ 3) ∧ (k = 1 → 1 ≤ q ∧ q ≤ 9) ∧ (k = 2 → 0 ≤ q ∧ q ≤ 20)) : GI (n + 1) (up (pus σ) 14 k q) ∧ ((σ 15 1 = 6 ∧ up (pus σ) 14 k q 15 1 = 6) ∨ (σ 15 1 ≠ 6 ∧ up (pus σ) 14 k q 15 1 = σ 15 1 + 1)) := h.next ((Inv_set (pus_i h) hq).up (by omega)) (fun c hc => up_o (by omega))
theorem at_y (h : GI n σ) (hk : 0 ≤ k ∧ k < 4) : GI (n + 1) (tup (pus σ) k) ∧ ((σ 15 1 = 6 ∧ tup (pus σ) k 15 1 = 6) ∨ (σ 15 1 ≠ 6 ∧ tup (pus σ) k 15 1 = σ 15 1 + 1)) := h.next ((Inv_tup (pus_i h) hk).up (by omega)) (fun c hc => tup_o (by omega))
end GIS
