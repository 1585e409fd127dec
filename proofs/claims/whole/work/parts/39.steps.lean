/-! EACH CALL: what the class and the reference answer, and that all stays alike -/
def ST (q r : Int) (ν : Mem) : Prop := ν 133 3 = q ∧ (0 ≤ q ∧ q ≤ 2) ∧ (q = 0 → ν 137 0 = wr r) ∧ RG ν ν
theorem thr_y {P Q : Prop} [Decidable P] [Decidable Q] (h : P ∧ Q) : thr P Q = 0 := by unfold thr; rw [if_pos h.1, if_pos h.2]
theorem thr_rg {P Q : Prop} [Decidable P] [Decidable Q] : 0 ≤ thr P Q ∧ thr P Q ≤ 2 := by unfold thr; (repeat' split) <;> omega
theorem thr_0 {P Q : Prop} [Decidable P] [Decidable Q] (h : thr P Q = 0) : P ∧ Q := by
  unfold thr at h
  by_cases p : P
  · rw [if_pos p] at h
    by_cases q : Q
    · exact ⟨p, q⟩
    · rw [if_neg q] at h; omega
  · rw [if_neg p] at h; omega
/-- a call that throws -/
theorem ST.no {σ : Mem} {P Q P' Q' : Prop} [Decidable P] [Decidable Q] [Decidable P'] [Decidable Q'] {r : Int} (h : RG σ σ) (hn : ¬ (P ∧ Q)) (h1 : P' ↔ P) (h2 : P → (Q' ↔ Q)) : ST (thr P Q) r (up σ 133 3 (if P' then (if Q' then 0 else 2) else 1)) := by
  have e : (if P' then (if Q' then 0 else 2) else 1 : Int) = thr P Q := by
    unfold thr
    by_cases p : P
    · rw [if_pos (h1.mpr p), if_pos p]
      by_cases q : Q
      · rw [if_pos ((h2 p).mpr q), if_pos q]
      · rw [if_neg (fun w => q ((h2 p).mp w)), if_neg q]
    · rw [if_neg (fun w => p (h1.mp w)), if_neg p]
  rw [e]
  refine ⟨by rw [up_ap, if_pos ⟨rfl, rfl⟩], thr_rg, fun w => absurd (thr_0 w) hn, h.m (fun c a b => by rw [up_o (by omega)]) (fun j _ => by rw [up_ap, if_neg (by omega)]) (by rw [up_ap, if_neg (by omega)]) (by rw [up_ap, if_neg (by omega)]) (fun j => by rw [up_ap, if_neg (by omega)]) (fun j => by rw [up_ap, if_neg (by omega)])⟩
/-- a call that answers -/
theorem ST.ok {M ν : Mem} {R r : Int} (hb : RG M ν) (hν : ∀ c j, c ≠ 133 → c ≠ 134 → c ≠ 135 → c ≠ 136 → ν c j = up M 137 0 (wr R) c j) (h3 : ν 133 3 = 0) (hr : R = r) : ST 0 r ν := by
  refine ⟨h3, by decide, fun _ => ?_, hb.two (fun c a b => ?_)⟩
  · rw [hν 137 0 (by decide) (by decide) (by decide) (by decide), up_ap, if_pos ⟨rfl, rfl⟩, hr]
  · funext j; rw [hν c j (by omega) (by omega) (by omega) (by omega), up_ap, if_neg (by omega)]
theorem RG.t {σ M : Mem} {x : Int} (h : RG σ σ) (hM : ∀ c, 133 ≤ c → M c = σ c) : RG σ (up M 137 0 x) := h.fst (fun c a b => by rw [up_o (by omega), hM c a])
theorem goM_33 {τ : Mem} : goM τ 133 3 = 0 := by
  by_cases q : τ 133 1 = 6
  · rw [goM_6 q, sgc_c (by decide), up_ap, if_neg (by omega)]; simp only [shfc]; rw [if_neg (by omega), up_ap, if_pos ⟨rfl, rfl⟩]
  · rw [goM_lt q, sgc_c (by decide), up_ap, if_neg (by omega), up_ap, if_pos ⟨rfl, rfl⟩]
/-- an order that is saved first -/
theorem ST.go {σ M τ ν : Mem} {R r : Int} (h : RG σ σ) (hτ : τ = up M 137 0 (wr R)) (hM : ∀ c, 15 ≤ c → M c = pus σ c) (hR : RG (pus σ) (goM τ) → R1 M ν) (ho : ∀ c j, c ≠ 134 → ν c j = goM τ c j) (h4 : RG (pus σ) (goM τ) → ∀ j, 291 ≤ j → j < 2619 → ν 134 j = goM τ 134 j) (hr : RG (pus σ) (goM τ) → R1 M ν → R = r) : ST 0 r ν := by
  have x := h.xc
  have ht : RG σ τ := by rw [hτ]; exact h.t (fun c a => by rw [hM c (by omega), pus_o x.1 x.2 (Or.inr (by omega))])
  have hp := ht.push
  have h1 := hR hp
  have hb : RG M ν := hp.op h1 (fun c a _ => hM c a) (h4 hp) (ho _ _ (by decide)) (ho _ _ (by decide)) (fun j => ho _ _ (by decide)) (fun j => ho _ _ (by decide))
  refine ST.ok (R := R) hb (fun c j a1 a2 a3 a4 => ?_) ?_ (hr hp h1)
  · rw [ho c j a2, goM_o a2 (Or.inl a1), hτ]
  · rw [ho _ _ (by decide)]; exact goM_33
theorem masM_c {μ : Mem} {k : Int} {c : Nat} {j : Int} (h : c ≠ 134) : masM μ k c j = μ c j := by
  have e := doM_o (μ := up μ 133 7 k) (l := 97) (j := j) h
  have eu : ∀ (ν : Mem) (i v : Int), up ν 134 i v c j = ν c j := fun ν i v => by rw [up_ap, if_neg (by omega)]
  have es : ∀ (ν : Mem) (a b d : Int), shl ν a b d c j = ν c j := fun ν a b d => by unfold shl; rw [if_neg (fun q => h q.1)]
  unfold masM mgiv mgv0 mtak mwo
  (repeat' split) <;> simp only [eu, es]
theorem mwaM_c {μ : Mem} {k y : Int} {c : Nat} {j : Int} (h : c ≠ 134) : mwaM μ k y c j = μ c j := by
  have eu : ∀ (ν : Mem) (i v : Int), up ν 134 i v c j = ν c j := fun ν i v => by rw [up_ap, if_neg (by omega)]
  have es : ∀ (ν : Mem) (a b d : Int), shl ν a b d c j = ν c j := fun ν a b d => by unfold shl; rw [if_neg (fun q => h q.1)]
  unfold mwaM mgiv mgv0 mtak mwo
  (repeat' split) <;> simp only [eu, es]
theorem mdl_c {μ : Mem} {k y : Int} {c : Nat} {j : Int} (h : c ≠ 134) : mdl μ k y c j = μ c j := by
  have eu : ∀ (ν : Mem) (i v : Int), up ν 134 i v c j = ν c j := fun ν i v => by rw [up_ap, if_neg (by omega)]
  have er : ∀ (ν : Mem) (a b d : Int), shr ν a b d c j = ν c j := fun ν a b d => by unfold shr; rw [if_neg (fun q => h q.1)]
  unfold mdl mdl1 mdl0
  (repeat' split) <;> simp only [eu, er]
theorem mbk_c {μ : Mem} {k y : Int} {c : Nat} {j : Int} (h : c ≠ 134) : mbk μ k y c j = μ c j := by
  have eu : ∀ (ν : Mem) (i v : Int), up ν 134 i v c j = ν c j := fun ν i v => by rw [up_ap, if_neg (by omega)]
  have es : ∀ (ν : Mem) (a b d : Int), shl ν a b d c j = ν c j := fun ν a b d => by unfold shl; rw [if_neg (fun q => h q.1)]
  unfold mbk mtak
  simp only [eu, es]
theorem mtu_c {μ : Mem} {k : Int} {c : Nat} {j : Int} (h : c ≠ 134) : mtu μ k c j = μ c j := by
  unfold mtu rvs; rw [if_neg (fun q => h q.1)]
theorem mfo_c {μ : Mem} {r : Int} {c : Nat} {j : Int} (h : c ≠ 134) : mfo μ r c j = μ c j := by
  unfold mfo; rw [up_ap, if_neg (by omega), up_ap, if_neg (by omega), up_ap, if_neg (by omega)]
theorem nfo_o {σ : Mem} {r : Int} {c : Nat} (h : c ≠ 8) : nfo σ r c = σ c := by funext j; simp only [nfo]; rw [if_neg (fun z => h z.1), if_neg (fun z => h z.1), if_neg (fun z => h z.1)]
theorem svw_o {σ : Mem} {k y : Int} {c : Nat} (h : 15 ≤ c) : svw σ k y c = σ c := by
  unfold svw; split
  · unfold gvk; rw [up_o (by omega), giv_o (by omega) (by omega) (by omega)]
  · exact nwo_o (by omega) (by omega)
theorem rnI_o {σ : Mem} {i : Int} {c : Nat} {j : Int} (hi : 0 ≤ i) (h1 : c ≠ 133) (h2 : c ≠ 134) : (rnI σ i).1 c j = σ c j := by
  have ea : ∀ μ : Mem, adv μ c j = μ c j := fun μ => by unfold adv; rw [up_ap, if_neg (by omega)]
  refine it_inv (f := rnF) (a := (up (goM (erM σ)) 133 6 0, 0, 1)) (n := i) (fun _ v => v.1 c j = σ c j) ?_ (fun q v h0 h1' h3 => ?_) hi (Int.le_refl _)
  · show up (goM (erM σ)) 133 6 0 c j = σ c j
    rw [up_ap, if_neg (by omega), goM_o h2 (Or.inl h1)]; exact er_o (by decide) (Or.inl h1)
  · unfold rnF
    split
    · exact h3
    · show adv (doM (ordM v.1) (ordR v.1)) c j = σ c j
      rw [ea, doM_o h2, ordM_o (Or.inl h1)]; exact h3
theorem rnI_c {σ : Mem} {c : Nat} {j : Int} (h1 : c ≠ 133) (h2 : c ≠ 134) : (rnI σ 61).1 c j = σ c j := rnI_o (by decide) h1 h2
section STEPS
variable {σ : Mem} {k y d q w v n : Int}
/-- the memory behind a class's call and its answer -/
abbrev aft (P Q : Prop) [Decidable P] [Decidable Q] (M : Mem) (R : Int) (σ : Mem) : Mem := if P ∧ Q then up M 137 0 (wr R) else σ
theorem st_ask (h : RG σ σ) {τ : Mem} (hτ : τ = aft (isK k) True (svr (pus σ) k) (atr (pus σ) k) σ) : ST (thr (isK k) True) (if isK k ∧ True then mas (goM τ) k else 0) (if isK k ∧ True then masM (goM τ) k else up τ 133 3 (if isK k then (if True then 0 else 2) else 1)) := by
  by_cases c : isK k ∧ True
  · have hk : 0 ≤ k ∧ k < 4 := by omega
    rw [thr_y c, if_pos c, if_pos c]
    exact ST.go h (hτ.trans (if_pos c)) (fun c a => svr_o a) (fun g => g.1.svx hk) (fun c j a => masM_c a) (fun g j a _ => masM_4 g.1.g hk a) (fun g _ => g.1.atx hk)
  · rw [if_neg c, if_neg c, hτ.trans (if_neg c)]
    exact ST.no h c Iff.rfl (fun _ => Iff.rfl)
theorem st_want (h : RG σ σ) {τ : Mem} (hτ : τ = aft (isY k y) True (svw (pus σ) k y) (svwR (pus σ) k y) σ) : ST (thr (isY k y) True) (if isY k y ∧ True then mwa (goM τ) k y else 0) (if isY k y ∧ True then mwaM (goM τ) k y else up τ 133 3 (if isY k y then (if True then 0 else 2) else 1)) := by
  by_cases c : isY k y ∧ True
  · have hk : 0 ≤ k ∧ k < 4 := by omega
    have hy : 0 ≤ y ∧ y < 16 := by omega
    rw [thr_y c, if_pos c, if_pos c]
    exact ST.go h (hτ.trans (if_pos c)) (fun c a => svw_o a) (fun g => (g.1.svy hk hy).1) (fun c j a => mwaM_c a) (fun g j a _ => mwaM_4 g.1.g hk hy a) (fun g _ => (g.1.svy hk hy).2)
  · rw [if_neg c, if_neg c, hτ.trans (if_neg c)]
    exact ST.no h c Iff.rfl (fun _ => Iff.rfl)
theorem RG.pgo {σ τ : Mem} (h : RG σ σ) (e : ∀ c, 133 ≤ c → c < 137 → τ c = σ c) : ∀ j, j < 291 → goM τ 134 j = σ 134 j := fun j a => by
  have e3 : τ 133 = σ 133 := e 133 (by decide) (by decide)
  rw [goM_0 (by rw [e3]; exact h.2.1.2.1) a, e 134 (by decide) (by decide)]
theorem st_delete (h : RG σ σ) {τ : Mem} (hτ : τ = aft (isY k y) (σ 4 (k * 16 + y) = 1) (dlr (pus σ) k y) (bz ((pus σ) 14 1 ≤ (pus σ) 5 (k * 16 + y))) σ) : ST (thr (isY k y) (σ 4 (k * 16 + y) = 1)) (if isY k y ∧ (isY k y ∧ mS τ 0 k y = 1) then bz (mX (goM τ) 0 1 ≤ mR (goM τ) 0 k y) else 0) (if isY k y ∧ (isY k y ∧ mS τ 0 k y = 1) then mdl (goM τ) k y else up τ 133 3 (if isY k y then (if (isY k y ∧ mS τ 0 k y = 1) then 0 else 2) else 1)) := by
  have x := h.xc
  by_cases c : isY k y ∧ σ 4 (k * 16 + y) = 1
  · have hk : 0 ≤ k ∧ k < 4 := by omega
    have hy : 0 ≤ y ∧ y < 16 := by omega
    have ht := hτ.trans (if_pos c)
    have e4 : ∀ j, τ 134 j = σ 134 j := fun j => by rw [ht, up_ap, if_neg (by omega), dlr_o (by decide), pus_o x.1 x.2 (Or.inr (by decide))]
    have eS : mS τ 0 k y = 1 := by unfold mS; rw [e4]; exact ((h.1.ky hk hy).1.symm.trans c.2)
    have c' : isY k y ∧ (isY k y ∧ mS τ 0 k y = 1) := ⟨c.1, c.1, eS⟩
    have eg : ∀ j, j < 291 → goM τ 134 j = τ 134 j := fun j a => goM_0 (by rw [ht, up_o (by decide), dlr_o (by decide), pus_o x.1 x.2 (Or.inr (by decide))]; exact h.2.1.2.1) a
    have gS : mS (goM τ) 0 k y = 1 := by unfold mS at *; rw [eg _ (by omega)]; exact eS
    rw [thr_y c, if_pos c', if_pos c']
    refine ST.go h ht (fun c a => dlr_o a) (fun g => g.1.dl hk hy gS) (fun c j a => mdl_c a) (fun g j a _ => mdl_o hk hy (g.1.g.l15 hk hy gS) (by omega) (by omega)) (fun g _ => bz_congr ?_)
    have r := (g.1.ky hk hy).2.1
    have r2 := g.1.x.2.1
    rw [r, r2]
  · have c' : ¬ (isY k y ∧ (isY k y ∧ mS σ 0 k y = 1)) := fun z => c ⟨z.1, by have hk : 0 ≤ k ∧ k < 4 := (by omega); have hy : 0 ≤ y ∧ y < 16 := (by omega); rw [(h.1.ky hk hy).1]; exact z.2.2⟩
    rw [hτ.trans (if_neg c), if_neg c', if_neg c']
    refine ST.no h c Iff.rfl (fun p => ?_)
    have hk : 0 ≤ k ∧ k < 4 := by omega
    have hy : 0 ≤ y ∧ y < 16 := by omega
    rw [(h.1.ky hk hy).1]
    exact ⟨fun z => z.2, fun z => ⟨p, z⟩⟩
theorem st_bringBack (h : RG σ σ) {τ : Mem} (hτ : τ = aft (isY k y) (cbb σ k y) (brb (pus σ) k y) ((pus σ) 5 (k * 16 + y)) σ) : ST (thr (isY k y) (cbb σ k y)) (if isY k y ∧ (isY k y ∧ mcb τ k y) then mR (goM τ) 0 k y else 0) (if isY k y ∧ (isY k y ∧ mcb τ k y) then mbk (goM τ) k y else up τ 133 3 (if isY k y then (if (isY k y ∧ mcb τ k y) then 0 else 2) else 1)) := by
  have x := h.xc
  by_cases c : isY k y ∧ cbb σ k y
  · have hk : 0 ≤ k ∧ k < 4 := by omega
    have hy : 0 ≤ y ∧ y < 16 := by omega
    have ht := hτ.trans (if_pos c)
    have e4 : τ 134 = σ 134 := by rw [ht, up_o (by decide), brb_o (by decide), pus_o x.1 x.2 (Or.inr (by decide))]
    have eC : mcb τ k y := by
      have z := (h.1.cb hk hy).mp c.2
      unfold mcb mS mD mT mX at *; rw [e4]; exact z
    have c' : isY k y ∧ (isY k y ∧ mcb τ k y) := ⟨c.1, c.1, eC⟩
    have eg : ∀ j, j < 291 → goM τ 134 j = τ 134 j := fun j a => goM_0 (by rw [ht, up_o (by decide), brb_o (by decide), pus_o x.1 x.2 (Or.inr (by decide))]; exact h.2.1.2.1) a
    have gS : mS (goM τ) 0 k y = 2 := by have z := eC.1; unfold mS at *; rw [eg _ (by omega)]; exact z
    rw [thr_y c, if_pos c', if_pos c']
    exact ST.go h ht (fun c a => brb_o a) (fun g => g.1.bk hk hy gS) (fun c j a => mbk_c a) (fun g j a _ => mbk_o g.1.g hk hy gS (by omega) (by omega)) (fun g _ => (g.1.ky hk hy).2.1)
  · have c' : ¬ (isY k y ∧ (isY k y ∧ mcb σ k y)) := fun z => c ⟨z.1, (h.1.cb (by omega) (by omega)).mpr z.2.2⟩
    rw [hτ.trans (if_neg c), if_neg c', if_neg c']
    exact ST.no h c Iff.rfl (fun p => ⟨fun z => (h.1.cb (by omega) (by omega)).mpr z.2, fun z => ⟨p, (h.1.cb (by omega) (by omega)).mp z⟩⟩)
theorem mpl_tu {α β : Mem} (h : R1 α β) (hk : 0 ≤ k ∧ k < 4) : kat (tup α k) k 0 = mtuR β k := by
  have g := (h.tu hk).ka hk (q := 0) (by decide)
  have hL : mL (mtu β k) 0 k = mL β 0 k := mtu_o hk (h.g.kd hk).2 (by omega)
  have hr := (h.g.kd hk).2
  rw [g]
  unfold mpl mtuR
  rw [hL]
  by_cases e : mL β 0 k = 0
  · rw [if_pos (by omega), if_pos e]
  · rw [if_neg (by omega), if_neg e]
theorem st_turn (h : RG σ σ) {τ : Mem} (hτ : τ = aft (isK k) True (tup (pus σ) k) (kat (tup (pus σ) k) k 0) σ) : ST (thr (isK k) True) (if isK k ∧ True then mtuR (goM τ) k else 0) (if isK k ∧ True then mtu (goM τ) k else up τ 133 3 (if isK k then (if True then 0 else 2) else 1)) := by
  by_cases c : isK k ∧ True
  · have hk : 0 ≤ k ∧ k < 4 := by omega
    rw [thr_y c, if_pos c, if_pos c]
    exact ST.go h (hτ.trans (if_pos c)) (fun c a => tup_o (by omega)) (fun g => g.1.tu hk) (fun c j a => mtu_c a) (fun g j a _ => mtu_o hk (g.1.g.kd hk).2 (by omega)) (fun g _ => mpl_tu g.1 hk)
  · rw [if_neg c, if_neg c, hτ.trans (if_neg c)]
    exact ST.no h c Iff.rfl (fun _ => Iff.rfl)
theorem st_follow (h : RG σ σ) {τ : Mem} (hτ : τ = aft (isY k y) (1 ≤ q) (nfo (pus σ) (jud (pus σ) k y q)) (jud (pus σ) k y q) σ) : ST (thr (isY k y) (1 ≤ q)) (if isY k y ∧ (1 ≤ q) then mrf (goM τ) k y q else 0) (if isY k y ∧ (1 ≤ q) then mfo (goM τ) (mrf (goM τ) k y q) else up τ 133 3 (if isY k y then (if (1 ≤ q) then 0 else 2) else 1)) := by
  by_cases c : isY k y ∧ 1 ≤ q
  · have hk : 0 ≤ k ∧ k < 4 := by omega
    have hy : 0 ≤ y ∧ y < 16 := by omega
    rw [thr_y c, if_pos c, if_pos c]
    exact ST.go h (hτ.trans (if_pos c)) (fun c a => nfo_o (by omega)) (fun g => by rw [← g.1.jd hk hy]; exact g.1.fo) (fun c j a => mfo_c a) (fun g j a _ => by unfold mfo; rw [up_ap, if_neg (by omega), up_ap, if_neg (by omega), up_ap, if_neg (by omega)]) (fun g _ => g.1.jd hk hy)
  · rw [if_neg c, if_neg c, hτ.trans (if_neg c)]
    exact ST.no h c Iff.rfl (fun _ => Iff.rfl)
theorem st_pass (h : RG σ σ) {τ : Mem} (hτ : τ = aft (1 ≤ d ∧ d ≤ 99) (d ≤ 9999 - σ 2 0) (up (pus σ) 2 0 ((pus σ) 2 0 + d)) (hra (up (pus σ) 2 0 ((pus σ) 2 0 + d))) σ) : ST (thr (1 ≤ d ∧ d ≤ 99) (d ≤ 9999 - σ 2 0)) (if (1 ≤ d ∧ d ≤ 99) ∧ ((1 ≤ d ∧ d ≤ 99) ∧ τ 134 3 ≤ 9999 - d) then kin (mpa (goM τ) d) (-1) 4 else 0) (if (1 ≤ d ∧ d ≤ 99) ∧ ((1 ≤ d ∧ d ≤ 99) ∧ τ 134 3 ≤ 9999 - d) then mpa (goM τ) d else up τ 133 3 (if (1 ≤ d ∧ d ≤ 99) then (if ((1 ≤ d ∧ d ≤ 99) ∧ τ 134 3 ≤ 9999 - d) then 0 else 2) else 1)) := by
  have x := h.xc
  have hd : σ 2 0 = σ 134 3 := h.1.d
  by_cases c : (1 ≤ d ∧ d ≤ 99) ∧ d ≤ 9999 - σ 2 0
  · have ht := hτ.trans (if_pos c)
    have e4 : τ 134 = σ 134 := by rw [ht, up_o (by decide), up_o (by decide), pus_o x.1 x.2 (Or.inr (by decide))]
    have c' : (1 ≤ d ∧ d ≤ 99) ∧ ((1 ≤ d ∧ d ≤ 99) ∧ τ 134 3 ≤ 9999 - d) := ⟨c.1, c.1, by rw [e4]; omega⟩
    have eg : goM τ 134 3 = τ 134 3 := goM_0 (by rw [ht, up_o (by decide), up_o (by decide), pus_o x.1 x.2 (Or.inr (by decide))]; exact h.2.1.2.1) (by decide)
    rw [thr_y c, if_pos c', if_pos c']
    exact ST.go h ht (fun c a => up_o (by omega)) (fun g => g.1.pa (by omega) (by rw [eg, e4]; omega)) (fun c j a => by unfold mpa; rw [up_ap, if_neg (by omega)]) (fun g j a _ => by unfold mpa; rw [up_ap, if_neg (by omega)]) (fun g g2 => g2.hrx)
  · have c' : ¬ ((1 ≤ d ∧ d ≤ 99) ∧ ((1 ≤ d ∧ d ≤ 99) ∧ σ 134 3 ≤ 9999 - d)) := fun z => c ⟨z.1, by omega⟩
    rw [hτ.trans (if_neg c), if_neg c', if_neg c']
    exact ST.no h c Iff.rfl (fun p => ⟨fun z => by omega, fun z => ⟨p, by omega⟩⟩)
theorem st_season (h : RG σ σ) {τ : Mem} (hτ : τ = aft (isK k) (0 ≤ d ∧ d ≤ 99) (up (pus σ) 3 k d) ((pus σ) 3 k) σ) : ST (thr (isK k) (0 ≤ d ∧ d ≤ 99)) (if isK k ∧ (0 ≤ d ∧ d ≤ 99) then (goM τ) 134 (4 + k) else 0) (if isK k ∧ (0 ≤ d ∧ d ≤ 99) then up (goM τ) 134 (4 + k) d else up τ 133 3 (if isK k then (if (0 ≤ d ∧ d ≤ 99) then 0 else 2) else 1)) := by
  by_cases c : isK k ∧ (0 ≤ d ∧ d ≤ 99)
  · have hk : 0 ≤ k ∧ k < 4 := by omega
    rw [thr_y c, if_pos c, if_pos c]
    refine ST.go h (hτ.trans (if_pos c)) (fun c a => up_o (by omega)) (fun g => g.1.ss hk c.2) (fun c j a => by rw [up_ap, if_neg (by omega)]) (fun g j a _ => by rw [up_ap, if_neg (by omega)]) (fun g _ => (g.1.se hk).trans (m_at (by omega)))
  · rw [if_neg c, if_neg c, hτ.trans (if_neg c)]
    exact ST.no h c Iff.rfl (fun _ => Iff.rfl)
abbrev setP (k d : Int) : Prop := (if k = 1 then 1 else 0) ≤ d ∧ d ≤ (if k = 0 then 3 else if k = 1 then 9 else 20)
theorem st_set (h : RG σ σ) {τ : Mem} (hτ : τ = aft (0 ≤ k ∧ k ≤ 2) ((if k = 1 then 1 else 0) ≤ d ∧ d ≤ (if k = 0 then 3 else if k = 1 then 9 else 20)) (up (pus σ) 14 k d) ((pus σ) 14 k) σ) : ST (thr (0 ≤ k ∧ k ≤ 2) ((if k = 1 then 1 else 0) ≤ d ∧ d ≤ (if k = 0 then 3 else if k = 1 then 9 else 20))) (if (0 ≤ k ∧ k ≤ 2) ∧ ((if k = 1 then 1 else 0) ≤ d ∧ d ≤ (if k = 0 then 3 else if k = 1 then 9 else 20)) then (goM τ) 134 k else 0) (if (0 ≤ k ∧ k ≤ 2) ∧ ((if k = 1 then 1 else 0) ≤ d ∧ d ≤ (if k = 0 then 3 else if k = 1 then 9 else 20)) then up (goM τ) 134 k d else up τ 133 3 (if (0 ≤ k ∧ k ≤ 2) then (if ((if k = 1 then 1 else 0) ≤ d ∧ d ≤ (if k = 0 then 3 else if k = 1 then 9 else 20)) then 0 else 2) else 1)) := by
  by_cases c : (0 ≤ k ∧ k ≤ 2) ∧ ((if k = 1 then 1 else 0) ≤ d ∧ d ≤ (if k = 0 then 3 else if k = 1 then 9 else 20))
  · rw [thr_y c, if_pos c, if_pos c]
    exact ST.go h (hτ.trans (if_pos c)) (fun c a => up_o (by omega)) (fun g => g.1.st c.1 c.2) (fun c j a => by rw [up_ap, if_neg (by omega)]) (fun g j a _ => by rw [up_ap, if_neg (by omega)]) (fun g _ => g.1.xq ⟨c.1.1, by omega⟩)
  · rw [if_neg c, if_neg c, hτ.trans (if_neg c)]
    exact ST.no h c Iff.rfl (fun _ => Iff.rfl)
theorem st_append (h : RG σ σ) {τ : Mem} (hτ : τ = aft (33 ≤ v ∧ v ≤ 126) (¬ 60 ≤ σ 131 1) (up (up σ 132 (σ 131 1) v) 131 1 (σ 131 1 + 1)) (σ 131 1 + 1) σ) : ST (thr (33 ≤ v ∧ v ≤ 126) (¬ 60 ≤ σ 131 1)) (if (33 ≤ v ∧ v ≤ 126) ∧ τ 133 5 < 60 then τ 133 5 + 1 else 0) (if (33 ≤ v ∧ v ≤ 126) ∧ τ 133 5 < 60 then up (up (up τ 133 3 0) 136 (τ 133 5) v) 133 5 (τ 133 5 + 1) else up τ 133 3 (if (33 ≤ v ∧ v ≤ 126) then (if τ 133 5 < 60 then 0 else 2) else 1)) := by
  have t1 := h.2.2.2.1
  by_cases c : (33 ≤ v ∧ v ≤ 126) ∧ ¬ 60 ≤ σ 131 1
  · have ht := hτ.trans (if_pos c)
    have e3 : τ 133 5 = σ 133 5 := by rw [ht, up_ap, if_neg (by omega), up_ap, if_neg (by omega), up_ap, if_neg (by omega)]
    have c' : (33 ≤ v ∧ v ≤ 126) ∧ τ 133 5 < 60 := ⟨c.1, by rw [e3]; omega⟩
    have hb : RG σ τ := by rw [ht]; exact h.t (fun c a => by rw [up_o (by omega), up_o (by omega)])
    rw [thr_y c, if_pos c', if_pos c']
    refine ST.ok (R := σ 131 1 + 1) (hb.app c.1 c'.2) (fun c j a1 a2 a3 a4 => ?_) ?_ (by rw [e3, t1])
    · rw [up_ap, if_neg (by omega), up_ap, if_neg (by omega), up_ap, if_neg (by omega), ht]
    · rw [up_ap, if_neg (by omega), up_ap, if_neg (by omega), up_ap, if_pos ⟨rfl, rfl⟩]
  · have c' : ¬ ((33 ≤ v ∧ v ≤ 126) ∧ σ 133 5 < 60) := fun z => c ⟨z.1, by omega⟩
    rw [hτ.trans (if_neg c), if_neg c', if_neg c']
    exact ST.no h c Iff.rfl (fun p => ⟨fun z => by omega, fun z => by omega⟩)
theorem st_run (h : RG σ σ) {τ : Mem} (hτ : τ = aft (mayE (ast σ (σ 131 1))) True (up (crI σ (σ 131 1)).1 131 1 0) ((crI σ (σ 131 1)).2.1) σ) (hO : ∀ c, 133 ≤ c → (crI σ (σ 131 1)).1 c = σ c) : ST (thr (mayE (ast σ (σ 131 1))) True) (if erR τ < 0 then (rnI τ 61).2.1 else 0) (if erR τ < 0 then up (rnI τ 61).1 133 5 0 else up (erM τ) 133 3 1) := by
  have eo : ∀ (ν : Mem) (c : Nat) (j : Int), (c ≠ 133 ∨ (j ≠ 6 ∧ j ≠ 7 ∧ j ≠ 8)) → erM ν c j = ν c j := fun ν c j w => er_o (by decide) w
  by_cases c : mayE (ast σ (σ 131 1)) ∧ True
  · have ht := hτ.trans (if_pos c)
    have hb : RG σ τ := by rw [ht]; exact h.t (fun c a => by rw [up_o (by omega), hO c a])
    have hE : erR τ < 0 := (er_cl hb.2.2.2).1.mpr (by rw [← hb.2.2.2.1]; exact c.1)
    have g := hb.run hE
    rw [thr_y c, if_pos hE, if_pos hE]
    refine ST.ok (R := (crI σ (σ 131 1)).2.1) g.2.1 (fun c j a1 a2 a3 a4 => ?_) ?_ g.1
    · rw [up_ap, if_neg (by omega), rnI_c a1 a2, ht]
    · rw [up_ap, if_neg (by omega)]; exact g.2.2
  · have ht := hτ.trans (if_neg c)
    have hE : ¬ erR σ < 0 := fun z => c ⟨by rw [h.2.2.2.1]; exact (er_cl h.2.2.2).1.mp z, trivial⟩
    rw [ht, if_neg hE, if_neg hE]
    have e : thr (mayE (ast σ (σ 131 1))) True = 1 := by unfold thr; rw [if_neg (fun z => c ⟨z, trivial⟩)]
    rw [e]
    refine ⟨by rw [up_ap, if_pos ⟨rfl, rfl⟩], by decide, fun w => absurd w (by decide), h.m (fun c a b => ?_) (fun j _ => ?_) ?_ ?_ (fun j => ?_) (fun j => ?_)⟩
    · rw [up_o (by omega)]; funext j; exact eo _ _ _ (by omega)
    · rw [up_ap, if_neg (by omega)]; exact eo _ _ _ (by omega)
    · rw [up_ap, if_neg (by omega)]; exact eo _ _ _ (by omega)
    · rw [up_ap, if_neg (by omega)]; exact eo _ _ _ (by omega)
    · rw [up_ap, if_neg (by omega)]; exact eo _ _ _ (by omega)
    · rw [up_ap, if_neg (by omega)]; exact eo _ _ _ (by omega)
theorem st_keep (h : RG σ σ) {τ : Mem} (hτ : τ = aft (0 ≤ q ∧ q ≤ 1) True (up (csp σ 1 (102 + 14 * q.toNat)) 130 q 1) (σ 2 0) σ) : ST (thr (0 ≤ q ∧ q ≤ 1) True) (if (0 ≤ q ∧ q ≤ 1) ∧ True then τ 134 3 else 0) (if (0 ≤ q ∧ q ≤ 1) ∧ True then up (sgc (up τ 133 3 0) 0 (7 + q) 291) 135 q 1 else up τ 133 3 (if (0 ≤ q ∧ q ≤ 1) then (if True then 0 else 2) else 1)) := by
  by_cases c : (0 ≤ q ∧ q ≤ 1) ∧ True
  · have ht := hτ.trans (if_pos c)
    have hM : ∀ c', 133 ≤ c' → up (csp σ 1 (102 + 14 * q.toNat)) 130 q 1 c' = σ c' := fun c' a => by rw [up_o (by omega), csp_o (by omega)]
    have hb : RG σ τ := by rw [ht]; exact h.t hM
    have e4 : τ 134 3 = σ 2 0 := by rw [ht, up_o (by decide), hM 134 (by decide)]; exact h.1.d.symm
    rw [thr_y c, if_pos c, if_pos c]
    refine ST.ok (R := σ 2 0) (hb.keep c.1) (fun c j a1 a2 a3 a4 => ?_) ?_ e4.symm
    · rw [up_ap, if_neg (by omega), sgc_c a2, up_ap, if_neg (by omega), ht]
    · rw [up_ap, if_neg (by omega), sgc_c (by decide), up_ap, if_pos ⟨rfl, rfl⟩]
  · rw [if_neg c, if_neg c, hτ.trans (if_neg c)]
    exact ST.no h c Iff.rfl (fun _ => Iff.rfl)
theorem st_goBack (h : RG σ σ) {τ : Mem} (hτ : τ = aft (0 ≤ q ∧ q ≤ 1) (σ 130 q = 1) (csp (pus σ) (102 + 14 * q.toNat) 1) ((pus σ) (102 + 14 * q.toNat + 1) 0) σ) : ST (thr (0 ≤ q ∧ q ≤ 1) (σ 130 q = 1)) (if (0 ≤ q ∧ q ≤ 1) ∧ ((0 ≤ q ∧ q ≤ 1) ∧ τ 135 q = 1) then τ 134 (3 + 291 * (7 + q)) else 0) (if (0 ≤ q ∧ q ≤ 1) ∧ ((0 ≤ q ∧ q ≤ 1) ∧ τ 135 q = 1) then sgc (goM τ) (7 + q) 0 291 else up τ 133 3 (if (0 ≤ q ∧ q ≤ 1) then (if ((0 ≤ q ∧ q ≤ 1) ∧ τ 135 q = 1) then 0 else 2) else 1)) := by
  have x := h.xc
  by_cases c : (0 ≤ q ∧ q ≤ 1) ∧ σ 130 q = 1
  · have ht := hτ.trans (if_pos c)
    have g := h.2.2.1 q c.1.1 c.1.2
    have hM : ∀ c', 133 ≤ c' → csp (pus σ) (102 + 14 * q.toNat) 1 c' = σ c' := fun c' a => by rw [csp_o (by omega), pus_o x.1 x.2 (Or.inr (by omega))]
    have hb : RG σ τ := by rw [ht]; exact h.t hM
    have hp := hb.push
    have e135 : τ 135 = σ 135 := by rw [ht, up_o (by decide), hM 135 (by decide)]
    have c' : (0 ≤ q ∧ q ≤ 1) ∧ ((0 ≤ q ∧ q ≤ 1) ∧ τ 135 q = 1) := ⟨c.1, c.1, by rw [e135]; omega⟩
    have k1 : goM τ 135 q = 1 := by rw [goM_o (by decide) (by omega)]; exact c'.2.2
    rw [thr_y c, if_pos c', if_pos c']
    refine ST.ok (R := (pus σ) (102 + 14 * q.toNat + 1) 0) (hp.back c.1 k1) (fun c j a1 a2 a3 a4 => ?_) ?_ ?_
    · rw [sgc_c a2, goM_o a2 (Or.inl a1), ht]
    · rw [sgc_c (by decide)]; exact goM_33
    · have g1 := (g.2.2 (by omega)).d
      have e : (pus σ) (102 + 14 * q.toNat + 1) 0 = σ (102 + 14 * q.toNat + 1) 0 := by rw [pus_o x.1 x.2 (Or.inr (by omega))]
      have e4 : τ 134 = σ 134 := by rw [ht, up_o (by decide), hM 134 (by decide)]
      rw [e, e4]
      refine g1.trans ?_
      show σ 134 (291 * (7 + q) + (0 + 3)) = σ 134 (3 + 291 * (7 + q))
      exact m_at (by omega)
  · have c' : ¬ ((0 ≤ q ∧ q ≤ 1) ∧ ((0 ≤ q ∧ q ≤ 1) ∧ σ 135 q = 1)) := fun z => c ⟨z.1, by have g := h.2.2.1 q z.1.1 z.1.2; omega⟩
    rw [hτ.trans (if_neg c), if_neg c', if_neg c']
    exact ST.no h c Iff.rfl (fun p => by have g := h.2.2.1 q p.1 p.2; exact ⟨fun z => by omega, fun z => ⟨p, by omega⟩⟩)
theorem st_undo (h : RG σ σ) {τ : Mem} (hτ : τ = aft (¬ σ 15 1 = 0) True (pop σ) (σ 15 1 - 1) σ) : ST (thr (¬ σ 15 1 = 0) True) (if 0 < τ 133 1 ∧ True then τ 133 1 - 1 else 0) (if 0 < τ 133 1 ∧ True then up (sgc (up τ 133 3 0) (τ 133 1) 0 291) 133 1 (τ 133 1 - 1) else up τ 133 3 (if 0 < τ 133 1 then (if True then 0 else 2) else 1)) := by
  have x := h.xc
  have v1 := h.2.1.1
  by_cases c : (¬ σ 15 1 = 0) ∧ True
  · have ht := hτ.trans (if_pos c)
    have hM : ∀ c', 133 ≤ c' → pop σ c' = σ c' := fun c' a => by
      unfold pop; split
      · rfl
      · rw [csp_o (by omega), up_o (by omega)]
    have hb : RG σ τ := by rw [ht]; exact h.t hM
    have e1 : τ 133 1 = σ 133 1 := by rw [ht, up_o (by decide), hM 133 (by decide)]
    have c' : 0 < τ 133 1 ∧ True := ⟨by rw [e1]; omega, trivial⟩
    rw [thr_y c, if_pos c', if_pos c']
    refine ST.ok (R := σ 15 1 - 1) (hb.undo c'.1) (fun c j a1 a2 a3 a4 => ?_) ?_ (by rw [e1, v1])
    · rw [up_ap, if_neg (by omega), sgc_c a2, up_ap, if_neg (by omega), ht]
    · rw [up_ap, if_neg (by omega), sgc_c (by decide), up_ap, if_pos ⟨rfl, rfl⟩]
  · have c' : ¬ (0 < σ 133 1 ∧ True) := fun z => c ⟨by omega, trivial⟩
    rw [hτ.trans (if_neg c), if_neg c', if_neg c']
    exact ST.no h c ⟨fun z => by omega, fun z => by omega⟩ (fun _ => Iff.rfl)
/-- looks -/
theorem E9.ok {σ τ ν : Mem} {R r : Int} (h : RG σ σ) (ht : τ = up σ 137 0 (wr R)) (hν : ∀ c j, c ≠ 134 ∨ j < 2619 → ν c j = up τ 133 3 0 c j) (hr : R1 σ (up τ 133 3 0) → R = r) : ST 0 r ν := by
  have e : ∀ c j, c ≠ 133 ∨ j ≠ 3 → c ≠ 134 ∨ j < 2619 → c ≠ 137 → ν c j = σ c j := fun c j a b d => by rw [hν c j b, up_ap, if_neg (by omega), ht, up_ap, if_neg (by omega)]
  have hb : RG σ ν := h.m (fun _ _ _ => rfl) (fun j a => e _ _ (by omega) (by omega) (by omega)) (e _ _ (by omega) (by omega) (by omega)) (e _ _ (by omega) (by omega) (by omega)) (fun j => e _ _ (by omega) (by omega) (by omega)) (fun j => e _ _ (by omega) (by omega) (by omega))
  refine ST.ok (R := R) hb (fun c j a1 a2 a3 a4 => ?_) (by rw [hν _ _ (by omega), up_ap, if_pos ⟨rfl, rfl⟩]) (hr (h.1.m (fun _ _ _ => rfl) (fun j _ _ => by rw [up_ap, if_neg (by omega), ht, up_ap, if_neg (by omega)])))
  rw [hν c j (by omega), up_ap, if_neg (by omega), ht]
theorem st_keyOf (h : RG σ σ) {τ : Mem} (hτ : τ = aft (isY k y) (0 ≤ w ∧ w ≤ 4) σ (pok σ k y w) σ) : ST (thr (isY k y) (0 ≤ w ∧ w ≤ 4)) (if isY k y ∧ (0 ≤ w ∧ w ≤ 4) then mky (up τ 133 3 0) k y w else 0) (if isY k y ∧ (0 ≤ w ∧ w ≤ 4) then up τ 133 3 0 else up τ 133 3 (if isY k y then (if (0 ≤ w ∧ w ≤ 4) then 0 else 2) else 1)) := by
  by_cases c : (isY k y) ∧ (0 ≤ w ∧ w ≤ 4)
  · have ht := hτ.trans (if_pos c)
    rw [thr_y c, if_pos c, if_pos c]
    refine E9.ok h ht (fun c' j' a => rfl) (fun g => ?_)
    exact g.po ⟨by omega, by omega⟩ ⟨by omega, by omega⟩ ⟨by omega, by omega⟩
  · rw [if_neg c, if_neg c, hτ.trans (if_neg c)]
    exact ST.no h c Iff.rfl (fun _ => Iff.rfl)
theorem st_kindOf (h : RG σ σ) {τ : Mem} (hτ : τ = aft (isK k) (0 ≤ w ∧ w ≤ 10) σ (pkd σ k w) σ) : ST (thr (isK k) (0 ≤ w ∧ w ≤ 10)) (if isK k ∧ (0 ≤ w ∧ w ≤ 10) then mkd (up τ 133 3 0) k w else 0) (if isK k ∧ (0 ≤ w ∧ w ≤ 10) then up τ 133 3 0 else up τ 133 3 (if isK k then (if (0 ≤ w ∧ w ≤ 10) then 0 else 2) else 1)) := by
  by_cases c : (isK k) ∧ (0 ≤ w ∧ w ≤ 10)
  · have ht := hτ.trans (if_pos c)
    rw [thr_y c, if_pos c, if_pos c]
    refine E9.ok h ht (fun c' j' a => rfl) (fun g => ?_)
    exact g.pk ⟨by omega, by omega⟩ ⟨by omega, by omega⟩
  · rw [if_neg c, if_neg c, hτ.trans (if_neg c)]
    exact ST.no h c Iff.rfl (fun _ => Iff.rfl)
theorem st_pile (h : RG σ σ) {τ : Mem} (hτ : τ = aft (isK k) (0 ≤ q) σ (kat σ k q) σ) : ST (thr (isK k) (0 ≤ q)) (if isK k ∧ (0 ≤ q) then mpl (up τ 133 3 0) k q else 0) (if isK k ∧ (0 ≤ q) then up τ 133 3 0 else up τ 133 3 (if isK k then (if (0 ≤ q) then 0 else 2) else 1)) := by
  by_cases c : (isK k) ∧ (0 ≤ q)
  · have ht := hτ.trans (if_pos c)
    rw [thr_y c, if_pos c, if_pos c]
    refine E9.ok h ht (fun c' j' a => rfl) (fun g => ?_)
    exact g.ka ⟨by omega, by omega⟩ c.2
  · rw [if_neg c, if_neg c, hτ.trans (if_neg c)]
    exact ST.no h c Iff.rfl (fun _ => Iff.rfl)
theorem st_count (h : RG σ σ) {τ : Mem} (hτ : τ = aft (0 ≤ w ∧ w ≤ 9) (True) σ (nof σ w) σ) : ST (thr (0 ≤ w ∧ w ≤ 9) (True)) (if (0 ≤ w ∧ w ≤ 9) ∧ True then mco (up τ 133 3 0) w else 0) (if (0 ≤ w ∧ w ≤ 9) ∧ True then up τ 133 3 0 else up τ 133 3 (if (0 ≤ w ∧ w ≤ 9) then (if True then 0 else 2) else 1)) := by
  by_cases c : (0 ≤ w ∧ w ≤ 9) ∧ (True)
  · have ht := hτ.trans (if_pos c)
    rw [thr_y c, if_pos c, if_pos c]
    refine E9.ok h ht (fun c' j' a => rfl) (fun g => ?_)
    exact g.no ⟨by omega, by omega⟩ (by rw [up_ap, if_neg (by omega), ht, up_ap, if_neg (by omega)]; exact h.2.1.1)
  · rw [if_neg c, if_neg c, hτ.trans (if_neg c)]
    exact ST.no h c Iff.rfl (fun _ => Iff.rfl)
theorem st_setting (h : RG σ σ) {τ : Mem} (hτ : τ = aft (0 ≤ k ∧ k ≤ 2) (True) σ (σ 14 k) σ) : ST (thr (0 ≤ k ∧ k ≤ 2) (True)) (if (0 ≤ k ∧ k ≤ 2) ∧ True then τ 134 k else 0) (if (0 ≤ k ∧ k ≤ 2) ∧ True then up τ 133 3 0 else up τ 133 3 (if (0 ≤ k ∧ k ≤ 2) then (if True then 0 else 2) else 1)) := by
  by_cases c : (0 ≤ k ∧ k ≤ 2) ∧ (True)
  · have ht := hτ.trans (if_pos c)
    rw [thr_y c, if_pos c, if_pos c]
    refine E9.ok h ht (fun c' j' a => rfl) (fun g => ?_)
    rw [g.xq ⟨by omega, by omega⟩, up_ap, if_neg (by omega)]
  · rw [if_neg c, if_neg c, hτ.trans (if_neg c)]
    exact ST.no h c Iff.rfl (fun _ => Iff.rfl)
theorem st_ifAsked (h : RG σ σ) {τ : Mem} (hτ : τ = aft (isK k) (True) σ (atr σ k) σ) : ST (thr (isK k) (True)) (if isK k ∧ True then mas (up τ 133 3 0) k else 0) (if isK k ∧ True then up τ 133 3 0 else up τ 133 3 (if isK k then (if True then 0 else 2) else 1)) := by
  by_cases c : (isK k) ∧ (True)
  · have ht := hτ.trans (if_pos c)
    rw [thr_y c, if_pos c, if_pos c]
    refine E9.ok h ht (fun c' j' a => rfl) (fun g => ?_)
    exact g.atx ⟨by omega, by omega⟩
  · rw [if_neg c, if_neg c, hτ.trans (if_neg c)]
    exact ST.no h c Iff.rfl (fun _ => Iff.rfl)
theorem st_keyIn (h : RG σ σ) {τ : Mem} (hτ : τ = aft (isK k) (True) σ (dtk σ k) σ) : ST (thr (isK k) (True)) (if isK k ∧ True then mso (up τ 133 3 0) k else 0) (if isK k ∧ True then up τ 133 3 0 else up τ 133 3 (if isK k then (if True then 0 else 2) else 1)) := by
  by_cases c : (isK k) ∧ (True)
  · have ht := hτ.trans (if_pos c)
    rw [thr_y c, if_pos c, if_pos c]
    refine E9.ok h ht (fun c' j' a => rfl) (fun g => ?_)
    exact g.sn ⟨by omega, by omega⟩
  · rw [if_neg c, if_neg c, hτ.trans (if_neg c)]
    exact ST.no h c Iff.rfl (fun _ => Iff.rfl)
theorem st_coming (h : RG σ σ) {τ : Mem} (hτ : τ = aft (isK k) (1 ≤ n ∧ n ≤ 16) σ (kor σ k n) σ) : ST (thr (isK k) (1 ≤ n ∧ n ≤ 16)) (if isK k ∧ (1 ≤ n ∧ n ≤ 16) then mcR (up τ 133 3 0) k n else 0) (if isK k ∧ (1 ≤ n ∧ n ≤ 16) then (mcs (up τ 133 3 0) k n).1 else up τ 133 3 (if isK k then (if (1 ≤ n ∧ n ≤ 16) then 0 else 2) else 1)) := by
  by_cases c : (isK k) ∧ (1 ≤ n ∧ n ≤ 16)
  · have ht := hτ.trans (if_pos c)
    rw [thr_y c, if_pos c, if_pos c]
    refine E9.ok h ht (fun c' j' a => by have g : R1 σ (up τ 133 3 0) := h.1.m (fun _ _ _ => rfl) (fun j _ _ => by rw [up_ap, if_neg (by omega), ht, up_ap, if_neg (by omega)]); exact (g.co (k := k) (n := n) (by omega) (by omega)).2 c' j' a) (fun g => ?_)
    exact (g.co ⟨by omega, by omega⟩ ⟨by omega, by omega⟩).1
  · rw [if_neg c, if_neg c, hτ.trans (if_neg c)]
    exact ST.no h c Iff.rfl (fun _ => Iff.rfl)
theorem st_longest (h : RG σ σ) {τ : Mem} (hτ : τ = aft (isK k) (True) σ (lgs σ k) σ) : ST (thr (isK k) (True)) (if isK k ∧ True then mlo (up τ 133 3 0) k else 0) (if isK k ∧ True then up τ 133 3 0 else up τ 133 3 (if isK k then (if True then 0 else 2) else 1)) := by
  by_cases c : (isK k) ∧ (True)
  · have ht := hτ.trans (if_pos c)
    rw [thr_y c, if_pos c, if_pos c]
    refine E9.ok h ht (fun c' j' a => rfl) (fun g => ?_)
    exact g.lo ⟨by omega, by omega⟩
  · rw [if_neg c, if_neg c, hτ.trans (if_neg c)]
    exact ST.no h c Iff.rfl (fun _ => Iff.rfl)
theorem st_ifFollowed (h : RG σ σ) {τ : Mem} (hτ : τ = aft (isY k y) (1 ≤ q) σ (jud σ k y q) σ) : ST (thr (isY k y) (1 ≤ q)) (if isY k y ∧ (1 ≤ q) then mrf (up τ 133 3 0) k y q else 0) (if isY k y ∧ (1 ≤ q) then up τ 133 3 0 else up τ 133 3 (if isY k y then (if (1 ≤ q) then 0 else 2) else 1)) := by
  by_cases c : (isY k y) ∧ (1 ≤ q)
  · have ht := hτ.trans (if_pos c)
    rw [thr_y c, if_pos c, if_pos c]
    refine E9.ok h ht (fun c' j' a => rfl) (fun g => ?_)
    exact g.jd ⟨by omega, by omega⟩ ⟨by omega, by omega⟩
  · rw [if_neg c, if_neg c, hτ.trans (if_neg c)]
    exact ST.no h c Iff.rfl (fun _ => Iff.rfl)
/-- looks that never throw, and the buffer's -/
theorem RG.ok {σ ν : Mem} (h : RG σ σ) (hν : ∀ c j, (c ≠ 133 ∨ (j ≠ 3 ∧ j ≠ 6 ∧ j ≠ 7 ∧ j ≠ 8)) → c ≠ 134 ∨ j < 2619 → ν c j = σ c j) : RG ν ν := h.m (fun c a b => by funext j; exact hν c j (by omega) (by omega)) (fun j a => hν _ _ (by omega) (by omega)) (hν _ _ (by omega) (by omega)) (hν _ _ (by omega) (by omega)) (fun j => hν _ _ (by omega) (by omega)) (fun j => hν _ _ (by omega) (by omega))
theorem RG.u3 {σ : Mem} (h : RG σ σ) : RG σ (up σ 133 3 0) := h.m (fun _ _ _ => rfl) (fun j a => by rw [up_ap, if_neg (by omega)]) (by rw [up_ap, if_neg (by omega)]) (by rw [up_ap, if_neg (by omega)]) (fun j => by rw [up_ap, if_neg (by omega)]) (fun j => by rw [up_ap, if_neg (by omega)])
theorem st_clear (h : RG σ σ) : σ 131 1 = (up σ 131 1 0) 133 5 ∧ RG (up (up (up σ 131 1 0) 133 3 0) 133 5 0) (up (up (up σ 131 1 0) 133 3 0) 133 5 0) := by
  refine ⟨by rw [up_ap, if_neg (by omega)]; exact h.2.2.2.1, ?_⟩
  have h1 : RG σ (up (up σ 131 1 0) 133 3 0) := h.m (fun _ _ _ => rfl) (fun j a => by rw [up_ap, if_neg (by omega), up_ap, if_neg (by omega)]) (by rw [up_ap, if_neg (by omega), up_ap, if_neg (by omega)]) (by rw [up_ap, if_neg (by omega), up_ap, if_neg (by omega)]) (fun j => by rw [up_ap, if_neg (by omega), up_ap, if_neg (by omega)]) (fun j => by rw [up_ap, if_neg (by omega), up_ap, if_neg (by omega)])
  exact h1.clr.two (fun c a b => by rw [up_o (by omega), up_o (by omega)])
theorem st_first (h : RG σ σ) : erA σ = (if erR (up σ 133 3 0) < 0 then σ 133 5 else erR (up σ 133 3 0)) ∧ RG (erM (up σ 133 3 0)) (erM (up σ 133 3 0)) := by
  have eo : ∀ (ν : Mem) (c : Nat) (j : Int), (c ≠ 133 ∨ (j ≠ 6 ∧ j ≠ 7 ∧ j ≠ 8)) → erM ν c j = ν c j := fun ν c j w => er_o (by decide) w
  have g := (er_cl h.u3.2.2.2).2
  have e5 : up σ 133 3 0 133 5 = σ 133 5 := by rw [up_ap, if_neg (by omega)]
  rw [e5] at g
  exact ⟨g, h.ok (fun c j a b => by rw [eo _ _ _ (by omega), up_ap, if_neg (by omega)])⟩
theorem st_scarce (h : RG σ σ) : scz σ = mfw (up σ 133 3 0) ∧ RG (up σ 133 3 0) (up σ 133 3 0) := ⟨h.u3.1.sc, h.ok (fun c j a b => by rw [up_ap, if_neg (by omega)])⟩
theorem st_share (h : RG σ σ) : shW (kin (up σ 133 3 0) (-1) 4) (sm (up σ 133 3 0) 264) = shW (hra σ) (hma σ 2) := h.u3.1.sh
theorem st_digest (h : RG σ σ) : RG (dgM σ) (dgM σ) := h.ok (fun c j a b => by rw [E9.M h.1 c j b, up_ap, if_neg (by omega)])
/-- the mean -/
def SD (q : Int) (x : UInt32) (ν : Mem) : Prop := ν 133 3 = q ∧ (0 ≤ q ∧ q ≤ 2) ∧ (q = 0 → ν 138 0 = ((FP.f2d x).toNat : Int) ∧ FPq x) ∧ RG ν ν
theorem st_mean (h : RG σ σ) {τ : Mem} (hτ : τ = if isK k ∧ True then up σ 138 0 ((FP.f2d (mnW (dsm σ k) (hm σ k 2))).toNat : Int) else σ) : SD (thr (isK k) True) (if isK k ∧ True then mnW (msm (up τ 133 3 0) k) (mL (up τ 133 3 0) 0 k) else FP.fconst0) (if isK k ∧ True then up τ 133 3 0 else up τ 133 3 (if isK k then (if True then 0 else 2) else 1)) := by
  by_cases c : isK k ∧ True
  · have hk : 0 ≤ k ∧ k < 4 := by omega
    have ht := hτ.trans (if_pos c)
    have g : R1 σ (up τ 133 3 0) := h.1.m (fun _ _ _ => rfl) (fun j _ _ => by rw [up_ap, if_neg (by omega), ht, up_ap, if_neg (by omega)])
    have d0 := dsm_rg h.1.is.1 hk
    have d1 := hm_rg (σ := σ) (k := k) (w := 2)
    rw [thr_y c, if_pos c, if_pos c, g.mn hk]
    refine ⟨by rw [up_ap, if_pos ⟨rfl, rfl⟩], by decide, fun _ => ⟨by rw [up_ap, if_neg (by omega), ht, up_ap, if_pos ⟨rfl, rfl⟩], mnW_ok (by omega) (by omega)⟩, h.m (fun c a b => by rw [up_o (by omega), ht, up_o (by omega)]) (fun j _ => ?_) ?_ ?_ (fun j => ?_) (fun j => ?_)⟩
    all_goals rw [up_ap, if_neg (by omega), ht, up_ap, if_neg (by omega)]
  · rw [if_neg c, if_neg c, hτ.trans (if_neg c)]
    have s := ST.no (r := 0) h c Iff.rfl (fun _ => Iff.rfl)
    exact ⟨s.1, s.2.1, fun w => absurd (thr_0 w) c, s.2.2.2⟩
end STEPS
