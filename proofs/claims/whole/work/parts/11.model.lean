/-! the reference: its numbers at 134 (a state is a stretch of 291), its fields at 133 -/
def mRu (σ : Mem) (b : Int) : Int := σ 134 b
def mX (σ : Mem) (b j : Int) : Int := σ 134 (b + j)
def mD (σ : Mem) (b : Int) : Int := σ 134 (b + 3)
def mSe (σ : Mem) (b k : Int) : Int := σ 134 (b + 4 + k)
def mL (σ : Mem) (b k : Int) : Int := σ 134 (b + 264 + k)
def mP (σ : Mem) (b k p : Int) : Int := σ 134 (b + 200 + 16 * k + p)
def mS (σ : Mem) (b k y : Int) : Int := σ 134 (b + 8 + 3 * (16 * k + y))
def mR (σ : Mem) (b k y : Int) : Int := σ 134 (b + 8 + 3 * (16 * k + y) + 1)
def mT (σ : Mem) (b k y : Int) : Int := σ 134 (b + 8 + 3 * (16 * k + y) + 2)
/-- a pile of L places P over the states S of sixteen keys -/
def PK (L : Int) (P S : Int → Int) : Prop := L = cn (fun y => S y = 2) 16 ∧ (∀ p, 0 ≤ p → p < L → (0 ≤ P p ∧ P p < 16) ∧ S (P p) = 2) ∧ (∀ p q, 0 ≤ p → p < q → q < L → P p ≠ P q) ∧ ∀ y, 0 ≤ y → y < 16 → S y = 2 → ∃ p, 0 ≤ p ∧ p < L ∧ P p = y
def SG (σ : Mem) (b N : Int) : Prop := (0 ≤ b ∧ b ≤ 2619 ∧ 0 ≤ N ∧ N ≤ 1000) ∧ (0 ≤ mRu σ b ∧ mRu σ b ≤ 3) ∧ ((1 ≤ mX σ b 1 ∧ mX σ b 1 ≤ 9) ∧ 0 ≤ mX σ b 2 ∧ mX σ b 2 ≤ 20) ∧ (0 ≤ mD σ b ∧ mD σ b ≤ 9999) ∧
  (∀ k, 0 ≤ k ∧ k < 4 → (0 ≤ mSe σ b k ∧ mSe σ b k ≤ 99) ∧ PK (mL σ b k) (mP σ b k) (mS σ b k)) ∧
  ∀ k y, 0 ≤ k ∧ k < 4 → 0 ≤ y ∧ y < 16 → (0 ≤ mS σ b k y ∧ mS σ b k y ≤ 3) ∧ (0 ≤ mR σ b k y ∧ mR σ b k y ≤ N) ∧ 0 ≤ mT σ b k y ∧ mT σ b k y ≤ mD σ b
theorem SG.pk {σ : Mem} {b N k : Int} (h : SG σ b N) (hk : 0 ≤ k ∧ k < 4) : PK (mL σ b k) (mP σ b k) (mS σ b k) := (h.2.2.2.2.1 k hk).2
theorem PK.rg {L : Int} {P S : Int → Int} (h : PK L P S) : 0 ≤ L ∧ L ≤ 16 := by rw [h.1]; exact cn_rg (by omega)
theorem SG.ru {σ : Mem} {b N : Int} (h : SG σ b N) : 0 ≤ mRu σ b ∧ mRu σ b ≤ 3 := h.2.1
theorem SG.x {σ : Mem} {b N : Int} (h : SG σ b N) : (1 ≤ mX σ b 1 ∧ mX σ b 1 ≤ 9) ∧ 0 ≤ mX σ b 2 ∧ mX σ b 2 ≤ 20 := h.2.2.1
theorem SG.d {σ : Mem} {b N : Int} (h : SG σ b N) : 0 ≤ mD σ b ∧ mD σ b ≤ 9999 := h.2.2.2.1
theorem SG.kd {σ : Mem} {b N k : Int} (h : SG σ b N) (hk : 0 ≤ k ∧ k < 4) : (0 ≤ mSe σ b k ∧ mSe σ b k ≤ 99) ∧ 0 ≤ mL σ b k ∧ mL σ b k ≤ 16 := by
  have h1 := h.2.2.2.2.1 k hk
  have h2 := h1.2.rg
  omega
theorem SG.pl {σ : Mem} {b N k p : Int} (h : SG σ b N) (hk : 0 ≤ k ∧ k < 4) (h0 : 0 ≤ p) (h1 : p < mL σ b k) : 0 ≤ mP σ b k p ∧ mP σ b k p < 16 := ((h.pk hk).2.1 p h0 h1).1
theorem SG.ky {σ : Mem} {b N k y : Int} (h : SG σ b N) (hk : 0 ≤ k ∧ k < 4) (hy : 0 ≤ y ∧ y < 16) : (0 ≤ mS σ b k y ∧ mS σ b k y ≤ 3) ∧ (0 ≤ mR σ b k y ∧ mR σ b k y ≤ N) ∧ 0 ≤ mT σ b k y ∧ mT σ b k y ≤ mD σ b := h.2.2.2.2.2 k y hk hy
abbrev mrp (σ : Mem) (b k y : Int) : Prop := mS σ b k y = 2 ∧ mSe σ b k ≤ mD σ b - mT σ b k y
abbrev mcg (σ : Mem) (b k y : Int) : Prop := mS σ b k y = 0 ∨ mrp σ b k y
def plcF (σ : Mem) (b k y p v : Int) : Int := if mP σ b k p = y then p else v
def plc (σ : Mem) (b k y : Int) : Int := it (plcF σ b k y) (-1) (mL σ b k)
theorem plc_rg {σ : Mem} {b k y : Int} (h : 0 ≤ mL σ b k) : -1 ≤ plc σ b k y ∧ plc σ b k y ≤ mL σ b k - 1 := by
  refine it_inv (f := plcF σ b k y) (a := -1) (n := mL σ b k) (fun i v => -1 ≤ v ∧ v ≤ i - 1) ⟨by decide, by decide⟩ (fun j v h0 h1 h => ?_) h (Int.le_refl _)
  unfold plcF
  split <;> omega
/-- a stretch one place down; one place up; turned; copied -/
def shl (σ : Mem) (a lo hi : Int) : Mem := fun c j => if c = 134 ∧ a + lo ≤ j ∧ j < a + hi then σ 134 (j + 1) else σ c j
def shr (σ : Mem) (a lo hi : Int) : Mem := fun c j => if c = 134 ∧ a + lo < j ∧ j ≤ a + hi then σ 134 (j - 1) else σ c j
def rvs (σ : Mem) (a n i : Int) : Mem := fun c j => if c = 134 ∧ ((a ≤ j ∧ j < a + i) ∨ (a + n - 1 - i < j ∧ j ≤ a + n - 1)) then σ 134 (a + (a + n - 1) - j) else σ c j
def sgc (σ : Mem) (f t i : Int) : Mem := fun c j => if c = 134 ∧ 291 * t ≤ j ∧ j < 291 * t + i then σ 134 (j - 291 * t + 291 * f) else σ c j
theorem shl_0 {σ : Mem} {a lo : Int} : shl σ a lo lo = σ := by funext c j; simp only [shl]; rw [if_neg (by omega)]
theorem shr_0 {σ : Mem} {a lo : Int} : shr σ a lo lo = σ := by funext c j; simp only [shr]; rw [if_neg (by omega)]
theorem rvs_0 {σ : Mem} {a n : Int} : rvs σ a n 0 = σ := by funext c j; simp only [rvs]; rw [if_neg (by omega)]
theorem sgc_0 {σ : Mem} {f t : Int} : sgc σ f t 0 = σ := by funext c j; simp only [sgc]; rw [if_neg (by omega)]
theorem shl_at {σ : Mem} {a lo hi j : Int} (h : j < a + lo ∨ a + hi ≤ j) : shl σ a lo hi 134 j = σ 134 j := by simp only [shl]; rw [if_neg (by omega)]
theorem shr_at {σ : Mem} {a lo hi j : Int} (h : j ≤ a + lo ∨ a + hi < j) : shr σ a lo hi 134 j = σ 134 j := by simp only [shr]; rw [if_neg (by omega)]
theorem rvs_at {σ : Mem} {a n i j : Int} (h : (j < a ∨ a + i ≤ j) ∧ (j ≤ a + n - 1 - i ∨ a + n - 1 < j)) : rvs σ a n i 134 j = σ 134 j := by simp only [rvs]; rw [if_neg (by omega)]
theorem sgc_at {σ : Mem} {f t i j : Int} (h : j < 291 * t ∨ 291 * t + i ≤ j) : sgc σ f t i 134 j = σ 134 j := by simp only [sgc]; rw [if_neg (by omega)]
theorem m_ext {σ τ : Mem} (h : ∀ c j, σ c j = τ c j) : σ = τ := funext fun c => funext fun j => h c j
theorem m_at {σ : Mem} {c : Nat} {i j : Int} (h : i = j) : σ c i = σ c j := by rw [h]
theorem shl_s {σ : Mem} {a lo i : Int} (h : lo ≤ i) : up (shl σ a lo i) 134 (a + i) (σ 134 (a + (i + 1))) = shl σ a lo (i + 1) := by
  apply m_ext; intro c j
  rw [up_ap]
  simp only [shl]
  by_cases h1 : c = 134 ∧ j = a + i
  · rw [if_pos h1, if_pos (by omega)]; exact m_at (by omega)
  · rw [if_neg h1]
    by_cases h2 : c = 134 ∧ a + lo ≤ j ∧ j < a + i
    · rw [if_pos h2, if_pos (by omega)]
    · rw [if_neg h2, if_neg (by omega)]
theorem shr_s {σ : Mem} {a i hi : Int} (h : i ≤ hi) : up (shr σ a i hi) 134 (a + i) (σ 134 (a + (i - 1))) = shr σ a (i - 1) hi := by
  apply m_ext; intro c j
  rw [up_ap]
  simp only [shr]
  by_cases h1 : c = 134 ∧ j = a + i
  · rw [if_pos h1, if_pos (by omega)]; exact m_at (by omega)
  · rw [if_neg h1]
    by_cases h2 : c = 134 ∧ a + i < j ∧ j ≤ a + hi
    · rw [if_pos h2, if_pos (by omega)]
    · rw [if_neg h2, if_neg (by omega)]
theorem rvs_s {σ : Mem} {a n i : Int} (h0 : 0 ≤ i) (h : i < n - 1 - i) : up (up (rvs σ a n i) 134 (a + i) (σ 134 (a + n - 1 - i))) 134 (a + n - 1 - i) (σ 134 (a + i)) = rvs σ a n (i + 1) := by
  apply m_ext; intro c j
  rw [up_ap, up_ap]
  simp only [rvs]
  by_cases h1 : c = 134 ∧ j = a + n - 1 - i
  · rw [if_pos h1, if_pos (by omega)]; exact m_at (by omega)
  · rw [if_neg h1]
    by_cases h2 : c = 134 ∧ j = a + i
    · rw [if_pos h2, if_pos (by omega)]; exact m_at (by omega)
    · rw [if_neg h2]
      by_cases h3 : c = 134 ∧ ((a ≤ j ∧ j < a + i) ∨ (a + n - 1 - i < j ∧ j ≤ a + n - 1))
      · rw [if_pos h3, if_pos (by omega)]
      · rw [if_neg h3, if_neg (by omega)]
theorem sgc_s {σ : Mem} {f t i : Int} (h0 : 0 ≤ i) : up (sgc σ f t i) 134 (291 * t + i) (σ 134 (291 * f + i)) = sgc σ f t (i + 1) := by
  apply m_ext; intro c j
  rw [up_ap]
  simp only [sgc]
  by_cases h1 : c = 134 ∧ j = 291 * t + i
  · rw [if_pos h1, if_pos (by omega)]; exact m_at (by omega)
  · rw [if_neg h1]
    by_cases h2 : c = 134 ∧ 291 * t ≤ j ∧ j < 291 * t + i
    · rw [if_pos h2, if_pos (by omega)]
    · rw [if_neg h2, if_neg (by omega)]
def mtak (σ : Mem) (b k y : Int) : Mem := shl (up σ 134 (b + 264 + k) (mL σ b k - 1)) (b + 200 + 16 * k) (plc σ b k y) (mL σ b k - 1)
theorem mtak_o {σ : Mem} {b k y j : Int} (h0 : 0 ≤ k ∧ k < 4) (hL : 0 ≤ mL σ b k ∧ mL σ b k ≤ 16) (h1 : j ≠ b + 264 + k) (h2 : j < b + 199 + 16 * k ∨ b + 215 + 16 * k ≤ j) : mtak σ b k y 134 j = σ 134 j := by
  have := plc_rg (y := y) hL.1
  unfold mtak
  rw [shl_at (by omega), up_ap, if_neg (by omega)]
def lofF (σ : Mem) (b k j v : Int) : Int := if mS σ b k (15 - j) = 0 then 15 - j else v
def lof (σ : Mem) (b k : Int) : Int := it (lofF σ b k) (-1) 16
theorem lof_rg {σ : Mem} {b k : Int} : -1 ≤ lof σ b k ∧ lof σ b k < 16 := by
  refine it_inv (f := lofF σ b k) (a := -1) (n := 16) (fun _ v => -1 ≤ v ∧ v < 16) ⟨by decide, by decide⟩ (fun j v h0 h1 h => ?_) (by decide) (by decide)
  unfold lofF; split <;> omega
def torF (σ : Mem) (b k j v : Int) : Int := if mrp σ b k (mP σ b k (mL σ b k - 1 - j)) then mP σ b k (mL σ b k - 1 - j) else v
def tor (σ : Mem) (b k : Int) : Int := it (torF σ b k) (-1) (mL σ b k)
theorem tor_rg {σ : Mem} {b N k : Int} (hG : SG σ b N) (hk : 0 ≤ k ∧ k < 4) : -1 ≤ tor σ b k ∧ tor σ b k < 16 := by
  have hL := (hG.kd hk).2
  refine it_inv (f := torF σ b k) (a := -1) (n := mL σ b k) (fun _ v => -1 ≤ v ∧ v < 16) ⟨by decide, by decide⟩ (fun j v h0 h1 h => ?_) hL.1 (Int.le_refl _)
  have := hG.pl hk (p := mL σ b k - 1 - j) (by omega) (by omega)
  unfold torF; split <;> omega
def mdrF (σ : Mem) (b k j : Int) (v : Int × Int) : Int × Int := if mcg σ b k j ∧ (v.1 < 0 ∨ (if mRu σ b = 2 then 0 else mR σ b k j) < v.2) then (j, if mRu σ b = 2 then 0 else mR σ b k j) else v
def mdr (σ : Mem) (b k : Int) : Int := if mRu σ b = 0 then (if 0 ≤ lof σ b k then lof σ b k else tor σ b k) else if mRu σ b = 1 then (if 0 ≤ tor σ b k then tor σ b k else lof σ b k) else (it (mdrF σ b k) (-1, 0) 16).1
theorem mdr_rg {σ : Mem} {b N k : Int} (hG : SG σ b N) (hk : 0 ≤ k ∧ k < 4) : -1 ≤ mdr σ b k ∧ mdr σ b k < 16 := by
  have h1 := lof_rg (σ := σ) (b := b) (k := k)
  have h2 := tor_rg hG hk
  have h3 : -1 ≤ (it (mdrF σ b k) (-1, 0) 16).1 ∧ (it (mdrF σ b k) (-1, 0) 16).1 < 16 := by
    refine it_inv (f := mdrF σ b k) (a := (-1, 0)) (n := 16) (fun _ v => -1 ≤ v.1 ∧ v.1 < 16) ⟨by decide, by decide⟩ (fun j v h0 h1 h => ?_) (by decide) (by decide)
    unfold mdrF
    by_cases hc : mcg σ b k j ∧ (v.1 < 0 ∨ (if mRu σ b = 2 then 0 else mR σ b k j) < v.2)
    · rw [if_pos hc]; exact ⟨by show -1 ≤ j; omega, h1⟩
    · rw [if_neg hc]; exact h
  unfold mdr
  (repeat' split) <;> omega
def mgv0 (σ : Mem) (b k y : Int) : Mem := if mS σ b k y = 2 then mtak σ b k y else σ
theorem mgv0_o {σ : Mem} {b k y j : Int} (h0 : 0 ≤ k ∧ k < 4) (hL : 0 ≤ mL σ b k ∧ mL σ b k ≤ 16) (h1 : j ≠ b + 264 + k) (h2 : j < b + 199 + 16 * k ∨ b + 215 + 16 * k ≤ j) : mgv0 σ b k y 134 j = σ 134 j := by
  unfold mgv0; split
  · exact mtak_o h0 hL h1 h2
  · rfl
def mgiv (σ : Mem) (b k y : Int) : Mem := up (up (up (mgv0 σ b k y) 134 (b + 8 + 3 * (16 * k + y)) 1) 134 (b + 8 + 3 * (16 * k + y) + 1) (mR σ b k y + 1)) 134 (b + 268 + k) (wr (σ 134 (b + 268 + k) + 1))
def mwo (σ : Mem) (k q : Int) : Mem := up (up σ 134 (276 + k) (wr (σ 134 (276 + k) + 1))) 134 (280 + k) (wr (σ 134 (280 + k) + bz (q = 2 ∨ q = 5)))
theorem z264 {σ : Mem} {k : Int} : σ 134 (264 + k) = mL σ 0 k := by unfold mL; exact m_at (by omega)
def rsn (σ : Mem) (k : Int) : Int := if mL σ 0 k = 0 then 1 else 2
def mas (σ : Mem) (k : Int) : Int := if mdr σ 0 k < 0 then 100 + rsn σ k else mdr σ 0 k
def masM (σ : Mem) (k : Int) : Mem := if mdr σ 0 k < 0 then mwo σ k (rsn σ k) else mgiv σ 0 k (mdr σ 0 k)
def mwq (σ : Mem) (k y : Int) : Int := if mS σ 0 k y = 1 then 3 else if mS σ 0 k y = 3 then 4 else 5
def mwa (σ : Mem) (k y : Int) : Int := if mcg σ 0 k y then mR σ 0 k y + 1 else 100 + mwq σ k y
def mwaM (σ : Mem) (k y : Int) : Mem := if mcg σ 0 k y then mgiv σ 0 k y else mwo σ k (mwq σ k y)
def mdl0 (σ : Mem) (k : Int) : Mem := up σ 134 (272 + k) (wr (σ 134 (272 + k) + 1))
def mdl1 (σ : Mem) (k y : Int) : Mem := up (up (mdl0 σ k) 134 (0 + 8 + 3 * (16 * k + y)) 2) 134 (0 + 8 + 3 * (16 * k + y) + 2) (mD σ 0)
def mdl (σ : Mem) (k y : Int) : Mem := if mX σ 0 1 ≤ mR σ 0 k y then up (mdl0 σ k) 134 (0 + 8 + 3 * (16 * k + y)) 3 else up (up (shr (mdl1 σ k y) (200 + 16 * k) 0 (mL σ 0 k)) 134 (200 + 16 * k) y) 134 (264 + k) (mL σ 0 k + 1)
abbrev mcb (σ : Mem) (k y : Int) : Prop := mS σ 0 k y = 2 ∧ mD σ 0 - mT σ 0 k y ≤ mX σ 0 2
def mbk (σ : Mem) (k y : Int) : Mem := up (up (mtak σ 0 k y) 134 (0 + 8 + 3 * (16 * k + y)) 1) 134 (284 + k) (wr (σ 134 (284 + k) + 1))
def mtu (σ : Mem) (k : Int) : Mem := rvs σ (200 + 16 * k) (mL σ 0 k) (mL σ 0 k / 2)
def mtuR (σ : Mem) (k : Int) : Int := if mL σ 0 k = 0 then -1 else mP (mtu σ k) 0 k 0
def mrf (σ : Mem) (k y q : Int) : Int := if mS σ 0 k y ≠ 1 ∨ mR σ 0 k y < q then 1 else if mR σ 0 k y = q then 0 else 2
abbrev kinP (σ : Mem) (kd w i : Int) : Prop := (if w = 4 then mrp σ 0 (i / 16) (i % 16) else mS σ 0 (i / 16) (i % 16) = w) ∧ (kd < 0 ∨ i / 16 = kd)
def kin (σ : Mem) (kd w : Int) : Int := cn (kinP σ kd w) 64
theorem kin_rg {σ : Mem} {kd w : Int} : 0 ≤ kin σ kd w ∧ kin σ kd w ≤ 64 := cn_rg (by omega)
set_option maxRecDepth 100000 in
set_option maxHeartbeats 4000000 in
theorem k_X6_thrown (l : Launch) {σ : Mem}  : CtI l yX6_thrown (Cond.code yX6_thrown cX6_thrown 1 (some .int)) 0 0 (fun z => [.ref (z + 133)]) σ (σ 133 3) σ := by
  intro D T z
  refine Ct_of (by decide) (Nat.le_of_ble_eq_true rfl) ?_
  intro p e s m below meth c ls hx hb hml hr hts hown hlk G hl
  have hown : s.vm.findClass RX6 = some m.cls := hown
  have hl : lv_has ls 1 [(0, .ref (z + 133))] := hl
  refine lv_aload_n hx hb dX6_thrown_0 rfl (lv_at hl 0 rfl) ?_
  refine gf_X6_21 hx hb hts hown G dX6_thrown_1 ?_
  exact r_iret hx hb hr hlk G (by first | rfl | omega) (by rfl) dX6_thrown_4
set_option maxRecDepth 100000 in
set_option maxHeartbeats 4000000 in
theorem k_X6_in (l : Launch) {σ : Mem} {v lo hi : Int} (h1 : inR v) (h2 : inR lo) (h3 : inR hi) : CtI l yX6_in (Cond.code yX6_in cX6_in 3 (some .boolean)) 0 0 (fun z => [.int (kI v), .int (kI lo), .int (kI hi)]) σ (bz (lo ≤ v ∧ v ≤ hi)) σ := by
  intro D T z
  refine Ct_of (by decide) (Nat.le_of_ble_eq_true rfl) ?_
  intro p e s m below meth c ls hx hb hml hr hts hown hlk G hl
  have hown : s.vm.findClass RX6 = some m.cls := hown
  have hl : lv_has ls 3 [(0, .int (kI v)), (1, .int (kI lo)), (2, .int (kI hi))] := hl
  refine lv_iload_n hx hb dX6_in_0 rfl (lv_at hl 0 rfl) ?_
  refine lv_iload_n hx hb dX6_in_1 rfl (lv_at hl 1 rfl) ?_
  refine r_icmp_lt (tgt := 14) hx hb ⟨by omega, by omega⟩ ⟨by omega, by omega⟩ dX6_in_2 (by decide) (fun h_1 => ?_) (fun h_1 => ?_)
  · skip
    refine r_iconst hx hb dX6_in_14 ?_
    exact r_zret hx hb hr hlk G (Or.inl rfl) (by first | exact one_bz (by omega) | exact zero_bz (by omega)) (by rfl) dX6_in_15
  · skip
    refine lv_iload_n hx hb dX6_in_5 rfl (lv_at hl 0 rfl) ?_
    refine lv_iload_n hx hb dX6_in_6 rfl (lv_at hl 2 rfl) ?_
    refine r_icmp_gt (tgt := 14) hx hb ⟨by omega, by omega⟩ ⟨by omega, by omega⟩ dX6_in_7 (by decide) (fun h_2 => ?_) (fun h_2 => ?_)
    · skip
      refine r_iconst hx hb dX6_in_14 ?_
      exact r_zret hx hb hr hlk G (Or.inl rfl) (by first | exact one_bz (by omega) | exact zero_bz (by omega)) (by rfl) dX6_in_15
    · skip
      refine r_iconst hx hb dX6_in_10 ?_
      refine lv_goto (tgt := 15) hx hb dX6_in_11 (by decide) ?_
      exact r_zret hx hb hr hlk G (Or.inr rfl) (by first | exact one_bz (by omega) | exact zero_bz (by omega)) (by rfl) dX6_in_15
set_option maxRecDepth 100000 in
set_option maxHeartbeats 4000000 in
theorem k_X6_goes (l : Launch) {σ : Mem} {P Q : Prop} [Decidable P] [Decidable Q]  : CtI l yX6_goes (Cond.code yX6_goes cX6_goes 3 (some .boolean)) 0 0 (fun z => [.ref (z + 133), .int (kI (bz P)), .int (kI (bz Q))]) σ (bz (P ∧ Q)) (up σ 133 3 (if P then (if Q then 0 else 2) else 1)) := by
  intro D T z
  refine Ct_of (by decide) (Nat.le_of_ble_eq_true rfl) ?_
  intro p e s m below meth c ls hx hb hml hr hts hown hlk G hl
  have hown : s.vm.findClass RX6 = some m.cls := hown
  have hl : lv_has ls 3 [(0, .ref (z + 133)), (1, .int (kI (bz P))), (2, .int (kI (bz Q)))] := hl
  refine lv_aload_n hx hb dX6_goes_0 rfl (lv_at hl 0 rfl) ?_
  refine lv_iload_n hx hb dX6_goes_1 rfl (lv_at hl 1 rfl) ?_
  refine r_zne (tgt := 9) hx hb dX6_goes_2 (by decide) (fun h_1 => ?_) (fun h_1 => ?_)
  · skip
    have hP := h_1
    refine lv_iload_n hx hb dX6_goes_9 rfl (lv_at hl 2 rfl) ?_
    refine r_zne (tgt := 17) hx hb dX6_goes_10 (by decide) (fun h_2 => ?_) (fun h_2 => ?_)
    · skip
      have hQ := h_2
      refine r_iconst hx hb dX6_goes_17 ?_
      refine pf_X6_21 hx hb hts hown G dX6_goes_18 (fun H locs G => ?_)
      refine lv_aload_n hx hb dX6_goes_21 rfl (lv_at hl 0 rfl) ?_
      refine gf_X6_21 hx hb hts hown G dX6_goes_22 ?_
      refine r_top (b := 0) (by simp [up_ap]) ?_
      refine r_if_ne (tgt := 32) hx hb ⟨by decide, by decide⟩ dX6_goes_25 (by decide) (fun h_3 => absurd h_3 (by decide)) (fun _ => ?_)
      refine r_iconst hx hb dX6_goes_28 ?_
      refine lv_goto (tgt := 33) hx hb dX6_goes_29 (by decide) ?_
      exact r_zret hx hb hr hlk G (Or.inr rfl) (by first | exact one_bz ⟨hP, hQ⟩ | exact zero_bz (fun h => hP h.1) | exact zero_bz (fun h => hQ h.2)) (by first | rw [if_neg hP] | rw [if_pos hP, if_pos hQ] | rw [if_pos hP, if_neg hQ]) dX6_goes_33
    · skip
      have hQ := h_2
      refine r_iconst hx hb dX6_goes_13 ?_
      refine lv_goto (tgt := 18) hx hb dX6_goes_14 (by decide) ?_
      refine pf_X6_21 hx hb hts hown G dX6_goes_18 (fun H locs G => ?_)
      refine lv_aload_n hx hb dX6_goes_21 rfl (lv_at hl 0 rfl) ?_
      refine gf_X6_21 hx hb hts hown G dX6_goes_22 ?_
      refine r_top (b := 2) (by simp [up_ap]) ?_
      refine r_if_ne (tgt := 32) hx hb ⟨by decide, by decide⟩ dX6_goes_25 (by decide) (fun _ => ?_) (fun h_4 => absurd h_4 (by decide))
      refine r_iconst hx hb dX6_goes_32 ?_
      exact r_zret hx hb hr hlk G (Or.inl rfl) (by first | exact one_bz ⟨hP, hQ⟩ | exact zero_bz (fun h => hP h.1) | exact zero_bz (fun h => hQ h.2)) (by first | rw [if_neg hP] | rw [if_pos hP, if_pos hQ] | rw [if_pos hP, if_neg hQ]) dX6_goes_33
  · skip
    have hP := h_1
    refine r_iconst hx hb dX6_goes_5 ?_
    refine lv_goto (tgt := 18) hx hb dX6_goes_6 (by decide) ?_
    refine pf_X6_21 hx hb hts hown G dX6_goes_18 (fun H locs G => ?_)
    refine lv_aload_n hx hb dX6_goes_21 rfl (lv_at hl 0 rfl) ?_
    refine gf_X6_21 hx hb hts hown G dX6_goes_22 ?_
    refine r_top (b := 1) (by simp [up_ap]) ?_
    refine r_if_ne (tgt := 32) hx hb ⟨by decide, by decide⟩ dX6_goes_25 (by decide) (fun _ => ?_) (fun h_5 => absurd h_5 (by decide))
    refine r_iconst hx hb dX6_goes_32 ?_
    exact r_zret hx hb hr hlk G (Or.inl rfl) (by first | exact one_bz ⟨hP, hQ⟩ | exact zero_bz (fun h => hP h.1) | exact zero_bz (fun h => hQ h.2)) (by first | rw [if_neg hP] | rw [if_pos hP, if_pos hQ] | rw [if_pos hP, if_neg hQ]) dX6_goes_33
set_option maxRecDepth 100000 in
set_option maxHeartbeats 4000000 in
theorem k_X6_isKind (l : Launch) {σ : Mem} {v : Int} (h1 : inR v) : CtI l yX6_isKind (Cond.code yX6_isKind cX6_isKind 1 (some .boolean)) 1 22 (fun z => [.int (kI v)]) σ (bz (0 ≤ v ∧ v ≤ 3)) σ := by
  intro D T z
  refine Ct_of (by decide) (Nat.le_of_ble_eq_true rfl) ?_
  intro p e s m below meth c ls hx hb hml hr hts hown hlk G hl
  have hown : s.vm.findClass RX6 = some m.cls := hown
  have hl : lv_has ls 1 [(0, .int (kI v))] := hl
  refine lv_iload_n hx hb dX6_isKind_0 rfl (lv_at hl 0 rfl) ?_
  refine r_iconst hx hb dX6_isKind_1 ?_
  refine r_iconst hx hb dX6_isKind_2 ?_
  refine r_callSI ⟨hx, hb, hml, hown, hts⟩ G (k_X6_in l (v := v) (lo := 0) (hi := 3) (σ := σ) (⟨by omega, by omega⟩) (⟨by omega, by omega⟩) (⟨by omega, by omega⟩)) (kS_X6_in hts qM_X6_32 ⟨by decide, by decide⟩) rfl rfl hl.1 rfl (Nat.le_of_ble_eq_true rfl) dX6_isKind_3 ⟨Nat.le_refl _, Nat.le_refl _⟩ (fun H locs G => ?_)
  exact r_zret hx hb hr hlk G (bz_01) (by first | rfl | omega) (by rfl) dX6_isKind_6
set_option maxRecDepth 100000 in
set_option maxHeartbeats 4000000 in
theorem k_X6_isKey (l : Launch) {σ : Mem} {k y : Int} (h1 : inR k) (h2 : inR y) : CtI l yX6_isKey (Cond.code yX6_isKey cX6_isKey 2 (some .boolean)) 2 42 (fun z => [.int (kI k), .int (kI y)]) σ (bz ((0 ≤ k ∧ k ≤ 3) ∧ 0 ≤ y ∧ y ≤ 15)) σ := by
  intro D T z
  refine Ct_of (by decide) (Nat.le_of_ble_eq_true rfl) ?_
  intro p e s m below meth c ls hx hb hml hr hts hown hlk G hl
  have hown : s.vm.findClass RX6 = some m.cls := hown
  have hl : lv_has ls 2 [(0, .int (kI k)), (1, .int (kI y))] := hl
  refine lv_iload_n hx hb dX6_isKey_0 rfl (lv_at hl 0 rfl) ?_
  refine r_callSI ⟨hx, hb, hml, hown, hts⟩ G (k_X6_isKind l (v := k) (σ := σ) (⟨by omega, by omega⟩)) (kS_X6_isKind hts qM_X6_36 ⟨by decide, by decide⟩) rfl rfl hl.1 rfl (Nat.le_of_ble_eq_true rfl) dX6_isKey_1 ⟨Nat.le_refl _, Nat.le_refl _⟩ (fun H locs G => ?_)
  refine r_zeq (tgt := 21) hx hb dX6_isKey_4 (by decide) (fun h_1 => ?_) (fun h_1 => ?_)
  · skip
    refine r_iconst hx hb dX6_isKey_21 ?_
    exact r_zret hx hb hr hlk G (Or.inl rfl) (by first | exact one_bz (by omega) | exact zero_bz (by omega)) (by rfl) dX6_isKey_22
  · skip
    refine lv_iload_n hx hb dX6_isKey_7 rfl (lv_at hl 1 rfl) ?_
    refine r_iconst hx hb dX6_isKey_8 ?_
    refine r_bipush hx hb dX6_isKey_9 (by decide +kernel) ?_
    refine r_callSI ⟨hx, hb, hml, hown, hts⟩ G (k_X6_in l (v := y) (lo := 0) (hi := 15) (σ := σ) (⟨by omega, by omega⟩) (⟨by omega, by omega⟩) (⟨by omega, by omega⟩)) (kS_X6_in hts qM_X6_32 ⟨by decide, by decide⟩) rfl rfl hl.1 rfl (Nat.le_of_ble_eq_true rfl) dX6_isKey_11 ⟨Nat.le_refl _, Nat.le_refl _⟩ (fun H locs G => ?_)
    refine r_zeq (tgt := 21) hx hb dX6_isKey_14 (by decide) (fun h_2 => ?_) (fun h_2 => ?_)
    · skip
      refine r_iconst hx hb dX6_isKey_21 ?_
      exact r_zret hx hb hr hlk G (Or.inl rfl) (by first | exact one_bz (by omega) | exact zero_bz (by omega)) (by rfl) dX6_isKey_22
    · skip
      refine r_iconst hx hb dX6_isKey_17 ?_
      refine lv_goto (tgt := 22) hx hb dX6_isKey_18 (by decide) ?_
      exact r_zret hx hb hr hlk G (Or.inr rfl) (by first | exact one_bz (by omega) | exact zero_bz (by omega)) (by rfl) dX6_isKey_22
set_option maxRecDepth 100000 in
set_option maxHeartbeats 4000000 in
theorem k_X6_keyAt (l : Launch) {σ : Mem} {b k y : Int}  : CtI l yX6_keyAt (Cond.code yX6_keyAt cX6_keyAt 3 (some .int)) 0 0 (fun z => [.int (kI b), .int (kI k), .int (kI y)]) σ (b + 8 + 3 * (16 * k + y)) σ := by
  intro D T z
  refine Ct_of (by decide) (Nat.le_of_ble_eq_true rfl) ?_
  intro p e s m below meth c ls hx hb hml hr hts hown hlk G hl
  have hown : s.vm.findClass RX6 = some m.cls := hown
  have hl : lv_has ls 3 [(0, .int (kI b)), (1, .int (kI k)), (2, .int (kI y))] := hl
  refine lv_iload_n hx hb dX6_keyAt_0 rfl (lv_at hl 0 rfl) ?_
  refine r_bipush hx hb dX6_keyAt_1 (by decide +kernel) ?_
  refine r_iadd hx hb dX6_keyAt_3 ?_
  refine r_iconst hx hb dX6_keyAt_4 ?_
  refine r_bipush hx hb dX6_keyAt_5 (by decide +kernel) ?_
  refine lv_iload_n hx hb dX6_keyAt_7 rfl (lv_at hl 1 rfl) ?_
  refine r_imul hx hb dX6_keyAt_8 ?_
  refine lv_iload_n hx hb dX6_keyAt_9 rfl (lv_at hl 2 rfl) ?_
  refine r_iadd hx hb dX6_keyAt_10 ?_
  refine r_imul hx hb dX6_keyAt_11 ?_
  refine r_iadd hx hb dX6_keyAt_12 ?_
  exact r_iret hx hb hr hlk G (by first | rfl | omega) (by rfl) dX6_keyAt_13
set_option maxRecDepth 100000 in
set_option maxHeartbeats 4000000 in
theorem k_X6_pileAt (l : Launch) {σ : Mem} {b k q : Int} (hk : 0 ≤ k ∧ k < 4) (hp : -1 ≤ q ∧ q < 16) (hb2 : 0 ≤ b ∧ b ≤ 2619) : CtI l yX6_pileAt (Cond.code yX6_pileAt cX6_pileAt 4 (some .int)) 0 0 (fun z => [.ref (z + 133), .int (kI b), .int (kI k), .int (kI q)]) σ (mP σ b k q) σ := by
  intro D T z
  refine Ct_of (by decide) (Nat.le_of_ble_eq_true rfl) ?_
  intro p e s m below meth c ls hx hb hml hr hts hown hlk G hl
  have hown : s.vm.findClass RX6 = some m.cls := hown
  have hl : lv_has ls 4 [(0, .ref (z + 133)), (1, .int (kI b)), (2, .int (kI k)), (3, .int (kI q))] := hl
  refine lv_aload_n hx hb dX6_pileAt_0 rfl (lv_at hl 0 rfl) ?_
  refine gf_X6_7 hx hb hts hown G dX6_pileAt_1 ?_
  refine lv_iload_n hx hb dX6_pileAt_4 rfl (lv_at hl 1 rfl) ?_
  refine r_sipush hx hb dX6_pileAt_5 (by decide +kernel) ?_
  refine r_iadd hx hb dX6_pileAt_8 ?_
  refine r_bipush hx hb dX6_pileAt_9 (by decide +kernel) ?_
  refine lv_iload_n hx hb dX6_pileAt_11 rfl (lv_at hl 2 rfl) ?_
  refine r_imul hx hb dX6_pileAt_12 ?_
  refine r_iadd hx hb dX6_pileAt_13 ?_
  refine lv_iload_n hx hb dX6_pileAt_14 rfl (lv_at hl 3 rfl) ?_
  refine r_iadd hx hb dX6_pileAt_15 ?_
  refine r_iald hx hb G 134 (by decide) (N := 2910) (fun _ => rfl) (by omega) (by omega) (by decide) dX6_pileAt_16 ?_
  exact r_iret hx hb hr hlk G (by rfl) (by rfl) dX6_pileAt_17
set_option maxRecDepth 100000 in
set_option maxHeartbeats 4000000 in
theorem k_X6_age (l : Launch) {σ : Mem} {b k y : Int} (hk : 0 ≤ k ∧ k < 4) (hy : 0 ≤ y ∧ y < 16) (hb2 : 0 ≤ b ∧ b ≤ 2619) : CtI l yX6_age (Cond.code yX6_age cX6_age 4 (some .int)) 1 22 (fun z => [.ref (z + 133), .int (kI b), .int (kI k), .int (kI y)]) σ (mD σ b - mT σ b k y) σ := by
  intro D T z
  refine Ct_of (by decide) (Nat.le_of_ble_eq_true rfl) ?_
  intro p e s m below meth c ls hx hb hml hr hts hown hlk G hl
  have hown : s.vm.findClass RX6 = some m.cls := hown
  have hl : lv_has ls 4 [(0, .ref (z + 133)), (1, .int (kI b)), (2, .int (kI k)), (3, .int (kI y))] := hl
  refine lv_aload_n hx hb dX6_age_0 rfl (lv_at hl 0 rfl) ?_
  refine gf_X6_7 hx hb hts hown G dX6_age_1 ?_
  refine lv_iload_n hx hb dX6_age_4 rfl (lv_at hl 1 rfl) ?_
  refine r_iconst hx hb dX6_age_5 ?_
  refine r_iadd hx hb dX6_age_6 ?_
  refine r_iald hx hb G 134 (by decide) (N := 2910) (fun _ => rfl) (by omega) (by omega) (by decide) dX6_age_7 ?_
  refine lv_aload_n hx hb dX6_age_8 rfl (lv_at hl 0 rfl) ?_
  refine gf_X6_7 hx hb hts hown G dX6_age_9 ?_
  refine lv_iload_n hx hb dX6_age_12 rfl (lv_at hl 1 rfl) ?_
  refine lv_iload_n hx hb dX6_age_13 rfl (lv_at hl 2 rfl) ?_
  refine lv_iload_n hx hb dX6_age_14 rfl (lv_at hl 3 rfl) ?_
  refine r_callSI ⟨hx, hb, hml, hown, hts⟩ G (k_X6_keyAt l (b := b) (k := k) (y := y) (σ := σ) ) (kS_X6_keyAt hts qM_X6_40 ⟨by decide, by decide⟩) rfl rfl hl.1 rfl (Nat.le_of_ble_eq_true rfl) dX6_age_15 ⟨Nat.le_refl _, Nat.le_refl _⟩ (fun H locs G => ?_)
  refine r_iconst hx hb dX6_age_18 ?_
  refine r_iadd hx hb dX6_age_19 ?_
  refine r_iald hx hb G 134 (by decide) (N := 2910) (fun _ => rfl) (by omega) (by omega) (by decide) dX6_age_20 ?_
  refine r_isub hx hb dX6_age_21 ?_
  exact r_iret hx hb hr hlk G (by rfl) (by rfl) dX6_age_22
set_option maxRecDepth 100000 in
set_option maxHeartbeats 4000000 in
theorem k_X6_isRipe (l : Launch) {σ : Mem} {b N k y : Int} (hk : 0 ≤ k ∧ k < 4) (hy : 0 ≤ y ∧ y < 16) (hG : SG σ b N) : CtI l yX6_isRipe (Cond.code yX6_isRipe cX6_isRipe 4 (some .boolean)) 2 45 (fun z => [.ref (z + 133), .int (kI b), .int (kI k), .int (kI y)]) σ (bz (mrp σ b k y)) σ := by
  intro D T z
  refine Ct_of (by decide) (Nat.le_of_ble_eq_true rfl) ?_
  intro p e s m below meth c ls hx hb hml hr hts hown hlk G hl
  have hown : s.vm.findClass RX6 = some m.cls := hown
  have hl : lv_has ls 4 [(0, .ref (z + 133)), (1, .int (kI b)), (2, .int (kI k)), (3, .int (kI y))] := hl
  have hb0 := hG.1
  have hkd := hG.kd hk
  have hky := hG.ky hk hy
  have hdd := hG.d
  refine lv_aload_n hx hb dX6_isRipe_0 rfl (lv_at hl 0 rfl) ?_
  refine gf_X6_7 hx hb hts hown G dX6_isRipe_1 ?_
  refine lv_iload_n hx hb dX6_isRipe_4 rfl (lv_at hl 1 rfl) ?_
  refine lv_iload_n hx hb dX6_isRipe_5 rfl (lv_at hl 2 rfl) ?_
  refine lv_iload_n hx hb dX6_isRipe_6 rfl (lv_at hl 3 rfl) ?_
  refine r_callSI ⟨hx, hb, hml, hown, hts⟩ G (k_X6_keyAt l (b := b) (k := k) (y := y) (σ := σ) ) (kS_X6_keyAt hts qM_X6_40 ⟨by decide, by decide⟩) rfl rfl hl.1 rfl (Nat.le_of_ble_eq_true rfl) dX6_isRipe_7 ⟨Nat.le_refl _, Nat.le_refl _⟩ (fun H locs G => ?_)
  refine r_iald hx hb G 134 (by decide) (N := 2910) (fun _ => rfl) (by omega) (by omega) (by decide) dX6_isRipe_10 ?_
  refine r_top (b := mS σ b k y) (rfl) ?_
  refine r_iconst hx hb dX6_isRipe_11 ?_
  refine r_icmp_ne (tgt := 39) hx hb ⟨by omega, by omega⟩ ⟨by decide, by decide⟩ dX6_isRipe_12 (by decide) (fun h_1 => ?_) (fun h_1 => ?_)
  · skip
    refine r_iconst hx hb dX6_isRipe_39 ?_
    exact r_zret hx hb hr hlk G (Or.inl rfl) (by first | exact one_bz (by omega) | exact zero_bz (by omega)) (by rfl) dX6_isRipe_40
  · skip
    refine lv_aload_n hx hb dX6_isRipe_15 rfl (lv_at hl 0 rfl) ?_
    refine lv_iload_n hx hb dX6_isRipe_16 rfl (lv_at hl 1 rfl) ?_
    refine lv_iload_n hx hb dX6_isRipe_17 rfl (lv_at hl 2 rfl) ?_
    refine lv_iload_n hx hb dX6_isRipe_18 rfl (lv_at hl 3 rfl) ?_
    refine r_callVI ⟨hx, hb, hml, hown, hts⟩ G (k_X6_age l (b := b) (k := k) (y := y) (σ := σ) (hk) (hy) (by omega)) (kV_X6_age hts qM_X6_44 ⟨by decide, by decide⟩) (rc_X6 G) rfl rfl hl.1 rfl (Nat.le_of_ble_eq_true rfl) dX6_isRipe_19 ⟨Nat.le_refl _, Nat.le_refl _⟩ (fun H locs G => ?_)
    refine lv_aload_n hx hb dX6_isRipe_22 rfl (lv_at hl 0 rfl) ?_
    refine gf_X6_7 hx hb hts hown G dX6_isRipe_23 ?_
    refine lv_iload_n hx hb dX6_isRipe_26 rfl (lv_at hl 1 rfl) ?_
    refine r_iconst hx hb dX6_isRipe_27 ?_
    refine r_iadd hx hb dX6_isRipe_28 ?_
    refine lv_iload_n hx hb dX6_isRipe_29 rfl (lv_at hl 2 rfl) ?_
    refine r_iadd hx hb dX6_isRipe_30 ?_
    refine r_iald hx hb G 134 (by decide) (N := 2910) (fun _ => rfl) (by omega) (by omega) (by decide) dX6_isRipe_31 ?_
    refine r_top (b := mSe σ b k) (rfl) ?_
    refine r_icmp_lt (tgt := 39) hx hb ⟨by omega, by omega⟩ ⟨by omega, by omega⟩ dX6_isRipe_32 (by decide) (fun h_2 => ?_) (fun h_2 => ?_)
    · skip
      refine r_iconst hx hb dX6_isRipe_39 ?_
      exact r_zret hx hb hr hlk G (Or.inl rfl) (by first | exact one_bz (by omega) | exact zero_bz (by omega)) (by rfl) dX6_isRipe_40
    · skip
      refine r_iconst hx hb dX6_isRipe_35 ?_
      refine lv_goto (tgt := 40) hx hb dX6_isRipe_36 (by decide) ?_
      exact r_zret hx hb hr hlk G (Or.inr rfl) (by first | exact one_bz (by omega) | exact zero_bz (by omega)) (by rfl) dX6_isRipe_40
set_option maxRecDepth 100000 in
set_option maxHeartbeats 4000000 in
theorem k_X6_canGive (l : Launch) {σ : Mem} {b N k y : Int} (hk : 0 ≤ k ∧ k < 4) (hy : 0 ≤ y ∧ y < 16) (hG : SG σ b N) : CtI l yX6_canGive (Cond.code yX6_canGive cX6_canGive 4 (some .boolean)) 3 68 (fun z => [.ref (z + 133), .int (kI b), .int (kI k), .int (kI y)]) σ (bz (mcg σ b k y)) σ := by
  intro D T z
  refine Ct_of (by decide) (Nat.le_of_ble_eq_true rfl) ?_
  intro p e s m below meth c ls hx hb hml hr hts hown hlk G hl
  have hown : s.vm.findClass RX6 = some m.cls := hown
  have hl : lv_has ls 4 [(0, .ref (z + 133)), (1, .int (kI b)), (2, .int (kI k)), (3, .int (kI y))] := hl
  have hb0 := hG.1
  have hky := hG.ky hk hy
  refine lv_aload_n hx hb dX6_canGive_0 rfl (lv_at hl 0 rfl) ?_
  refine gf_X6_7 hx hb hts hown G dX6_canGive_1 ?_
  refine lv_iload_n hx hb dX6_canGive_4 rfl (lv_at hl 1 rfl) ?_
  refine lv_iload_n hx hb dX6_canGive_5 rfl (lv_at hl 2 rfl) ?_
  refine lv_iload_n hx hb dX6_canGive_6 rfl (lv_at hl 3 rfl) ?_
  refine r_callSI ⟨hx, hb, hml, hown, hts⟩ G (k_X6_keyAt l (b := b) (k := k) (y := y) (σ := σ) ) (kS_X6_keyAt hts qM_X6_40 ⟨by decide, by decide⟩) rfl rfl hl.1 rfl (Nat.le_of_ble_eq_true rfl) dX6_canGive_7 ⟨Nat.le_refl _, Nat.le_refl _⟩ (fun H locs G => ?_)
  refine r_iald hx hb G 134 (by decide) (N := 2910) (fun _ => rfl) (by omega) (by omega) (by decide) dX6_canGive_10 ?_
  refine r_top (b := mS σ b k y) (rfl) ?_
  refine r_if_eq (tgt := 24) hx hb ⟨by omega, by omega⟩ dX6_canGive_11 (by decide) (fun h_1 => ?_) (fun h_1 => ?_)
  · skip
    refine r_iconst hx hb dX6_canGive_24 ?_
    refine lv_goto (tgt := 29) hx hb dX6_canGive_25 (by decide) ?_
    exact r_zret hx hb hr hlk G (Or.inr rfl) (by first | exact one_bz (by omega) | exact zero_bz (by omega)) (by rfl) dX6_canGive_29
  · skip
    refine lv_aload_n hx hb dX6_canGive_14 rfl (lv_at hl 0 rfl) ?_
    refine lv_iload_n hx hb dX6_canGive_15 rfl (lv_at hl 1 rfl) ?_
    refine lv_iload_n hx hb dX6_canGive_16 rfl (lv_at hl 2 rfl) ?_
    refine lv_iload_n hx hb dX6_canGive_17 rfl (lv_at hl 3 rfl) ?_
    refine r_callVI ⟨hx, hb, hml, hown, hts⟩ G (k_X6_isRipe l (b := b) (k := k) (y := y) (σ := σ) (hk) (hy) (hG)) (kV_X6_isRipe hts qM_X6_47 ⟨by decide, by decide⟩) (rc_X6 G) rfl rfl hl.1 rfl (Nat.le_of_ble_eq_true rfl) dX6_canGive_18 ⟨Nat.le_refl _, Nat.le_refl _⟩ (fun H locs G => ?_)
    refine r_zeq (tgt := 28) hx hb dX6_canGive_21 (by decide) (fun h_2 => ?_) (fun h_2 => ?_)
    · skip
      refine r_iconst hx hb dX6_canGive_28 ?_
      exact r_zret hx hb hr hlk G (Or.inl rfl) (by first | exact one_bz (by omega) | exact zero_bz (by omega)) (by rfl) dX6_canGive_29
    · skip
      refine r_iconst hx hb dX6_canGive_24 ?_
      refine lv_goto (tgt := 29) hx hb dX6_canGive_25 (by decide) ?_
      exact r_zret hx hb hr hlk G (Or.inr rfl) (by first | exact one_bz (by omega) | exact zero_bz (by omega)) (by rfl) dX6_canGive_29
set_option maxRecDepth 100000 in
set_option maxHeartbeats 4000000 in
theorem k_X6_placeOf (l : Launch) {σ : Mem} {b N k y : Int} (hk : 0 ≤ k ∧ k < 4) (hy : 0 ≤ y ∧ y < 16) (hG : SG σ b N) : CtI l yX6_placeOf (Cond.code yX6_placeOf cX6_placeOf 6 (some .int)) 1 23 (fun z => [.ref (z + 133), .int (kI b), .int (kI k), .int (kI y)]) σ (plc σ b k y) σ := by
  intro D T z
  refine Ct_of (by decide) (Nat.le_of_ble_eq_true rfl) ?_
  intro p e s m below meth c ls hx hb hml hr hts hown hlk G hl
  have hown : s.vm.findClass RX6 = some m.cls := hown
  have hl : lv_has ls 6 [(0, .ref (z + 133)), (1, .int (kI b)), (2, .int (kI k)), (3, .int (kI y))] := hl
  have hb0 := hG.1
  have hkd := hG.kd hk
  refine r_iconst hx hb dX6_placeOf_0 ?_
  refine lv_istore (lv' := [(4, .int (kI (-1))), (0, .ref (z + 133)), (1, .int (kI b)), (2, .int (kI k)), (3, .int (kI y))]) hx hb dX6_placeOf_1 hl (by decide) rfl (fun ls hl => ?_)
  refine r_iconst hx hb dX6_placeOf_3 ?_
  refine lv_istore (lv' := [(5, .int (kI 0)), (4, .int (kI (-1))), (0, .ref (z + 133)), (1, .int (kI b)), (2, .int (kI k)), (3, .int (kI y))]) hx hb dX6_placeOf_4 hl (by decide) rfl (fun ls hl => ?_)
  have lp6 : ∀ (d : Nat) (v : Int) (i : Int), (0 ≤ i) → (i ≤ mL σ b k) → (v = it (plcF σ b k y) (-1) i) → (mL σ b k - i : Int) < (d : Int) → ∀ (H : Heap) (locs : List Loc), Wd D T z 139 σ s H locs → ∀ (ls : Array Slot), lv_has ls 6 [(0, .ref (z + 133)), (1, .int (kI b)), (2, .int (kI k)), (3, .int (kI y)), (4, .int (kI v)), (5, .int (kI i))] → W p l e (rmN 1 23) s m ([.ref (z + 133), .int (kI b), .int (kI k), .int (kI y)] : List Value).toArray below meth c H locs 0 0 (MQ below (QI D T z 139 (plc σ b k y) σ) ([.ref (z + 133), .int (kI b), .int (kI k), .int (kI y)] : List Value).toArray s 0 0 (Own z)) (F0 m 6 ls []) := by
    intro d
    induction d with
    | zero => intro v i h0 h1 hv hd; exact absurd hd (by omega)
    | succ d ih6 =>
      intro v i h0 h1 hv hd H locs G ls hl
      refine lv_iload hx hb dX6_placeOf_6 (lv_at hl 5 rfl) ?_
      refine lv_aload_n hx hb dX6_placeOf_8 rfl (lv_at hl 0 rfl) ?_
      refine gf_X6_7 hx hb hts hown G dX6_placeOf_9 ?_
      refine lv_iload_n hx hb dX6_placeOf_12 rfl (lv_at hl 1 rfl) ?_
      refine r_sipush hx hb dX6_placeOf_13 (by decide +kernel) ?_
      refine r_iadd hx hb dX6_placeOf_16 ?_
      refine lv_iload_n hx hb dX6_placeOf_17 rfl (lv_at hl 2 rfl) ?_
      refine r_iadd hx hb dX6_placeOf_18 ?_
      refine r_iald hx hb G 134 (by decide) (N := 2910) (fun _ => rfl) (by omega) (by omega) (by decide) dX6_placeOf_19 ?_
      refine r_top (b := mL σ b k) (rfl) ?_
      refine r_icmp_ge (tgt := 50) hx hb ⟨by omega, by omega⟩ ⟨by omega, by omega⟩ dX6_placeOf_20 (by decide) (fun h_1 => ?_) (fun h_1 => ?_)
      · skip
        refine lv_iload hx hb dX6_placeOf_50 (lv_at hl 4 rfl) ?_
        exact r_iret hx hb hr hlk G (by have e : i = mL σ b k := (by omega); rw [hv, e]; rfl) (by rfl) dX6_placeOf_52
      · skip
        refine lv_aload_n hx hb dX6_placeOf_23 rfl (lv_at hl 0 rfl) ?_
        refine lv_iload_n hx hb dX6_placeOf_24 rfl (lv_at hl 1 rfl) ?_
        refine lv_iload_n hx hb dX6_placeOf_25 rfl (lv_at hl 2 rfl) ?_
        refine lv_iload hx hb dX6_placeOf_26 (lv_at hl 5 rfl) ?_
        refine r_callVI ⟨hx, hb, hml, hown, hts⟩ G (k_X6_pileAt l (b := b) (k := k) (q := i) (σ := σ) (hk) (⟨by omega, by omega⟩) (⟨by omega, by omega⟩)) (kV_X6_pileAt hts qM_X6_50 ⟨by decide, by decide⟩) (rc_X6 G) rfl rfl hl.1 rfl (Nat.le_of_ble_eq_true rfl) dX6_placeOf_28 ⟨Nat.le_refl _, Nat.le_refl _⟩ (fun H locs G => ?_)
        have hpl := hG.pl hk (p := i) (by omega) (by omega)
        refine lv_iload_n hx hb dX6_placeOf_31 rfl (lv_at hl 3 rfl) ?_
        refine r_icmp_ne (tgt := 40) hx hb ⟨by omega, by omega⟩ ⟨by omega, by omega⟩ dX6_placeOf_32 (by decide) (fun h_2 => ?_) (fun h_2 => ?_)
        · skip
          refine lv_iload hx hb dX6_placeOf_40 (lv_at hl 4 rfl) ?_
          refine lv_istore (lv' := [(4, .int (kI v)), (0, .ref (z + 133)), (1, .int (kI b)), (2, .int (kI k)), (3, .int (kI y)), (5, .int (kI i))]) hx hb dX6_placeOf_42 hl (by decide) rfl (fun ls hl => ?_)
          refine r_iinc (lv' := [(5, .int (kI (i + 1))), (4, .int (kI v)), (0, .ref (z + 133)), (1, .int (kI b)), (2, .int (kI k)), (3, .int (kI y))]) hx hb dX6_placeOf_44 hl (k := 5) rfl (by decide) rfl (fun ls hl => ?_)
          refine lv_goto (tgt := 6) hx hb dX6_placeOf_47 (by decide) ?_
          exact ih6 v (i + 1) (by omega) (by omega) (by rw [it_s h0, ← hv]; unfold plcF; (repeat' split) <;> omega) (by omega) _ _ G _ (lv_sub hl [2, 3, 4, 5, 1, 0] rfl)
        · skip
          refine lv_iload hx hb dX6_placeOf_35 (lv_at hl 5 rfl) ?_
          refine lv_goto (tgt := 42) hx hb dX6_placeOf_37 (by decide) ?_
          refine lv_istore (lv' := [(4, .int (kI i)), (0, .ref (z + 133)), (1, .int (kI b)), (2, .int (kI k)), (3, .int (kI y)), (5, .int (kI i))]) hx hb dX6_placeOf_42 hl (by decide) rfl (fun ls hl => ?_)
          refine r_iinc (lv' := [(5, .int (kI (i + 1))), (4, .int (kI i)), (0, .ref (z + 133)), (1, .int (kI b)), (2, .int (kI k)), (3, .int (kI y))]) hx hb dX6_placeOf_44 hl (k := 5) rfl (by decide) rfl (fun ls hl => ?_)
          refine lv_goto (tgt := 6) hx hb dX6_placeOf_47 (by decide) ?_
          exact ih6 i (i + 1) (by omega) (by omega) (by rw [it_s h0, ← hv]; unfold plcF; (repeat' split) <;> omega) (by omega) _ _ G _ (lv_sub hl [2, 3, 4, 5, 1, 0] rfl)
  exact lp6 17 (-1) 0 (by omega) (by omega) (rfl) (by omega) _ _ G _ (lv_sub hl [2, 3, 4, 5, 1, 0] rfl)
set_option maxRecDepth 100000 in
set_option maxHeartbeats 4000000 in
theorem k_X6_takes (l : Launch) {σ : Mem} {b N k y : Int} (hk : 0 ≤ k ∧ k < 4) (hy : 0 ≤ y ∧ y < 16) (hG : SG σ b N) : CtV l yX6_takes (Cond.code yX6_takes cX6_takes 6 none) 2 48 (fun z => [.ref (z + 133), .int (kI b), .int (kI k), .int (kI y)]) σ (mtak σ b k y) := by
  intro D T z
  refine Ct_of (by decide) (Nat.le_of_ble_eq_true rfl) ?_
  intro p e s m below meth c ls hx hb hml hr hts hown hlk G hl
  have hown : s.vm.findClass RX6 = some m.cls := hown
  have hl : lv_has ls 6 [(0, .ref (z + 133)), (1, .int (kI b)), (2, .int (kI k)), (3, .int (kI y))] := hl
  have hb0 := hG.1
  have hkd := hG.kd hk
  have hpr := plc_rg (y := y) hkd.2.1
  refine lv_aload_n hx hb dX6_takes_0 rfl (lv_at hl 0 rfl) ?_
  refine lv_iload_n hx hb dX6_takes_1 rfl (lv_at hl 1 rfl) ?_
  refine lv_iload_n hx hb dX6_takes_2 rfl (lv_at hl 2 rfl) ?_
  refine lv_iload_n hx hb dX6_takes_3 rfl (lv_at hl 3 rfl) ?_
  refine r_callVI ⟨hx, hb, hml, hown, hts⟩ G (k_X6_placeOf l (b := b) (k := k) (y := y) (σ := σ) (hk) (hy) (hG)) (kV_X6_placeOf hts qM_X6_53 ⟨by decide, by decide⟩) (rc_X6 G) rfl rfl hl.1 rfl (Nat.le_of_ble_eq_true rfl) dX6_takes_4 ⟨Nat.le_refl _, Nat.le_refl _⟩ (fun H locs G => ?_)
  refine lv_istore (lv' := [(4, .int (kI (plc σ b k y))), (0, .ref (z + 133)), (1, .int (kI b)), (2, .int (kI k)), (3, .int (kI y))]) hx hb dX6_takes_7 hl (by decide) rfl (fun ls hl => ?_)
  refine lv_aload_n hx hb dX6_takes_9 rfl (lv_at hl 1 rfl) ?_
  refine gf_X6_7 hx hb hts hown G dX6_takes_10 ?_
  refine lv_iload_n hx hb dX6_takes_13 rfl (lv_at hl 2 rfl) ?_
  refine r_sipush hx hb dX6_takes_14 (by decide +kernel) ?_
  refine r_iadd hx hb dX6_takes_17 ?_
  refine lv_iload_n hx hb dX6_takes_18 rfl (lv_at hl 3 rfl) ?_
  refine r_iadd hx hb dX6_takes_19 ?_
  refine lv_dup2_11 hx hb dX6_takes_20 rfl rfl ?_
  refine r_iald hx hb G 134 (by decide) (N := 2910) (fun _ => rfl) (by omega) (by omega) (by decide) dX6_takes_21 ?_
  refine r_top (b := mL σ b k) (rfl) ?_
  refine r_iconst hx hb dX6_takes_22 ?_
  refine r_isub hx hb dX6_takes_23 ?_
  refine r_iast hx hb G 134 (by decide) (N := 2910) (fun _ => rfl) (by omega) (by omega) (by decide) dX6_takes_24 (fun H locs G => ?_)
  refine lv_iload hx hb dX6_takes_25 (lv_at hl 0 rfl) ?_
  refine lv_istore (lv' := [(5, .int (kI (plc σ b k y))), (4, .int (kI (plc σ b k y))), (0, .ref (z + 133)), (1, .int (kI b)), (2, .int (kI k)), (3, .int (kI y))]) hx hb dX6_takes_27 hl (by decide) rfl (fun ls hl => ?_)
  have lp29 : ∀ (d : Nat) (i : Int), (plc σ b k y ≤ i) → (i ≤ mL σ b k - 1) → (mL σ b k - 1 - i : Int) < (d : Int) → ∀ (H : Heap) (locs : List Loc), Wd D T z 139 (shl (up σ 134 (b + 264 + k) (mL σ b k - 1)) (b + 200 + 16 * k) (plc σ b k y) i) s H locs → ∀ (ls : Array Slot), lv_has ls 6 [(0, .ref (z + 133)), (1, .int (kI b)), (2, .int (kI k)), (3, .int (kI y)), (5, .int (kI i))] → W p l e (rmN 2 48) s m ([.ref (z + 133), .int (kI b), .int (kI k), .int (kI y)] : List Value).toArray below meth c H locs 0 0 (MQ below (QV D T z 139 (mtak σ b k y)) ([.ref (z + 133), .int (kI b), .int (kI k), .int (kI y)] : List Value).toArray s 0 0 (Own z)) (F0 m 29 ls []) := by
    intro d
    induction d with
    | zero => intro i h0 h1 hd; exact absurd hd (by omega)
    | succ d ih29 =>
      intro i h0 h1 hd H locs G ls hl
      refine lv_iload hx hb dX6_takes_29 (lv_at hl 4 rfl) ?_
      refine lv_aload_n hx hb dX6_takes_31 rfl (lv_at hl 0 rfl) ?_
      refine gf_X6_7 hx hb hts hown G dX6_takes_32 ?_
      refine lv_iload_n hx hb dX6_takes_35 rfl (lv_at hl 1 rfl) ?_
      refine r_sipush hx hb dX6_takes_36 (by decide +kernel) ?_
      refine r_iadd hx hb dX6_takes_39 ?_
      refine lv_iload_n hx hb dX6_takes_40 rfl (lv_at hl 2 rfl) ?_
      refine r_iadd hx hb dX6_takes_41 ?_
      refine r_iald hx hb G 134 (by decide) (N := 2910) (fun _ => rfl) (by omega) (by omega) (by decide) dX6_takes_42 ?_
      refine r_top (b := mL σ b k - 1) (by rw [shl_at (by omega), up_ap, if_pos ⟨rfl, rfl⟩]) ?_
      refine r_icmp_ge (tgt := 80) hx hb ⟨by omega, by omega⟩ ⟨by omega, by omega⟩ dX6_takes_43 (by decide) (fun h_1 => ?_) (fun h_1 => ?_)
      · skip
        exact r_vret hx hb hr hlk G (by unfold mtak; rw [show i = mL σ b k - 1 by omega]) dX6_takes_80
      · skip
        refine lv_aload_n hx hb dX6_takes_46 rfl (lv_at hl 0 rfl) ?_
        refine gf_X6_7 hx hb hts hown G dX6_takes_47 ?_
        refine lv_iload_n hx hb dX6_takes_50 rfl (lv_at hl 1 rfl) ?_
        refine r_sipush hx hb dX6_takes_51 (by decide +kernel) ?_
        refine r_iadd hx hb dX6_takes_54 ?_
        refine r_bipush hx hb dX6_takes_55 (by decide +kernel) ?_
        refine lv_iload_n hx hb dX6_takes_57 rfl (lv_at hl 2 rfl) ?_
        refine r_imul hx hb dX6_takes_58 ?_
        refine r_iadd hx hb dX6_takes_59 ?_
        refine lv_iload hx hb dX6_takes_60 (lv_at hl 4 rfl) ?_
        refine r_iadd hx hb dX6_takes_62 ?_
        refine lv_aload_n hx hb dX6_takes_63 rfl (lv_at hl 0 rfl) ?_
        refine lv_iload_n hx hb dX6_takes_64 rfl (lv_at hl 1 rfl) ?_
        refine lv_iload_n hx hb dX6_takes_65 rfl (lv_at hl 2 rfl) ?_
        refine lv_iload hx hb dX6_takes_66 (lv_at hl 4 rfl) ?_
        refine r_iconst hx hb dX6_takes_68 ?_
        refine r_iadd hx hb dX6_takes_69 ?_
        refine r_callVI ⟨hx, hb, hml, hown, hts⟩ G (k_X6_pileAt l (b := b) (k := k) (q := i + 1) (σ := shl (up σ 134 (b + 264 + k) (mL σ b k - 1)) (b + 200 + 16 * k) (plc σ b k y) i) (hk) (⟨by omega, by omega⟩) (⟨by omega, by omega⟩)) (kV_X6_pileAt hts qM_X6_50 ⟨by decide, by decide⟩) (rc_X6 G) rfl rfl hl.1 rfl (Nat.le_of_ble_eq_true rfl) dX6_takes_70 ⟨Nat.le_refl _, Nat.le_refl _⟩ (fun H locs G => ?_)
        refine r_top (b := (up σ 134 (b + 264 + k) (mL σ b k - 1)) 134 (b + 200 + 16 * k + (i + 1))) (by unfold mP; rw [shl_at (by omega)]) ?_
        refine r_iast hx hb G 134 (by decide) (N := 2910) (fun _ => rfl) (by omega) (by omega) (by decide) dX6_takes_73 (fun H locs G => ?_)
        have G := G.cong (τ := shl (up σ 134 (b + 264 + k) (mL σ b k - 1)) (b + 200 + 16 * k) (plc σ b k y) (i + 1)) (shl_s (by omega))
        refine r_iinc (lv' := [(5, .int (kI (i + 1))), (0, .ref (z + 133)), (1, .int (kI b)), (2, .int (kI k)), (3, .int (kI y))]) hx hb dX6_takes_74 hl (k := 4) rfl (by decide) rfl (fun ls hl => ?_)
        refine lv_goto (tgt := 29) hx hb dX6_takes_77 (by decide) ?_
        exact ih29 (i + 1) (by omega) (by omega) (by omega) _ _ G _ (lv_sub hl [1, 2, 3, 4, 0] rfl)
  have G := G.cong (shl_0 (σ := up σ 134 (b + 264 + k) (mL σ b k - 1)) (a := b + 200 + 16 * k) (lo := plc σ b k y)).symm
  exact lp29 18 (plc σ b k y) (by omega) (by omega) (by omega) _ _ G _ (lv_sub hl [2, 3, 4, 5, 0] rfl)
set_option maxRecDepth 100000 in
set_option maxHeartbeats 4000000 in
theorem k_X6_lowestFresh (l : Launch) {σ : Mem} {b N k : Int} (hk : 0 ≤ k ∧ k < 4) (hG : SG σ b N) : CtI l yX6_lowestFresh (Cond.code yX6_lowestFresh cX6_lowestFresh 5 (some .int)) 1 22 (fun z => [.ref (z + 133), .int (kI b), .int (kI k)]) σ (lof σ b k) σ := by
  intro D T z
  refine Ct_of (by decide) (Nat.le_of_ble_eq_true rfl) ?_
  intro p e s m below meth c ls hx hb hml hr hts hown hlk G hl
  have hown : s.vm.findClass RX6 = some m.cls := hown
  have hl : lv_has ls 5 [(0, .ref (z + 133)), (1, .int (kI b)), (2, .int (kI k))] := hl
  have hb0 := hG.1
  refine r_iconst hx hb dX6_lowestFresh_0 ?_
  refine lv_istore_n (lv' := [(3, .int (kI (-1))), (0, .ref (z + 133)), (1, .int (kI b)), (2, .int (kI k))]) hx hb dX6_lowestFresh_1 rfl hl (by decide) rfl (fun ls hl => ?_)
  refine r_bipush hx hb dX6_lowestFresh_2 (by decide +kernel) ?_
  refine lv_istore (lv' := [(4, .int (kI 15)), (3, .int (kI (-1))), (0, .ref (z + 133)), (1, .int (kI b)), (2, .int (kI k))]) hx hb dX6_lowestFresh_4 hl (by decide) rfl (fun ls hl => ?_)
  have lp6 : ∀ (d : Nat) (v : Int) (i : Int), (-1 ≤ i) → (i ≤ 15) → (v = it (lofF σ b k) (-1) (15 - i)) → (i + 1 : Int) < (d : Int) → ∀ (H : Heap) (locs : List Loc), Wd D T z 139 σ s H locs → ∀ (ls : Array Slot), lv_has ls 5 [(0, .ref (z + 133)), (1, .int (kI b)), (2, .int (kI k)), (3, .int (kI v)), (4, .int (kI i))] → W p l e (rmN 1 22) s m ([.ref (z + 133), .int (kI b), .int (kI k)] : List Value).toArray below meth c H locs 0 0 (MQ below (QI D T z 139 (lof σ b k) σ) ([.ref (z + 133), .int (kI b), .int (kI k)] : List Value).toArray s 0 0 (Own z)) (F0 m 6 ls []) := by
    intro d
    induction d with
    | zero => intro v i h0 h1 hv hd; exact absurd hd (by omega)
    | succ d ih6 =>
      intro v i h0 h1 hv hd H locs G ls hl
      refine lv_iload hx hb dX6_lowestFresh_6 (lv_at hl 4 rfl) ?_
      refine r_if_lt (tgt := 39) hx hb ⟨by omega, by omega⟩ dX6_lowestFresh_8 (by decide) (fun h_1 => ?_) (fun h_1 => ?_)
      · skip
        refine lv_iload_n hx hb dX6_lowestFresh_39 rfl (lv_at hl 3 rfl) ?_
        exact r_iret hx hb hr hlk G (by have e : i = -1 := (by omega); rw [hv, e]; rfl) (by rfl) dX6_lowestFresh_40
      · skip
        have hky := hG.ky hk (y := i) ⟨by omega, by omega⟩
        refine lv_aload_n hx hb dX6_lowestFresh_11 rfl (lv_at hl 0 rfl) ?_
        refine gf_X6_7 hx hb hts hown G dX6_lowestFresh_12 ?_
        refine lv_iload_n hx hb dX6_lowestFresh_15 rfl (lv_at hl 1 rfl) ?_
        refine lv_iload_n hx hb dX6_lowestFresh_16 rfl (lv_at hl 2 rfl) ?_
        refine lv_iload hx hb dX6_lowestFresh_17 (lv_at hl 4 rfl) ?_
        refine r_callSI ⟨hx, hb, hml, hown, hts⟩ G (k_X6_keyAt l (b := b) (k := k) (y := i) (σ := σ) ) (kS_X6_keyAt hts qM_X6_40 ⟨by decide, by decide⟩) rfl rfl hl.1 rfl (Nat.le_of_ble_eq_true rfl) dX6_lowestFresh_19 ⟨Nat.le_refl _, Nat.le_refl _⟩ (fun H locs G => ?_)
        refine r_iald hx hb G 134 (by decide) (N := 2910) (fun _ => rfl) (by omega) (by omega) (by decide) dX6_lowestFresh_22 ?_
        refine r_top (b := mS σ b k i) (rfl) ?_
        refine r_if_ne (tgt := 31) hx hb ⟨by omega, by omega⟩ dX6_lowestFresh_23 (by decide) (fun h_2 => ?_) (fun h_2 => ?_)
        · skip
          refine lv_iload_n hx hb dX6_lowestFresh_31 rfl (lv_at hl 3 rfl) ?_
          refine lv_istore_n (lv' := [(3, .int (kI v)), (0, .ref (z + 133)), (1, .int (kI b)), (2, .int (kI k)), (4, .int (kI i))]) hx hb dX6_lowestFresh_32 rfl hl (by decide) rfl (fun ls hl => ?_)
          refine r_iinc (lv' := [(4, .int (kI (i + (-1)))), (3, .int (kI v)), (0, .ref (z + 133)), (1, .int (kI b)), (2, .int (kI k))]) hx hb dX6_lowestFresh_33 hl (k := 4) rfl (by decide) rfl (fun ls hl => ?_)
          refine lv_goto (tgt := 6) hx hb dX6_lowestFresh_36 (by decide) ?_
          exact ih6 v (i + (-1)) (by omega) (by omega) (by rw [show 15 - (i + -1) = 15 - i + 1 by omega, it_s (by omega), ← hv]; unfold lofF; rw [show 15 - (15 - i) = i by omega]; (repeat' split) <;> omega) (by omega) _ _ G _ (lv_sub hl [2, 3, 4, 1, 0] rfl)
        · skip
          refine lv_iload hx hb dX6_lowestFresh_26 (lv_at hl 4 rfl) ?_
          refine lv_goto (tgt := 32) hx hb dX6_lowestFresh_28 (by decide) ?_
          refine lv_istore_n (lv' := [(3, .int (kI i)), (0, .ref (z + 133)), (1, .int (kI b)), (2, .int (kI k)), (4, .int (kI i))]) hx hb dX6_lowestFresh_32 rfl hl (by decide) rfl (fun ls hl => ?_)
          refine r_iinc (lv' := [(4, .int (kI (i + (-1)))), (3, .int (kI i)), (0, .ref (z + 133)), (1, .int (kI b)), (2, .int (kI k))]) hx hb dX6_lowestFresh_33 hl (k := 4) rfl (by decide) rfl (fun ls hl => ?_)
          refine lv_goto (tgt := 6) hx hb dX6_lowestFresh_36 (by decide) ?_
          exact ih6 i (i + (-1)) (by omega) (by omega) (by rw [show 15 - (i + -1) = 15 - i + 1 by omega, it_s (by omega), ← hv]; unfold lofF; rw [show 15 - (15 - i) = i by omega]; (repeat' split) <;> omega) (by omega) _ _ G _ (lv_sub hl [2, 3, 4, 1, 0] rfl)
  exact lp6 17 (-1) 15 (by omega) (by omega) (rfl) (by omega) _ _ G _ (lv_sub hl [2, 3, 4, 1, 0] rfl)
set_option maxRecDepth 100000 in
set_option maxHeartbeats 4000000 in
theorem k_X6_topRipe (l : Launch) {σ : Mem} {b N k : Int} (hk : 0 ≤ k ∧ k < 4) (hG : SG σ b N) : CtI l yX6_topRipe (Cond.code yX6_topRipe cX6_topRipe 6 (some .int)) 3 68 (fun z => [.ref (z + 133), .int (kI b), .int (kI k)]) σ (tor σ b k) σ := by
  intro D T z
  refine Ct_of (by decide) (Nat.le_of_ble_eq_true rfl) ?_
  intro p e s m below meth c ls hx hb hml hr hts hown hlk G hl
  have hown : s.vm.findClass RX6 = some m.cls := hown
  have hl : lv_has ls 6 [(0, .ref (z + 133)), (1, .int (kI b)), (2, .int (kI k))] := hl
  have hb0 := hG.1
  have hkd := hG.kd hk
  refine r_iconst hx hb dX6_topRipe_0 ?_
  refine lv_istore_n (lv' := [(3, .int (kI (-1))), (0, .ref (z + 133)), (1, .int (kI b)), (2, .int (kI k))]) hx hb dX6_topRipe_1 rfl hl (by decide) rfl (fun ls hl => ?_)
  refine lv_aload_n hx hb dX6_topRipe_2 rfl (lv_at hl 1 rfl) ?_
  refine gf_X6_7 hx hb hts hown G dX6_topRipe_3 ?_
  refine lv_iload_n hx hb dX6_topRipe_6 rfl (lv_at hl 2 rfl) ?_
  refine r_sipush hx hb dX6_topRipe_7 (by decide +kernel) ?_
  refine r_iadd hx hb dX6_topRipe_10 ?_
  refine lv_iload_n hx hb dX6_topRipe_11 rfl (lv_at hl 3 rfl) ?_
  refine r_iadd hx hb dX6_topRipe_12 ?_
  refine r_iald hx hb G 134 (by decide) (N := 2910) (fun _ => rfl) (by omega) (by omega) (by decide) dX6_topRipe_13 ?_
  refine r_top (b := mL σ b k) (rfl) ?_
  refine r_iconst hx hb dX6_topRipe_14 ?_
  refine r_isub hx hb dX6_topRipe_15 ?_
  refine lv_istore (lv' := [(4, .int (kI (mL σ b k - 1))), (3, .int (kI (-1))), (0, .ref (z + 133)), (1, .int (kI b)), (2, .int (kI k))]) hx hb dX6_topRipe_16 hl (by decide) rfl (fun ls hl => ?_)
  have lp18 : ∀ (d : Nat) (v : Int) (i : Int), (-1 ≤ i) → (i ≤ mL σ b k - 1) → (v = it (torF σ b k) (-1) (mL σ b k - 1 - i)) → (i + 1 : Int) < (d : Int) → ∀ (H : Heap) (locs : List Loc), Wd D T z 139 σ s H locs → ∀ (ls : Array Slot), lv_has ls 6 [(0, .ref (z + 133)), (1, .int (kI b)), (2, .int (kI k)), (3, .int (kI v)), (4, .int (kI i))] → W p l e (rmN 3 68) s m ([.ref (z + 133), .int (kI b), .int (kI k)] : List Value).toArray below meth c H locs 0 0 (MQ below (QI D T z 139 (tor σ b k) σ) ([.ref (z + 133), .int (kI b), .int (kI k)] : List Value).toArray s 0 0 (Own z)) (F0 m 18 ls []) := by
    intro d
    induction d with
    | zero => intro v i h0 h1 hv hd; exact absurd hd (by omega)
    | succ d ih18 =>
      intro v i h0 h1 hv hd H locs G ls hl
      refine lv_iload hx hb dX6_topRipe_18 (lv_at hl 4 rfl) ?_
      refine r_if_lt (tgt := 57) hx hb ⟨by omega, by omega⟩ dX6_topRipe_20 (by decide) (fun h_1 => ?_) (fun h_1 => ?_)
      · skip
        refine lv_iload_n hx hb dX6_topRipe_57 rfl (lv_at hl 3 rfl) ?_
        exact r_iret hx hb hr hlk G (by have e : i = -1 := (by omega); rw [hv, e, show mL σ b k - 1 - -1 = mL σ b k by omega]; rfl) (by rfl) dX6_topRipe_58
      · skip
        refine lv_aload_n hx hb dX6_topRipe_23 rfl (lv_at hl 0 rfl) ?_
        refine lv_iload_n hx hb dX6_topRipe_24 rfl (lv_at hl 1 rfl) ?_
        refine lv_iload_n hx hb dX6_topRipe_25 rfl (lv_at hl 2 rfl) ?_
        refine lv_iload hx hb dX6_topRipe_26 (lv_at hl 4 rfl) ?_
        refine r_callVI ⟨hx, hb, hml, hown, hts⟩ G (k_X6_pileAt l (b := b) (k := k) (q := i) (σ := σ) (hk) (⟨by omega, by omega⟩) (⟨by omega, by omega⟩)) (kV_X6_pileAt hts qM_X6_50 ⟨by decide, by decide⟩) (rc_X6 G) rfl rfl hl.1 rfl (Nat.le_of_ble_eq_true rfl) dX6_topRipe_28 ⟨Nat.le_refl _, Nat.le_refl _⟩ (fun H locs G => ?_)
        refine lv_istore (lv' := [(5, .int (kI (mP σ b k i))), (0, .ref (z + 133)), (1, .int (kI b)), (2, .int (kI k)), (3, .int (kI v)), (4, .int (kI i))]) hx hb dX6_topRipe_31 hl (by decide) rfl (fun ls hl => ?_)
        have hpl := hG.pl hk (p := i) (by omega) (by omega)
        refine lv_aload_n hx hb dX6_topRipe_33 rfl (lv_at hl 1 rfl) ?_
        refine lv_iload_n hx hb dX6_topRipe_34 rfl (lv_at hl 2 rfl) ?_
        refine lv_iload_n hx hb dX6_topRipe_35 rfl (lv_at hl 3 rfl) ?_
        refine lv_iload hx hb dX6_topRipe_36 (lv_at hl 0 rfl) ?_
        refine r_callVI ⟨hx, hb, hml, hown, hts⟩ G (k_X6_isRipe l (b := b) (k := k) (y := mP σ b k i) (σ := σ) (hk) (hG.pl hk (p := i) (by omega) (by omega)) (hG)) (kV_X6_isRipe hts qM_X6_47 ⟨by decide, by decide⟩) (rc_X6 G) rfl rfl hl.1 rfl (Nat.le_of_ble_eq_true rfl) dX6_topRipe_38 ⟨Nat.le_refl _, Nat.le_refl _⟩ (fun H locs G => ?_)
        refine r_zeq (tgt := 49) hx hb dX6_topRipe_41 (by decide) (fun h_2 => ?_) (fun h_2 => ?_)
        · skip
          have hq := h_2
          refine lv_iload_n hx hb dX6_topRipe_49 rfl (lv_at hl 4 rfl) ?_
          refine lv_istore_n (lv' := [(3, .int (kI v)), (5, .int (kI (mP σ b k i))), (0, .ref (z + 133)), (1, .int (kI b)), (2, .int (kI k)), (4, .int (kI i))]) hx hb dX6_topRipe_50 rfl hl (by decide) rfl (fun ls hl => ?_)
          refine r_iinc (lv' := [(4, .int (kI (i + (-1)))), (3, .int (kI v)), (5, .int (kI (mP σ b k i))), (0, .ref (z + 133)), (1, .int (kI b)), (2, .int (kI k))]) hx hb dX6_topRipe_51 hl (k := 5) rfl (by decide) rfl (fun ls hl => ?_)
          refine lv_goto (tgt := 18) hx hb dX6_topRipe_54 (by decide) ?_
          exact ih18 v (i + (-1)) (by omega) (by omega) (by rw [show mL σ b k - 1 - (i + -1) = mL σ b k - 1 - i + 1 by omega, it_s (by omega), ← hv]; unfold torF; rw [show mL σ b k - 1 - (mL σ b k - 1 - i) = i by omega]; first | rw [if_pos hq] | rw [if_neg hq]) (by omega) _ _ G _ (lv_sub hl [3, 4, 5, 1, 0] rfl)
        · skip
          have hq := h_2
          refine lv_iload hx hb dX6_topRipe_44 (lv_at hl 0 rfl) ?_
          refine lv_goto (tgt := 50) hx hb dX6_topRipe_46 (by decide) ?_
          refine lv_istore_n (lv' := [(3, .int (kI (mP σ b k i))), (5, .int (kI (mP σ b k i))), (0, .ref (z + 133)), (1, .int (kI b)), (2, .int (kI k)), (4, .int (kI i))]) hx hb dX6_topRipe_50 rfl hl (by decide) rfl (fun ls hl => ?_)
          refine r_iinc (lv' := [(4, .int (kI (i + (-1)))), (3, .int (kI (mP σ b k i))), (5, .int (kI (mP σ b k i))), (0, .ref (z + 133)), (1, .int (kI b)), (2, .int (kI k))]) hx hb dX6_topRipe_51 hl (k := 5) rfl (by decide) rfl (fun ls hl => ?_)
          refine lv_goto (tgt := 18) hx hb dX6_topRipe_54 (by decide) ?_
          exact ih18 (mP σ b k i) (i + (-1)) (by omega) (by omega) (by rw [show mL σ b k - 1 - (i + -1) = mL σ b k - 1 - i + 1 by omega, it_s (by omega), ← hv]; unfold torF; rw [show mL σ b k - 1 - (mL σ b k - 1 - i) = i by omega]; first | rw [if_pos hq] | rw [if_neg hq]) (by omega) _ _ G _ (lv_sub hl [3, 4, 5, 1, 0] rfl)
  exact lp18 18 (-1) (mL σ b k - 1) (by omega) (by omega) (by rw [show mL σ b k - 1 - (mL σ b k - 1) = 0 by omega]; rfl) (by omega) _ _ G _ (lv_sub hl [2, 3, 4, 1, 0] rfl)
theorem mdr_no {σ : Mem} {b k i fo le : Int} (h0 : 0 ≤ i) (hv : (fo, le) = it (mdrF σ b k) (-1, 0) i) (h : ¬ (mcg σ b k i ∧ (fo < 0 ∨ (if mRu σ b = 2 then 0 else mR σ b k i) < le))) : (fo, le) = it (mdrF σ b k) (-1, 0) (i + 1) := by
  rw [it_s h0, ← hv]; unfold mdrF; exact (if_neg h).symm
theorem mdr_yes {σ : Mem} {b k i fo le : Int} (h0 : 0 ≤ i) (hv : (fo, le) = it (mdrF σ b k) (-1, 0) i) (h1 : mcg σ b k i) (h2 : fo < 0 ∨ (if mRu σ b = 2 then 0 else mR σ b k i) < le) : (i, if mRu σ b = 2 then 0 else mR σ b k i) = it (mdrF σ b k) (-1, 0) (i + 1) := by
  rw [it_s h0, ← hv]; unfold mdrF; exact (if_pos ⟨h1, h2⟩).symm
set_option maxRecDepth 100000 in
set_option maxHeartbeats 4000000 in
theorem k_X6_draws (l : Launch) {σ : Mem} {b N k : Int} (hk : 0 ≤ k ∧ k < 4) (hG : SG σ b N) : CtI l yX6_draws (Cond.code yX6_draws cX6_draws 9 (some .int)) 4 93 (fun z => [.ref (z + 133), .int (kI b), .int (kI k)]) σ (mdr σ b k) σ := by
  intro D T z
  refine Ct_of (by decide) (Nat.le_of_ble_eq_true rfl) ?_
  intro p e s m below meth c ls hx hb hml hr hts hown hlk G hl
  have hown : s.vm.findClass RX6 = some m.cls := hown
  have hl : lv_has ls 9 [(0, .ref (z + 133)), (1, .int (kI b)), (2, .int (kI k))] := hl
  have hb0 := hG.1
  have hru := hG.ru
  have hlf := lof_rg (σ := σ) (b := b) (k := k)
  have htr := tor_rg hG hk
  refine lv_aload_n hx hb dX6_draws_0 rfl (lv_at hl 0 rfl) ?_
  refine lv_iload_n hx hb dX6_draws_1 rfl (lv_at hl 1 rfl) ?_
  refine lv_iload_n hx hb dX6_draws_2 rfl (lv_at hl 2 rfl) ?_
  refine r_callVI ⟨hx, hb, hml, hown, hts⟩ G (k_X6_lowestFresh l (b := b) (k := k) (σ := σ) (hk) (hG)) (kV_X6_lowestFresh hts qM_X6_56 ⟨by decide, by decide⟩) (rc_X6 G) rfl rfl hl.1 rfl (Nat.le_of_ble_eq_true rfl) dX6_draws_3 ⟨Nat.le_refl _, Nat.le_refl _⟩ (fun H locs G => ?_)
  refine lv_istore_n (lv' := [(3, .int (kI (lof σ b k))), (0, .ref (z + 133)), (1, .int (kI b)), (2, .int (kI k))]) hx hb dX6_draws_6 rfl hl (by decide) rfl (fun ls hl => ?_)
  refine lv_aload_n hx hb dX6_draws_7 rfl (lv_at hl 1 rfl) ?_
  refine lv_iload_n hx hb dX6_draws_8 rfl (lv_at hl 2 rfl) ?_
  refine lv_iload_n hx hb dX6_draws_9 rfl (lv_at hl 3 rfl) ?_
  refine r_callVI ⟨hx, hb, hml, hown, hts⟩ G (k_X6_topRipe l (b := b) (k := k) (σ := σ) (hk) (hG)) (kV_X6_topRipe hts qM_X6_60 ⟨by decide, by decide⟩) (rc_X6 G) rfl rfl hl.1 rfl (Nat.le_of_ble_eq_true rfl) dX6_draws_10 ⟨Nat.le_refl _, Nat.le_refl _⟩ (fun H locs G => ?_)
  refine lv_istore (lv' := [(4, .int (kI (tor σ b k))), (3, .int (kI (lof σ b k))), (0, .ref (z + 133)), (1, .int (kI b)), (2, .int (kI k))]) hx hb dX6_draws_13 hl (by decide) rfl (fun ls hl => ?_)
  refine lv_aload_n hx hb dX6_draws_15 rfl (lv_at hl 2 rfl) ?_
  refine gf_X6_7 hx hb hts hown G dX6_draws_16 ?_
  refine lv_iload_n hx hb dX6_draws_19 rfl (lv_at hl 3 rfl) ?_
  refine r_iald hx hb G 134 (by decide) (N := 2910) (fun _ => rfl) (by omega) (by omega) (by decide) dX6_draws_20 ?_
  refine r_top (b := mRu σ b) (rfl) ?_
  refine r_if_ne (tgt := 35) hx hb ⟨by omega, by omega⟩ dX6_draws_21 (by decide) (fun h_1 => ?_) (fun h_1 => ?_)
  · skip
    refine lv_aload_n hx hb dX6_draws_35 rfl (lv_at hl 2 rfl) ?_
    refine gf_X6_7 hx hb hts hown G dX6_draws_36 ?_
    refine lv_iload_n hx hb dX6_draws_39 rfl (lv_at hl 3 rfl) ?_
    refine r_iald hx hb G 134 (by decide) (N := 2910) (fun _ => rfl) (by omega) (by omega) (by decide) dX6_draws_40 ?_
    refine r_top (b := mRu σ b) (rfl) ?_
    refine r_iconst hx hb dX6_draws_41 ?_
    refine r_icmp_ne (tgt := 57) hx hb ⟨by omega, by omega⟩ ⟨by decide, by decide⟩ dX6_draws_42 (by decide) (fun h_2 => ?_) (fun h_2 => ?_)
    · skip
      refine r_iconst hx hb dX6_draws_57 ?_
      refine lv_istore (lv' := [(5, .int (kI (-1))), (4, .int (kI (tor σ b k))), (3, .int (kI (lof σ b k))), (0, .ref (z + 133)), (1, .int (kI b)), (2, .int (kI k))]) hx hb dX6_draws_58 hl (by decide) rfl (fun ls hl => ?_)
      refine r_iconst hx hb dX6_draws_60 ?_
      refine lv_istore (lv' := [(6, .int (kI 0)), (5, .int (kI (-1))), (4, .int (kI (tor σ b k))), (3, .int (kI (lof σ b k))), (0, .ref (z + 133)), (1, .int (kI b)), (2, .int (kI k))]) hx hb dX6_draws_61 hl (by decide) rfl (fun ls hl => ?_)
      refine r_iconst hx hb dX6_draws_63 ?_
      refine lv_istore (lv' := [(7, .int (kI 0)), (6, .int (kI 0)), (5, .int (kI (-1))), (4, .int (kI (tor σ b k))), (3, .int (kI (lof σ b k))), (0, .ref (z + 133)), (1, .int (kI b)), (2, .int (kI k))]) hx hb dX6_draws_64 hl (by decide) rfl (fun ls hl => ?_)
      have lp66 : ∀ (d : Nat) (fo : Int) (le : Int) (i : Int), (0 ≤ i) → (i ≤ 16) → (-1 ≤ fo ∧ fo < 16) → (0 ≤ le ∧ le ≤ 1000) → ((fo, le) = it (mdrF σ b k) (-1, 0) i) → (16 - i : Int) < (d : Int) → ∀ (H : Heap) (locs : List Loc), Wd D T z 139 σ s H locs → ∀ (ls : Array Slot), lv_has ls 9 [(0, .ref (z + 133)), (1, .int (kI b)), (2, .int (kI k)), (5, .int (kI fo)), (6, .int (kI le)), (7, .int (kI i))] → W p l e (rmN 4 93) s m ([.ref (z + 133), .int (kI b), .int (kI k)] : List Value).toArray below meth c H locs 0 0 (MQ below (QI D T z 139 (mdr σ b k) σ) ([.ref (z + 133), .int (kI b), .int (kI k)] : List Value).toArray s 0 0 (Own z)) (F0 m 66 ls []) := by
        intro d
        induction d with
        | zero => intro fo le i h0 h1 hf0 hl0 hv hd; exact absurd hd (by omega)
        | succ d ih66 =>
          intro fo le i h0 h1 hf0 hl0 hv hd H locs G ls hl
          refine lv_iload hx hb dX6_draws_66 (lv_at hl 5 rfl) ?_
          refine r_bipush hx hb dX6_draws_68 (by decide +kernel) ?_
          refine r_icmp_ge (tgt := 140) hx hb ⟨by omega, by omega⟩ ⟨by decide, by decide⟩ dX6_draws_70 (by decide) (fun h_3 => ?_) (fun h_3 => ?_)
          · skip
            refine lv_iload hx hb dX6_draws_140 (lv_at hl 3 rfl) ?_
            exact r_iret hx hb hr hlk G (by have e : i = 16 := (by omega); unfold mdr; rw [if_neg (by omega), if_neg (by omega), ← e, ← hv]) (by rfl) dX6_draws_142
          · skip
            have hky := hG.ky hk (y := i) ⟨by omega, by omega⟩
            refine lv_aload_n hx hb dX6_draws_73 rfl (lv_at hl 0 rfl) ?_
            refine gf_X6_7 hx hb hts hown G dX6_draws_74 ?_
            refine lv_iload_n hx hb dX6_draws_77 rfl (lv_at hl 1 rfl) ?_
            refine r_iald hx hb G 134 (by decide) (N := 2910) (fun _ => rfl) (by omega) (by omega) (by decide) dX6_draws_78 ?_
            refine r_top (b := mRu σ b) (rfl) ?_
            refine r_iconst hx hb dX6_draws_79 ?_
            refine r_icmp_ne (tgt := 87) hx hb ⟨by omega, by omega⟩ ⟨by decide, by decide⟩ dX6_draws_80 (by decide) (fun h_4 => ?_) (fun h_4 => ?_)
            · skip
              refine lv_aload_n hx hb dX6_draws_87 rfl (lv_at hl 0 rfl) ?_
              refine gf_X6_7 hx hb hts hown G dX6_draws_88 ?_
              refine lv_iload_n hx hb dX6_draws_91 rfl (lv_at hl 1 rfl) ?_
              refine lv_iload_n hx hb dX6_draws_92 rfl (lv_at hl 2 rfl) ?_
              refine lv_iload hx hb dX6_draws_93 (lv_at hl 5 rfl) ?_
              refine r_callSI ⟨hx, hb, hml, hown, hts⟩ G (k_X6_keyAt l (b := b) (k := k) (y := i) (σ := σ) ) (kS_X6_keyAt hts qM_X6_40 ⟨by decide, by decide⟩) rfl rfl hl.1 rfl (Nat.le_of_ble_eq_true rfl) dX6_draws_95 ⟨Nat.le_refl _, Nat.le_refl _⟩ (fun H locs G => ?_)
              refine r_iconst hx hb dX6_draws_98 ?_
              refine r_iadd hx hb dX6_draws_99 ?_
              refine r_iald hx hb G 134 (by decide) (N := 2910) (fun _ => rfl) (by omega) (by omega) (by decide) dX6_draws_100 ?_
              refine r_top (b := mR σ b k i) (rfl) ?_
              have how : mR σ b k i = (if mRu σ b = 2 then 0 else mR σ b k i) := by (first | rw [if_pos (by omega)] | rw [if_neg (by omega)])
              have hs0 := mdr_no (σ := σ) (b := b) (k := k) h0 hv
              refine lv_istore (lv' := [(8, .int (kI (mR σ b k i))), (0, .ref (z + 133)), (1, .int (kI b)), (2, .int (kI k)), (5, .int (kI fo)), (6, .int (kI le)), (7, .int (kI i))]) hx hb dX6_draws_101 hl (by decide) rfl (fun ls hl => ?_)
              refine lv_aload_n hx hb dX6_draws_103 rfl (lv_at hl 1 rfl) ?_
              refine lv_iload_n hx hb dX6_draws_104 rfl (lv_at hl 2 rfl) ?_
              refine lv_iload_n hx hb dX6_draws_105 rfl (lv_at hl 3 rfl) ?_
              refine lv_iload hx hb dX6_draws_106 (lv_at hl 6 rfl) ?_
              refine r_callVI ⟨hx, hb, hml, hown, hts⟩ G (k_X6_canGive l (b := b) (k := k) (y := i) (σ := σ) (hk) (⟨by omega, by omega⟩) (hG)) (kV_X6_canGive hts qM_X6_63 ⟨by decide, by decide⟩) (rc_X6 G) rfl rfl hl.1 rfl (Nat.le_of_ble_eq_true rfl) dX6_draws_108 ⟨Nat.le_refl _, Nat.le_refl _⟩ (fun H locs G => ?_)
              refine r_zeq (tgt := 134) hx hb dX6_draws_111 (by decide) (fun h_5 => ?_) (fun h_5 => ?_)
              · skip
                have hs := hs0 (fun h => h_5 h.1)
                refine r_iinc (lv' := [(7, .int (kI (i + 1))), (8, .int (kI (mR σ b k i))), (0, .ref (z + 133)), (1, .int (kI b)), (2, .int (kI k)), (5, .int (kI fo)), (6, .int (kI le))]) hx hb dX6_draws_134 hl (k := 6) rfl (by decide) rfl (fun ls hl => ?_)
                refine lv_goto (tgt := 66) hx hb dX6_draws_137 (by decide) ?_
                exact ih66 fo le (i + 1) (by omega) (by omega) (by omega) (by omega) (by first | exact hs | (rw [← how] at hs; exact hs)) (by omega) _ _ G _ (lv_sub hl [2, 3, 4, 5, 6, 0] rfl)
              · skip
                have hcg := h_5
                refine lv_iload hx hb dX6_draws_114 (lv_at hl 4 rfl) ?_
                refine r_if_lt (tgt := 126) hx hb ⟨by omega, by omega⟩ dX6_draws_116 (by decide) (fun h_6 => ?_) (fun h_6 => ?_)
                · skip
                  have hs := mdr_yes h0 hv hcg (Or.inl h_6)
                  refine lv_iload hx hb dX6_draws_126 (lv_at hl 6 rfl) ?_
                  refine lv_istore (lv' := [(5, .int (kI i)), (8, .int (kI (mR σ b k i))), (0, .ref (z + 133)), (1, .int (kI b)), (2, .int (kI k)), (6, .int (kI le)), (7, .int (kI i))]) hx hb dX6_draws_128 hl (by decide) rfl (fun ls hl => ?_)
                  refine lv_iload hx hb dX6_draws_130 (lv_at hl 1 rfl) ?_
                  refine lv_istore (lv' := [(6, .int (kI (mR σ b k i))), (5, .int (kI i)), (8, .int (kI (mR σ b k i))), (0, .ref (z + 133)), (1, .int (kI b)), (2, .int (kI k)), (7, .int (kI i))]) hx hb dX6_draws_132 hl (by decide) rfl (fun ls hl => ?_)
                  refine r_iinc (lv' := [(7, .int (kI (i + 1))), (6, .int (kI (mR σ b k i))), (5, .int (kI i)), (8, .int (kI (mR σ b k i))), (0, .ref (z + 133)), (1, .int (kI b)), (2, .int (kI k))]) hx hb dX6_draws_134 hl (k := 6) rfl (by decide) rfl (fun ls hl => ?_)
                  refine lv_goto (tgt := 66) hx hb dX6_draws_137 (by decide) ?_
                  exact ih66 i (mR σ b k i) (i + 1) (by omega) (by omega) (by omega) (by omega) (by first | exact hs | (rw [← how] at hs; exact hs)) (by omega) _ _ G _ (lv_sub hl [4, 5, 6, 2, 1, 0] rfl)
                · skip
                  refine lv_iload hx hb dX6_draws_119 (lv_at hl 0 rfl) ?_
                  refine lv_iload hx hb dX6_draws_121 (lv_at hl 5 rfl) ?_
                  refine r_icmp_ge (tgt := 134) hx hb ⟨by omega, by omega⟩ ⟨by omega, by omega⟩ dX6_draws_123 (by decide) (fun h_7 => ?_) (fun h_7 => ?_)
                  · skip
                    have hs := hs0 (fun h => by omega)
                    refine r_iinc (lv' := [(7, .int (kI (i + 1))), (8, .int (kI (mR σ b k i))), (0, .ref (z + 133)), (1, .int (kI b)), (2, .int (kI k)), (5, .int (kI fo)), (6, .int (kI le))]) hx hb dX6_draws_134 hl (k := 6) rfl (by decide) rfl (fun ls hl => ?_)
                    refine lv_goto (tgt := 66) hx hb dX6_draws_137 (by decide) ?_
                    exact ih66 fo le (i + 1) (by omega) (by omega) (by omega) (by omega) (by first | exact hs | (rw [← how] at hs; exact hs)) (by omega) _ _ G _ (lv_sub hl [2, 3, 4, 5, 6, 0] rfl)
                  · skip
                    have hs := mdr_yes h0 hv hcg (Or.inr (by omega))
                    refine lv_iload hx hb dX6_draws_126 (lv_at hl 6 rfl) ?_
                    refine lv_istore (lv' := [(5, .int (kI i)), (8, .int (kI (mR σ b k i))), (0, .ref (z + 133)), (1, .int (kI b)), (2, .int (kI k)), (6, .int (kI le)), (7, .int (kI i))]) hx hb dX6_draws_128 hl (by decide) rfl (fun ls hl => ?_)
                    refine lv_iload hx hb dX6_draws_130 (lv_at hl 1 rfl) ?_
                    refine lv_istore (lv' := [(6, .int (kI (mR σ b k i))), (5, .int (kI i)), (8, .int (kI (mR σ b k i))), (0, .ref (z + 133)), (1, .int (kI b)), (2, .int (kI k)), (7, .int (kI i))]) hx hb dX6_draws_132 hl (by decide) rfl (fun ls hl => ?_)
                    refine r_iinc (lv' := [(7, .int (kI (i + 1))), (6, .int (kI (mR σ b k i))), (5, .int (kI i)), (8, .int (kI (mR σ b k i))), (0, .ref (z + 133)), (1, .int (kI b)), (2, .int (kI k))]) hx hb dX6_draws_134 hl (k := 6) rfl (by decide) rfl (fun ls hl => ?_)
                    refine lv_goto (tgt := 66) hx hb dX6_draws_137 (by decide) ?_
                    exact ih66 i (mR σ b k i) (i + 1) (by omega) (by omega) (by omega) (by omega) (by first | exact hs | (rw [← how] at hs; exact hs)) (by omega) _ _ G _ (lv_sub hl [4, 5, 6, 2, 1, 0] rfl)
            · skip
              refine r_iconst hx hb dX6_draws_83 ?_
              refine lv_goto (tgt := 101) hx hb dX6_draws_84 (by decide) ?_
              have how : 0 = (if mRu σ b = 2 then 0 else mR σ b k i) := by (first | rw [if_pos (by omega)] | rw [if_neg (by omega)])
              have hs0 := mdr_no (σ := σ) (b := b) (k := k) h0 hv
              refine lv_istore (lv' := [(8, .int (kI 0)), (0, .ref (z + 133)), (1, .int (kI b)), (2, .int (kI k)), (5, .int (kI fo)), (6, .int (kI le)), (7, .int (kI i))]) hx hb dX6_draws_101 hl (by decide) rfl (fun ls hl => ?_)
              refine lv_aload_n hx hb dX6_draws_103 rfl (lv_at hl 1 rfl) ?_
              refine lv_iload_n hx hb dX6_draws_104 rfl (lv_at hl 2 rfl) ?_
              refine lv_iload_n hx hb dX6_draws_105 rfl (lv_at hl 3 rfl) ?_
              refine lv_iload hx hb dX6_draws_106 (lv_at hl 6 rfl) ?_
              refine r_callVI ⟨hx, hb, hml, hown, hts⟩ G (k_X6_canGive l (b := b) (k := k) (y := i) (σ := σ) (hk) (⟨by omega, by omega⟩) (hG)) (kV_X6_canGive hts qM_X6_63 ⟨by decide, by decide⟩) (rc_X6 G) rfl rfl hl.1 rfl (Nat.le_of_ble_eq_true rfl) dX6_draws_108 ⟨Nat.le_refl _, Nat.le_refl _⟩ (fun H locs G => ?_)
              refine r_zeq (tgt := 134) hx hb dX6_draws_111 (by decide) (fun h_8 => ?_) (fun h_8 => ?_)
              · skip
                have hs := hs0 (fun h => h_8 h.1)
                refine r_iinc (lv' := [(7, .int (kI (i + 1))), (8, .int (kI 0)), (0, .ref (z + 133)), (1, .int (kI b)), (2, .int (kI k)), (5, .int (kI fo)), (6, .int (kI le))]) hx hb dX6_draws_134 hl (k := 6) rfl (by decide) rfl (fun ls hl => ?_)
                refine lv_goto (tgt := 66) hx hb dX6_draws_137 (by decide) ?_
                exact ih66 fo le (i + 1) (by omega) (by omega) (by omega) (by omega) (by first | exact hs | (rw [← how] at hs; exact hs)) (by omega) _ _ G _ (lv_sub hl [2, 3, 4, 5, 6, 0] rfl)
              · skip
                have hcg := h_8
                refine lv_iload hx hb dX6_draws_114 (lv_at hl 4 rfl) ?_
                refine r_if_lt (tgt := 126) hx hb ⟨by omega, by omega⟩ dX6_draws_116 (by decide) (fun h_9 => ?_) (fun h_9 => ?_)
                · skip
                  have hs := mdr_yes h0 hv hcg (Or.inl h_9)
                  refine lv_iload hx hb dX6_draws_126 (lv_at hl 6 rfl) ?_
                  refine lv_istore (lv' := [(5, .int (kI i)), (8, .int (kI 0)), (0, .ref (z + 133)), (1, .int (kI b)), (2, .int (kI k)), (6, .int (kI le)), (7, .int (kI i))]) hx hb dX6_draws_128 hl (by decide) rfl (fun ls hl => ?_)
                  refine lv_iload hx hb dX6_draws_130 (lv_at hl 1 rfl) ?_
                  refine lv_istore (lv' := [(6, .int (kI 0)), (5, .int (kI i)), (8, .int (kI 0)), (0, .ref (z + 133)), (1, .int (kI b)), (2, .int (kI k)), (7, .int (kI i))]) hx hb dX6_draws_132 hl (by decide) rfl (fun ls hl => ?_)
                  refine r_iinc (lv' := [(7, .int (kI (i + 1))), (6, .int (kI 0)), (5, .int (kI i)), (8, .int (kI 0)), (0, .ref (z + 133)), (1, .int (kI b)), (2, .int (kI k))]) hx hb dX6_draws_134 hl (k := 6) rfl (by decide) rfl (fun ls hl => ?_)
                  refine lv_goto (tgt := 66) hx hb dX6_draws_137 (by decide) ?_
                  exact ih66 i 0 (i + 1) (by omega) (by omega) (by omega) (by omega) (by first | exact hs | (rw [← how] at hs; exact hs)) (by omega) _ _ G _ (lv_sub hl [4, 5, 6, 2, 1, 0] rfl)
                · skip
                  refine lv_iload hx hb dX6_draws_119 (lv_at hl 0 rfl) ?_
                  refine lv_iload hx hb dX6_draws_121 (lv_at hl 5 rfl) ?_
                  refine r_icmp_ge (tgt := 134) hx hb ⟨by decide, by decide⟩ ⟨by omega, by omega⟩ dX6_draws_123 (by decide) (fun h_10 => ?_) (fun h_10 => ?_)
                  · skip
                    have hs := hs0 (fun h => by omega)
                    refine r_iinc (lv' := [(7, .int (kI (i + 1))), (8, .int (kI 0)), (0, .ref (z + 133)), (1, .int (kI b)), (2, .int (kI k)), (5, .int (kI fo)), (6, .int (kI le))]) hx hb dX6_draws_134 hl (k := 6) rfl (by decide) rfl (fun ls hl => ?_)
                    refine lv_goto (tgt := 66) hx hb dX6_draws_137 (by decide) ?_
                    exact ih66 fo le (i + 1) (by omega) (by omega) (by omega) (by omega) (by first | exact hs | (rw [← how] at hs; exact hs)) (by omega) _ _ G _ (lv_sub hl [2, 3, 4, 5, 6, 0] rfl)
                  · skip
                    have hs := mdr_yes h0 hv hcg (Or.inr (by omega))
                    refine lv_iload hx hb dX6_draws_126 (lv_at hl 6 rfl) ?_
                    refine lv_istore (lv' := [(5, .int (kI i)), (8, .int (kI 0)), (0, .ref (z + 133)), (1, .int (kI b)), (2, .int (kI k)), (6, .int (kI le)), (7, .int (kI i))]) hx hb dX6_draws_128 hl (by decide) rfl (fun ls hl => ?_)
                    refine lv_iload hx hb dX6_draws_130 (lv_at hl 1 rfl) ?_
                    refine lv_istore (lv' := [(6, .int (kI 0)), (5, .int (kI i)), (8, .int (kI 0)), (0, .ref (z + 133)), (1, .int (kI b)), (2, .int (kI k)), (7, .int (kI i))]) hx hb dX6_draws_132 hl (by decide) rfl (fun ls hl => ?_)
                    refine r_iinc (lv' := [(7, .int (kI (i + 1))), (6, .int (kI 0)), (5, .int (kI i)), (8, .int (kI 0)), (0, .ref (z + 133)), (1, .int (kI b)), (2, .int (kI k))]) hx hb dX6_draws_134 hl (k := 6) rfl (by decide) rfl (fun ls hl => ?_)
                    refine lv_goto (tgt := 66) hx hb dX6_draws_137 (by decide) ?_
                    exact ih66 i 0 (i + 1) (by omega) (by omega) (by omega) (by omega) (by first | exact hs | (rw [← how] at hs; exact hs)) (by omega) _ _ G _ (lv_sub hl [4, 5, 6, 2, 1, 0] rfl)
      exact lp66 17 (-1) 0 0 (by omega) (by omega) (by omega) (by omega) (rfl) (by omega) _ _ G _ (lv_sub hl [5, 6, 7, 2, 1, 0] rfl)
    · skip
      refine lv_iload hx hb dX6_draws_45 (lv_at hl 0 rfl) ?_
      refine r_if_lt (tgt := 55) hx hb ⟨by omega, by omega⟩ dX6_draws_47 (by decide) (fun h_11 => ?_) (fun h_11 => ?_)
      · skip
        refine lv_iload_n hx hb dX6_draws_55 rfl (lv_at hl 1 rfl) ?_
        exact r_iret hx hb hr hlk G (by unfold mdr; (repeat' split) <;> omega) (by rfl) dX6_draws_56
      · skip
        refine lv_iload hx hb dX6_draws_50 (lv_at hl 0 rfl) ?_
        refine lv_goto (tgt := 56) hx hb dX6_draws_52 (by decide) ?_
        exact r_iret hx hb hr hlk G (by unfold mdr; (repeat' split) <;> omega) (by rfl) dX6_draws_56
  · skip
    refine lv_iload_n hx hb dX6_draws_24 rfl (lv_at hl 1 rfl) ?_
    refine r_if_lt (tgt := 32) hx hb ⟨by omega, by omega⟩ dX6_draws_25 (by decide) (fun h_12 => ?_) (fun h_12 => ?_)
    · skip
      refine lv_iload hx hb dX6_draws_32 (lv_at hl 0 rfl) ?_
      exact r_iret hx hb hr hlk G (by unfold mdr; (repeat' split) <;> omega) (by rfl) dX6_draws_34
    · skip
      refine lv_iload_n hx hb dX6_draws_28 rfl (lv_at hl 1 rfl) ?_
      refine lv_goto (tgt := 34) hx hb dX6_draws_29 (by decide) ?_
      exact r_iret hx hb hr hlk G (by unfold mdr; (repeat' split) <;> omega) (by rfl) dX6_draws_34
set_option maxRecDepth 100000 in
set_option maxHeartbeats 4000000 in
theorem k_X6_gives (l : Launch) {σ : Mem} {b N k y : Int} (hk : 0 ≤ k ∧ k < 4) (hy : 0 ≤ y ∧ y < 16) (hG : SG σ b N) : CtV l yX6_gives (Cond.code yX6_gives cX6_gives 5 none) 3 73 (fun z => [.ref (z + 133), .int (kI b), .int (kI k), .int (kI y)]) σ (mgiv σ b k y) := by
  intro D T z
  refine Ct_of (by decide) (Nat.le_of_ble_eq_true rfl) ?_
  intro p e s m below meth c ls hx hb hml hr hts hown hlk G hl
  have hown : s.vm.findClass RX6 = some m.cls := hown
  have hl : lv_has ls 5 [(0, .ref (z + 133)), (1, .int (kI b)), (2, .int (kI k)), (3, .int (kI y))] := hl
  have hb0 := hG.1
  have hkd := hG.kd hk
  have hky := hG.ky hk hy
  refine lv_iload_n hx hb dX6_gives_0 rfl (lv_at hl 1 rfl) ?_
  refine lv_iload_n hx hb dX6_gives_1 rfl (lv_at hl 2 rfl) ?_
  refine lv_iload_n hx hb dX6_gives_2 rfl (lv_at hl 3 rfl) ?_
  refine r_callSI ⟨hx, hb, hml, hown, hts⟩ G (k_X6_keyAt l (b := b) (k := k) (y := y) (σ := σ) ) (kS_X6_keyAt hts qM_X6_40 ⟨by decide, by decide⟩) rfl rfl hl.1 rfl (Nat.le_of_ble_eq_true rfl) dX6_gives_3 ⟨Nat.le_refl _, Nat.le_refl _⟩ (fun H locs G => ?_)
  refine lv_istore (lv' := [(4, .int (kI (b + 8 + 3 * (16 * k + y)))), (0, .ref (z + 133)), (1, .int (kI b)), (2, .int (kI k)), (3, .int (kI y))]) hx hb dX6_gives_6 hl (by decide) rfl (fun ls hl => ?_)
  refine lv_aload_n hx hb dX6_gives_8 rfl (lv_at hl 1 rfl) ?_
  refine gf_X6_7 hx hb hts hown G dX6_gives_9 ?_
  refine lv_iload hx hb dX6_gives_12 (lv_at hl 0 rfl) ?_
  refine r_iald hx hb G 134 (by decide) (N := 2910) (fun _ => rfl) (by omega) (by omega) (by decide) dX6_gives_14 ?_
  refine r_top (b := mS σ b k y) (rfl) ?_
  refine r_iconst hx hb dX6_gives_15 ?_
  refine r_icmp_ne (tgt := 26) hx hb ⟨by omega, by omega⟩ ⟨by decide, by decide⟩ dX6_gives_16 (by decide) (fun h_1 => ?_) (fun h_1 => ?_)
  · skip
    have G := G.cong (τ := mgv0 σ b k y) (by unfold mgv0; rw [if_neg h_1])
    refine lv_aload_n hx hb dX6_gives_26 rfl (lv_at hl 1 rfl) ?_
    refine gf_X6_7 hx hb hts hown G dX6_gives_27 ?_
    refine lv_iload hx hb dX6_gives_30 (lv_at hl 0 rfl) ?_
    refine r_iconst hx hb dX6_gives_32 ?_
    refine r_iast hx hb G 134 (by decide) (N := 2910) (fun _ => rfl) (by omega) (by omega) (by decide) dX6_gives_33 (fun H locs G => ?_)
    refine lv_aload_n hx hb dX6_gives_34 rfl (lv_at hl 1 rfl) ?_
    refine gf_X6_7 hx hb hts hown G dX6_gives_35 ?_
    refine lv_iload hx hb dX6_gives_38 (lv_at hl 0 rfl) ?_
    refine r_iconst hx hb dX6_gives_40 ?_
    refine r_iadd hx hb dX6_gives_41 ?_
    refine lv_dup2_11 hx hb dX6_gives_42 rfl rfl ?_
    refine r_iald hx hb G 134 (by decide) (N := 2910) (fun _ => rfl) (by omega) (by omega) (by decide) dX6_gives_43 ?_
    refine r_top (b := mR σ b k y) (by rw [up_ap, if_neg (by omega), mgv0_o hk hkd.2 (by omega) (by omega)]; rfl) ?_
    refine r_iconst hx hb dX6_gives_44 ?_
    refine r_iadd hx hb dX6_gives_45 ?_
    refine r_iast hx hb G 134 (by decide) (N := 2910) (fun _ => rfl) (by omega) (by omega) (by decide) dX6_gives_46 (fun H locs G => ?_)
    refine lv_aload_n hx hb dX6_gives_47 rfl (lv_at hl 1 rfl) ?_
    refine gf_X6_7 hx hb hts hown G dX6_gives_48 ?_
    refine lv_iload_n hx hb dX6_gives_51 rfl (lv_at hl 2 rfl) ?_
    refine r_sipush hx hb dX6_gives_52 (by decide +kernel) ?_
    refine r_iadd hx hb dX6_gives_55 ?_
    refine lv_iload_n hx hb dX6_gives_56 rfl (lv_at hl 3 rfl) ?_
    refine r_iadd hx hb dX6_gives_57 ?_
    refine lv_dup2_11 hx hb dX6_gives_58 rfl rfl ?_
    refine r_iald hx hb G 134 (by decide) (N := 2910) (fun _ => rfl) (by omega) (by omega) (by decide) dX6_gives_59 ?_
    refine r_top (b := σ 134 (b + 268 + k)) (by rw [up_ap, if_neg (by omega), up_ap, if_neg (by omega), mgv0_o hk hkd.2 (by omega) (by omega)]) ?_
    refine r_iconst hx hb dX6_gives_60 ?_
    refine r_iadd hx hb dX6_gives_61 ?_
    refine r_topk (b := wr (σ 134 (b + 268 + k) + 1)) (kI_wr _).symm ?_
    refine r_iast hx hb G 134 (by decide) (N := 2910) (fun _ => rfl) (by omega) (by omega) (by decide) dX6_gives_62 (fun H locs G => ?_)
    exact r_vret hx hb hr hlk G (by rfl) dX6_gives_63
  · skip
    have hq := h_1
    refine lv_aload_n hx hb dX6_gives_19 rfl (lv_at hl 1 rfl) ?_
    refine lv_iload_n hx hb dX6_gives_20 rfl (lv_at hl 2 rfl) ?_
    refine lv_iload_n hx hb dX6_gives_21 rfl (lv_at hl 3 rfl) ?_
    refine lv_iload_n hx hb dX6_gives_22 rfl (lv_at hl 4 rfl) ?_
    refine r_callVV ⟨hx, hb, hml, hown, hts⟩ G (k_X6_takes l (b := b) (k := k) (y := y) (σ := σ) (hk) (hy) (hG)) (kV_X6_takes hts qM_X6_66 ⟨by decide, by decide⟩) (rc_X6 G) rfl rfl hl.1 rfl (Nat.le_of_ble_eq_true rfl) dX6_gives_23 ⟨Nat.le_refl _, Nat.le_refl _⟩ (fun H locs G => ?_)
    have G := G.cong (τ := mgv0 σ b k y) (by unfold mgv0; rw [if_pos hq])
    refine lv_aload_n hx hb dX6_gives_26 rfl (lv_at hl 1 rfl) ?_
    refine gf_X6_7 hx hb hts hown G dX6_gives_27 ?_
    refine lv_iload hx hb dX6_gives_30 (lv_at hl 0 rfl) ?_
    refine r_iconst hx hb dX6_gives_32 ?_
    refine r_iast hx hb G 134 (by decide) (N := 2910) (fun _ => rfl) (by omega) (by omega) (by decide) dX6_gives_33 (fun H locs G => ?_)
    refine lv_aload_n hx hb dX6_gives_34 rfl (lv_at hl 1 rfl) ?_
    refine gf_X6_7 hx hb hts hown G dX6_gives_35 ?_
    refine lv_iload hx hb dX6_gives_38 (lv_at hl 0 rfl) ?_
    refine r_iconst hx hb dX6_gives_40 ?_
    refine r_iadd hx hb dX6_gives_41 ?_
    refine lv_dup2_11 hx hb dX6_gives_42 rfl rfl ?_
    refine r_iald hx hb G 134 (by decide) (N := 2910) (fun _ => rfl) (by omega) (by omega) (by decide) dX6_gives_43 ?_
    refine r_top (b := mR σ b k y) (by rw [up_ap, if_neg (by omega), mgv0_o hk hkd.2 (by omega) (by omega)]; rfl) ?_
    refine r_iconst hx hb dX6_gives_44 ?_
    refine r_iadd hx hb dX6_gives_45 ?_
    refine r_iast hx hb G 134 (by decide) (N := 2910) (fun _ => rfl) (by omega) (by omega) (by decide) dX6_gives_46 (fun H locs G => ?_)
    refine lv_aload_n hx hb dX6_gives_47 rfl (lv_at hl 1 rfl) ?_
    refine gf_X6_7 hx hb hts hown G dX6_gives_48 ?_
    refine lv_iload_n hx hb dX6_gives_51 rfl (lv_at hl 2 rfl) ?_
    refine r_sipush hx hb dX6_gives_52 (by decide +kernel) ?_
    refine r_iadd hx hb dX6_gives_55 ?_
    refine lv_iload_n hx hb dX6_gives_56 rfl (lv_at hl 3 rfl) ?_
    refine r_iadd hx hb dX6_gives_57 ?_
    refine lv_dup2_11 hx hb dX6_gives_58 rfl rfl ?_
    refine r_iald hx hb G 134 (by decide) (N := 2910) (fun _ => rfl) (by omega) (by omega) (by decide) dX6_gives_59 ?_
    refine r_top (b := σ 134 (b + 268 + k)) (by rw [up_ap, if_neg (by omega), up_ap, if_neg (by omega), mgv0_o hk hkd.2 (by omega) (by omega)]) ?_
    refine r_iconst hx hb dX6_gives_60 ?_
    refine r_iadd hx hb dX6_gives_61 ?_
    refine r_topk (b := wr (σ 134 (b + 268 + k) + 1)) (kI_wr _).symm ?_
    refine r_iast hx hb G 134 (by decide) (N := 2910) (fun _ => rfl) (by omega) (by omega) (by decide) dX6_gives_62 (fun H locs G => ?_)
    exact r_vret hx hb hr hlk G (by rfl) dX6_gives_63
set_option maxRecDepth 100000 in
set_option maxHeartbeats 4000000 in
theorem k_X6_without (l : Launch) {σ : Mem} {k q : Int} (hk : 0 ≤ k ∧ k < 4) (hq : inR q) : CtI l yX6_without (Cond.code yX6_without cX6_without 3 (some .int)) 0 0 (fun z => [.ref (z + 133), .int (kI k), .int (kI q)]) σ (100 + q) (mwo σ k q) := by
  intro D T z
  refine Ct_of (by decide) (Nat.le_of_ble_eq_true rfl) ?_
  intro p e s m below meth c ls hx hb hml hr hts hown hlk G hl
  have hown : s.vm.findClass RX6 = some m.cls := hown
  have hl : lv_has ls 3 [(0, .ref (z + 133)), (1, .int (kI k)), (2, .int (kI q))] := hl
  refine lv_aload_n hx hb dX6_without_0 rfl (lv_at hl 0 rfl) ?_
  refine gf_X6_7 hx hb hts hown G dX6_without_1 ?_
  refine r_sipush hx hb dX6_without_4 (by decide +kernel) ?_
  refine lv_iload_n hx hb dX6_without_7 rfl (lv_at hl 1 rfl) ?_
  refine r_iadd hx hb dX6_without_8 ?_
  refine lv_dup2_11 hx hb dX6_without_9 rfl rfl ?_
  refine r_iald hx hb G 134 (by decide) (N := 2910) (fun _ => rfl) (by omega) (by omega) (by decide) dX6_without_10 ?_
  refine r_iconst hx hb dX6_without_11 ?_
  refine r_iadd hx hb dX6_without_12 ?_
  refine r_topk (b := wr (σ 134 (276 + k) + 1)) (kI_wr _).symm ?_
  refine r_iast hx hb G 134 (by decide) (N := 2910) (fun _ => rfl) (by omega) (by omega) (by decide) dX6_without_13 (fun H locs G => ?_)
  refine lv_aload_n hx hb dX6_without_14 rfl (lv_at hl 0 rfl) ?_
  refine gf_X6_7 hx hb hts hown G dX6_without_15 ?_
  refine r_sipush hx hb dX6_without_18 (by decide +kernel) ?_
  refine lv_iload_n hx hb dX6_without_21 rfl (lv_at hl 1 rfl) ?_
  refine r_iadd hx hb dX6_without_22 ?_
  refine lv_dup2_11 hx hb dX6_without_23 rfl rfl ?_
  refine r_iald hx hb G 134 (by decide) (N := 2910) (fun _ => rfl) (by omega) (by omega) (by decide) dX6_without_24 ?_
  refine r_top (b := σ 134 (280 + k)) (by rw [up_ap, if_neg (by omega)]) ?_
  refine lv_iload_n hx hb dX6_without_25 rfl (lv_at hl 2 rfl) ?_
  refine r_iconst hx hb dX6_without_26 ?_
  refine r_icmp_eq (tgt := 35) hx hb ⟨by omega, by omega⟩ ⟨by decide, by decide⟩ dX6_without_27 (by decide) (fun h_1 => ?_) (fun h_1 => ?_)
  · skip
    refine r_iconst hx hb dX6_without_35 ?_
    refine lv_goto (tgt := 40) hx hb dX6_without_36 (by decide) ?_
    refine r_iadd hx hb dX6_without_40 ?_
    refine r_topk (b := wr (σ 134 (280 + k) + bz (q = 2 ∨ q = 5))) (by first | exact k_bz1 (by omega) | exact k_bz0 (by omega)) ?_
    refine r_iast hx hb G 134 (by decide) (N := 2910) (fun _ => rfl) (by omega) (by omega) (by decide) dX6_without_41 (fun H locs G => ?_)
    refine r_bipush hx hb dX6_without_42 (by decide +kernel) ?_
    refine lv_iload_n hx hb dX6_without_44 rfl (lv_at hl 2 rfl) ?_
    refine r_iadd hx hb dX6_without_45 ?_
    exact r_iret hx hb hr hlk G (by first | rfl | omega) (by rfl) dX6_without_46
  · skip
    refine lv_iload_n hx hb dX6_without_30 rfl (lv_at hl 2 rfl) ?_
    refine r_iconst hx hb dX6_without_31 ?_
    refine r_icmp_ne (tgt := 39) hx hb ⟨by omega, by omega⟩ ⟨by decide, by decide⟩ dX6_without_32 (by decide) (fun h_2 => ?_) (fun h_2 => ?_)
    · skip
      refine r_iconst hx hb dX6_without_39 ?_
      refine r_iadd hx hb dX6_without_40 ?_
      refine r_topk (b := wr (σ 134 (280 + k) + bz (q = 2 ∨ q = 5))) (by first | exact k_bz1 (by omega) | exact k_bz0 (by omega)) ?_
      refine r_iast hx hb G 134 (by decide) (N := 2910) (fun _ => rfl) (by omega) (by omega) (by decide) dX6_without_41 (fun H locs G => ?_)
      refine r_bipush hx hb dX6_without_42 (by decide +kernel) ?_
      refine lv_iload_n hx hb dX6_without_44 rfl (lv_at hl 2 rfl) ?_
      refine r_iadd hx hb dX6_without_45 ?_
      exact r_iret hx hb hr hlk G (by first | rfl | omega) (by rfl) dX6_without_46
    · skip
      refine r_iconst hx hb dX6_without_35 ?_
      refine lv_goto (tgt := 40) hx hb dX6_without_36 (by decide) ?_
      refine r_iadd hx hb dX6_without_40 ?_
      refine r_topk (b := wr (σ 134 (280 + k) + bz (q = 2 ∨ q = 5))) (by first | exact k_bz1 (by omega) | exact k_bz0 (by omega)) ?_
      refine r_iast hx hb G 134 (by decide) (N := 2910) (fun _ => rfl) (by omega) (by omega) (by decide) dX6_without_41 (fun H locs G => ?_)
      refine r_bipush hx hb dX6_without_42 (by decide +kernel) ?_
      refine lv_iload_n hx hb dX6_without_44 rfl (lv_at hl 2 rfl) ?_
      refine r_iadd hx hb dX6_without_45 ?_
      exact r_iret hx hb hr hlk G (by first | rfl | omega) (by rfl) dX6_without_46
set_option maxRecDepth 100000 in
set_option maxHeartbeats 4000000 in
theorem k_X6_reason (l : Launch) {σ : Mem} {N k : Int} (hk : 0 ≤ k ∧ k < 4) (hG : SG σ 0 N) : CtI l yX6_reason (Cond.code yX6_reason cX6_reason 2 (some .int)) 0 0 (fun z => [.ref (z + 133), .int (kI k)]) σ (rsn σ k) σ := by
  intro D T z
  refine Ct_of (by decide) (Nat.le_of_ble_eq_true rfl) ?_
  intro p e s m below meth c ls hx hb hml hr hts hown hlk G hl
  have hown : s.vm.findClass RX6 = some m.cls := hown
  have hl : lv_has ls 2 [(0, .ref (z + 133)), (1, .int (kI k))] := hl
  have hkd := hG.kd hk
  refine lv_aload_n hx hb dX6_reason_0 rfl (lv_at hl 0 rfl) ?_
  refine gf_X6_7 hx hb hts hown G dX6_reason_1 ?_
  refine r_sipush hx hb dX6_reason_4 (by decide +kernel) ?_
  refine lv_iload_n hx hb dX6_reason_7 rfl (lv_at hl 1 rfl) ?_
  refine r_iadd hx hb dX6_reason_8 ?_
  refine r_iald hx hb G 134 (by decide) (N := 2910) (fun _ => rfl) (by omega) (by omega) (by decide) dX6_reason_9 ?_
  refine r_top (b := mL σ 0 k) (z264) ?_
  refine r_if_ne (tgt := 17) hx hb ⟨by omega, by omega⟩ dX6_reason_10 (by decide) (fun h_1 => ?_) (fun h_1 => ?_)
  · skip
    refine r_iconst hx hb dX6_reason_17 ?_
    exact r_iret hx hb hr hlk G (by unfold rsn; first | rw [if_pos (by omega)] | rw [if_neg (by omega)]) (by rfl) dX6_reason_18
  · skip
    refine r_iconst hx hb dX6_reason_13 ?_
    refine lv_goto (tgt := 18) hx hb dX6_reason_14 (by decide) ?_
    exact r_iret hx hb hr hlk G (by unfold rsn; first | rw [if_pos (by omega)] | rw [if_neg (by omega)]) (by rfl) dX6_reason_18
set_option maxRecDepth 100000 in
set_option maxHeartbeats 4000000 in
theorem k_X6_asks (l : Launch) {σ : Mem} {N k : Int} (hk : 0 ≤ k ∧ k < 4) (hG : SG σ 0 N) : CtI l yX6_asks (Cond.code yX6_asks cX6_asks 3 (some .int)) 5 121 (fun z => [.ref (z + 133), .int (kI k)]) σ (mas σ k) (masM σ k) := by
  intro D T z
  refine Ct_of (by decide) (Nat.le_of_ble_eq_true rfl) ?_
  intro p e s m below meth c ls hx hb hml hr hts hown hlk G hl
  have hown : s.vm.findClass RX6 = some m.cls := hown
  have hl : lv_has ls 3 [(0, .ref (z + 133)), (1, .int (kI k))] := hl
  have hdr := mdr_rg hG hk
  have hrs : 1 ≤ rsn σ k ∧ rsn σ k ≤ 2 := by unfold rsn; split <;> omega
  refine lv_aload_n hx hb dX6_asks_0 rfl (lv_at hl 0 rfl) ?_
  refine r_iconst hx hb dX6_asks_1 ?_
  refine lv_iload_n hx hb dX6_asks_2 rfl (lv_at hl 1 rfl) ?_
  refine r_callVI ⟨hx, hb, hml, hown, hts⟩ G (k_X6_draws l (b := 0) (k := k) (σ := σ) (hk) (hG)) (kV_X6_draws hts qM_X6_70 ⟨by decide, by decide⟩) (rc_X6 G) rfl rfl hl.1 rfl (Nat.le_of_ble_eq_true rfl) dX6_asks_3 ⟨Nat.le_refl _, Nat.le_refl _⟩ (fun H locs G => ?_)
  refine lv_istore_n (lv' := [(2, .int (kI (mdr σ 0 k))), (0, .ref (z + 133)), (1, .int (kI k))]) hx hb dX6_asks_6 rfl hl (by decide) rfl (fun ls hl => ?_)
  refine lv_iload_n hx hb dX6_asks_7 rfl (lv_at hl 0 rfl) ?_
  refine r_if_ge (tgt := 22) hx hb ⟨by omega, by omega⟩ dX6_asks_8 (by decide) (fun h_1 => ?_) (fun h_1 => ?_)
  · skip
    refine lv_aload_n hx hb dX6_asks_22 rfl (lv_at hl 1 rfl) ?_
    refine r_iconst hx hb dX6_asks_23 ?_
    refine lv_iload_n hx hb dX6_asks_24 rfl (lv_at hl 2 rfl) ?_
    refine lv_iload_n hx hb dX6_asks_25 rfl (lv_at hl 0 rfl) ?_
    refine r_callVV ⟨hx, hb, hml, hown, hts⟩ G (k_X6_gives l (b := 0) (k := k) (y := mdr σ 0 k) (σ := σ) (N := N) (hk) (⟨by omega, by omega⟩) (hG)) (kV_X6_gives hts qM_X6_80 ⟨by decide, by decide⟩) (rc_X6 G) rfl rfl hl.1 rfl (Nat.le_of_ble_eq_true rfl) dX6_asks_26 ⟨Nat.le_refl _, Nat.le_refl _⟩ (fun H locs G => ?_)
    refine lv_iload_n hx hb dX6_asks_29 rfl (lv_at hl 0 rfl) ?_
    exact r_iret hx hb hr hlk G (by unfold mas; first | rw [if_pos (by omega)] | rw [if_neg (by omega)]) (by unfold masM; first | rw [if_pos (by omega)] | rw [if_neg (by omega)]) dX6_asks_30
  · skip
    refine lv_aload_n hx hb dX6_asks_11 rfl (lv_at hl 1 rfl) ?_
    refine lv_iload_n hx hb dX6_asks_12 rfl (lv_at hl 2 rfl) ?_
    refine lv_aload_n hx hb dX6_asks_13 rfl (lv_at hl 1 rfl) ?_
    refine lv_iload_n hx hb dX6_asks_14 rfl (lv_at hl 2 rfl) ?_
    refine r_callVI ⟨hx, hb, hml, hown, hts⟩ G (k_X6_reason l (k := k) (σ := σ) (hk) (hG)) (kV_X6_reason hts qM_X6_73 ⟨by decide, by decide⟩) (rc_X6 G) rfl rfl hl.1 rfl (Nat.le_of_ble_eq_true rfl) dX6_asks_15 ⟨Nat.le_refl _, Nat.le_refl _⟩ (fun H locs G => ?_)
    refine r_callVI ⟨hx, hb, hml, hown, hts⟩ G (k_X6_without l (k := k) (q := rsn σ k) (σ := σ) (hk) (⟨by omega, by omega⟩)) (kV_X6_without hts qM_X6_77 ⟨by decide, by decide⟩) (rc_X6 G) rfl rfl hl.1 rfl (Nat.le_of_ble_eq_true rfl) dX6_asks_18 ⟨Nat.le_refl _, Nat.le_refl _⟩ (fun H locs G => ?_)
    exact r_iret hx hb hr hlk G (by unfold mas; first | rw [if_pos (by omega)] | rw [if_neg (by omega)]) (by unfold masM; first | rw [if_pos (by omega)] | rw [if_neg (by omega)]) dX6_asks_21
set_option maxRecDepth 100000 in
set_option maxHeartbeats 4000000 in
theorem k_X6_wants (l : Launch) {σ : Mem} {N k y : Int} (hk : 0 ≤ k ∧ k < 4) (hy : 0 ≤ y ∧ y < 16) (hG : SG σ 0 N) : CtI l yX6_wants (Cond.code yX6_wants cX6_wants 4 (some .int)) 4 97 (fun z => [.ref (z + 133), .int (kI k), .int (kI y)]) σ (mwa σ k y) (mwaM σ k y) := by
  intro D T z
  refine Ct_of (by decide) (Nat.le_of_ble_eq_true rfl) ?_
  intro p e s m below meth c ls hx hb hml hr hts hown hlk G hl
  have hown : s.vm.findClass RX6 = some m.cls := hown
  have hl : lv_has ls 4 [(0, .ref (z + 133)), (1, .int (kI k)), (2, .int (kI y))] := hl
  have hkd := hG.kd hk
  have hky := hG.ky hk hy
  refine r_iconst hx hb dX6_wants_0 ?_
  refine lv_iload_n hx hb dX6_wants_1 rfl (lv_at hl 1 rfl) ?_
  refine lv_iload_n hx hb dX6_wants_2 rfl (lv_at hl 2 rfl) ?_
  refine r_callSI ⟨hx, hb, hml, hown, hts⟩ G (k_X6_keyAt l (b := 0) (k := k) (y := y) (σ := σ) ) (kS_X6_keyAt hts qM_X6_40 ⟨by decide, by decide⟩) rfl rfl hl.1 rfl (Nat.le_of_ble_eq_true rfl) dX6_wants_3 ⟨Nat.le_refl _, Nat.le_refl _⟩ (fun H locs G => ?_)
  refine lv_istore_n (lv' := [(3, .int (kI (0 + 8 + 3 * (16 * k + y)))), (0, .ref (z + 133)), (1, .int (kI k)), (2, .int (kI y))]) hx hb dX6_wants_6 rfl hl (by decide) rfl (fun ls hl => ?_)
  refine lv_aload_n hx hb dX6_wants_7 rfl (lv_at hl 1 rfl) ?_
  refine r_iconst hx hb dX6_wants_8 ?_
  refine lv_iload_n hx hb dX6_wants_9 rfl (lv_at hl 2 rfl) ?_
  refine lv_iload_n hx hb dX6_wants_10 rfl (lv_at hl 3 rfl) ?_
  refine r_callVI ⟨hx, hb, hml, hown, hts⟩ G (k_X6_canGive l (b := 0) (k := k) (y := y) (σ := σ) (hk) (hy) (hG)) (kV_X6_canGive hts qM_X6_63 ⟨by decide, by decide⟩) (rc_X6 G) rfl rfl hl.1 rfl (Nat.le_of_ble_eq_true rfl) dX6_wants_11 ⟨Nat.le_refl _, Nat.le_refl _⟩ (fun H locs G => ?_)
  refine r_zne (tgt := 52) hx hb dX6_wants_14 (by decide) (fun h_1 => ?_) (fun h_1 => ?_)
  · skip
    have hcg := h_1
    refine lv_aload_n hx hb dX6_wants_52 rfl (lv_at hl 1 rfl) ?_
    refine r_iconst hx hb dX6_wants_53 ?_
    refine lv_iload_n hx hb dX6_wants_54 rfl (lv_at hl 2 rfl) ?_
    refine lv_iload_n hx hb dX6_wants_55 rfl (lv_at hl 3 rfl) ?_
    refine r_callVV ⟨hx, hb, hml, hown, hts⟩ G (k_X6_gives l (b := 0) (k := k) (y := y) (σ := σ) (hk) (hy) (hG)) (kV_X6_gives hts qM_X6_80 ⟨by decide, by decide⟩) (rc_X6 G) rfl rfl hl.1 rfl (Nat.le_of_ble_eq_true rfl) dX6_wants_56 ⟨Nat.le_refl _, Nat.le_refl _⟩ (fun H locs G => ?_)
    refine lv_aload_n hx hb dX6_wants_59 rfl (lv_at hl 1 rfl) ?_
    refine gf_X6_7 hx hb hts hown G dX6_wants_60 ?_
    refine lv_iload_n hx hb dX6_wants_63 rfl (lv_at hl 0 rfl) ?_
    refine r_iconst hx hb dX6_wants_64 ?_
    refine r_iadd hx hb dX6_wants_65 ?_
    refine r_iald hx hb G 134 (by decide) (N := 2910) (fun _ => rfl) (by omega) (by omega) (by decide) dX6_wants_66 ?_
    refine r_top (b := mR σ 0 k y + 1) (by unfold mgiv; rw [up_ap, if_neg (by omega), up_ap, if_pos ⟨rfl, rfl⟩]) ?_
    exact r_iret hx hb hr hlk G (by unfold mwa; first | rw [if_pos hcg] | rw [if_neg hcg]) (by unfold mwaM; first | rw [if_pos hcg] | rw [if_neg hcg]) dX6_wants_67
  · skip
    have hcg := h_1
    refine lv_aload_n hx hb dX6_wants_17 rfl (lv_at hl 1 rfl) ?_
    refine lv_iload_n hx hb dX6_wants_18 rfl (lv_at hl 2 rfl) ?_
    refine lv_aload_n hx hb dX6_wants_19 rfl (lv_at hl 1 rfl) ?_
    refine gf_X6_7 hx hb hts hown G dX6_wants_20 ?_
    refine lv_iload_n hx hb dX6_wants_23 rfl (lv_at hl 0 rfl) ?_
    refine r_iald hx hb G 134 (by decide) (N := 2910) (fun _ => rfl) (by omega) (by omega) (by decide) dX6_wants_24 ?_
    refine r_top (b := mS σ 0 k y) (rfl) ?_
    refine r_iconst hx hb dX6_wants_25 ?_
    refine r_icmp_ne (tgt := 33) hx hb ⟨by omega, by omega⟩ ⟨by decide, by decide⟩ dX6_wants_26 (by decide) (fun h_2 => ?_) (fun h_2 => ?_)
    · skip
      refine lv_aload_n hx hb dX6_wants_33 rfl (lv_at hl 1 rfl) ?_
      refine gf_X6_7 hx hb hts hown G dX6_wants_34 ?_
      refine lv_iload_n hx hb dX6_wants_37 rfl (lv_at hl 0 rfl) ?_
      refine r_iald hx hb G 134 (by decide) (N := 2910) (fun _ => rfl) (by omega) (by omega) (by decide) dX6_wants_38 ?_
      refine r_top (b := mS σ 0 k y) (rfl) ?_
      refine r_iconst hx hb dX6_wants_39 ?_
      refine r_icmp_ne (tgt := 47) hx hb ⟨by omega, by omega⟩ ⟨by decide, by decide⟩ dX6_wants_40 (by decide) (fun h_3 => ?_) (fun h_3 => ?_)
      · skip
        refine r_iconst hx hb dX6_wants_47 ?_
        have hw : 5 = mwq σ k y := by unfold mwq; (repeat' split) <;> omega
        refine r_top (b := mwq σ k y) hw ?_
        have hwr : 3 ≤ mwq σ k y ∧ mwq σ k y ≤ 5 := by unfold mwq; (repeat' split) <;> omega
        refine r_callVI ⟨hx, hb, hml, hown, hts⟩ G (k_X6_without l (k := k) (q := mwq σ k y) (σ := σ) (hk) (⟨by omega, by omega⟩)) (kV_X6_without hts qM_X6_77 ⟨by decide, by decide⟩) (rc_X6 G) rfl rfl hl.1 rfl (Nat.le_of_ble_eq_true rfl) dX6_wants_48 ⟨Nat.le_refl _, Nat.le_refl _⟩ (fun H locs G => ?_)
        exact r_iret hx hb hr hlk G (by unfold mwa; first | rw [if_pos hcg] | rw [if_neg hcg]) (by unfold mwaM; first | rw [if_pos hcg] | rw [if_neg hcg]) dX6_wants_51
      · skip
        refine r_iconst hx hb dX6_wants_43 ?_
        refine lv_goto (tgt := 48) hx hb dX6_wants_44 (by decide) ?_
        have hw : 4 = mwq σ k y := by unfold mwq; (repeat' split) <;> omega
        refine r_top (b := mwq σ k y) hw ?_
        have hwr : 3 ≤ mwq σ k y ∧ mwq σ k y ≤ 5 := by unfold mwq; (repeat' split) <;> omega
        refine r_callVI ⟨hx, hb, hml, hown, hts⟩ G (k_X6_without l (k := k) (q := mwq σ k y) (σ := σ) (hk) (⟨by omega, by omega⟩)) (kV_X6_without hts qM_X6_77 ⟨by decide, by decide⟩) (rc_X6 G) rfl rfl hl.1 rfl (Nat.le_of_ble_eq_true rfl) dX6_wants_48 ⟨Nat.le_refl _, Nat.le_refl _⟩ (fun H locs G => ?_)
        exact r_iret hx hb hr hlk G (by unfold mwa; first | rw [if_pos hcg] | rw [if_neg hcg]) (by unfold mwaM; first | rw [if_pos hcg] | rw [if_neg hcg]) dX6_wants_51
    · skip
      refine r_iconst hx hb dX6_wants_29 ?_
      refine lv_goto (tgt := 48) hx hb dX6_wants_30 (by decide) ?_
      have hw : 3 = mwq σ k y := by unfold mwq; (repeat' split) <;> omega
      refine r_top (b := mwq σ k y) hw ?_
      have hwr : 3 ≤ mwq σ k y ∧ mwq σ k y ≤ 5 := by unfold mwq; (repeat' split) <;> omega
      refine r_callVI ⟨hx, hb, hml, hown, hts⟩ G (k_X6_without l (k := k) (q := mwq σ k y) (σ := σ) (hk) (⟨by omega, by omega⟩)) (kV_X6_without hts qM_X6_77 ⟨by decide, by decide⟩) (rc_X6 G) rfl rfl hl.1 rfl (Nat.le_of_ble_eq_true rfl) dX6_wants_48 ⟨Nat.le_refl _, Nat.le_refl _⟩ (fun H locs G => ?_)
      exact r_iret hx hb hr hlk G (by unfold mwa; first | rw [if_pos hcg] | rw [if_neg hcg]) (by unfold mwaM; first | rw [if_pos hcg] | rw [if_neg hcg]) dX6_wants_51
set_option maxRecDepth 100000 in
set_option maxHeartbeats 4000000 in
theorem k_X6_isAlive (l : Launch) {σ : Mem} {N k y : Int} (hk : 0 ≤ k ∧ k < 4) (hy : 0 ≤ y ∧ y < 16) (hG : SG σ 0 N) : CtI l yX6_isAlive (Cond.code yX6_isAlive cX6_isAlive 3 (some .boolean)) 1 22 (fun z => [.ref (z + 133), .int (kI k), .int (kI y)]) σ (bz (mS σ 0 k y = 1)) σ := by
  intro D T z
  refine Ct_of (by decide) (Nat.le_of_ble_eq_true rfl) ?_
  intro p e s m below meth c ls hx hb hml hr hts hown hlk G hl
  have hown : s.vm.findClass RX6 = some m.cls := hown
  have hl : lv_has ls 3 [(0, .ref (z + 133)), (1, .int (kI k)), (2, .int (kI y))] := hl
  have hky := hG.ky hk hy
  refine lv_aload_n hx hb dX6_isAlive_0 rfl (lv_at hl 0 rfl) ?_
  refine gf_X6_7 hx hb hts hown G dX6_isAlive_1 ?_
  refine r_iconst hx hb dX6_isAlive_4 ?_
  refine lv_iload_n hx hb dX6_isAlive_5 rfl (lv_at hl 1 rfl) ?_
  refine lv_iload_n hx hb dX6_isAlive_6 rfl (lv_at hl 2 rfl) ?_
  refine r_callSI ⟨hx, hb, hml, hown, hts⟩ G (k_X6_keyAt l (b := 0) (k := k) (y := y) (σ := σ) ) (kS_X6_keyAt hts qM_X6_40 ⟨by decide, by decide⟩) rfl rfl hl.1 rfl (Nat.le_of_ble_eq_true rfl) dX6_isAlive_7 ⟨Nat.le_refl _, Nat.le_refl _⟩ (fun H locs G => ?_)
  refine r_iald hx hb G 134 (by decide) (N := 2910) (fun _ => rfl) (by omega) (by omega) (by decide) dX6_isAlive_10 ?_
  refine r_top (b := mS σ 0 k y) (rfl) ?_
  refine r_iconst hx hb dX6_isAlive_11 ?_
  refine r_icmp_ne (tgt := 19) hx hb ⟨by omega, by omega⟩ ⟨by decide, by decide⟩ dX6_isAlive_12 (by decide) (fun h_1 => ?_) (fun h_1 => ?_)
  · skip
    refine r_iconst hx hb dX6_isAlive_19 ?_
    exact r_zret hx hb hr hlk G (Or.inl rfl) (by first | exact one_bz (by omega) | exact zero_bz (by omega)) (by rfl) dX6_isAlive_20
  · skip
    refine r_iconst hx hb dX6_isAlive_15 ?_
    refine lv_goto (tgt := 20) hx hb dX6_isAlive_16 (by decide) ?_
    exact r_zret hx hb hr hlk G (Or.inr rfl) (by first | exact one_bz (by omega) | exact zero_bz (by omega)) (by rfl) dX6_isAlive_20
theorem cn_lt {P : Int → Prop} [DecidablePred P] {n y : Int} (h0 : 0 ≤ y) (h1 : y < n) (hP : ¬ P y) : cn P n ≤ n - 1 := by
  obtain ⟨d, rfl⟩ : ∃ d : Nat, n = y + 1 + d := ⟨(n - (y + 1)).toNat, by omega⟩
  clear h1
  induction d with
  | zero =>
    have h2 := cn_s (P := P) h0
    have h3 := cn_rg (P := P) h0
    rw [bz_f hP] at h2
    rw [show y + 1 + ((0 : Nat) : Int) = y + 1 by omega, h2]
    omega
  | succ d ih =>
    have e : y + 1 + ((d + 1 : Nat) : Int) = (y + 1 + d) + 1 := by omega
    have h3 := bz_rg (P := P (y + 1 + d))
    rw [e, cn_s (by omega)]
    omega
theorem SG.not2 {σ : Mem} {b N k y : Int} (h : SG σ b N) (hk : 0 ≤ k ∧ k < 4) (hy : 0 ≤ y ∧ y < 16) (h2 : mS σ b k y ≠ 2) : mL σ b k ≤ 15 := by
  have h1 := (h.pk hk).1
  have h3 := cn_lt (P := fun y => mS σ b k y = 2) (n := 16) hy.1 hy.2 h2
  omega
set_option maxRecDepth 100000 in
set_option maxHeartbeats 4000000 in
theorem k_X6_deletes (l : Launch) {σ : Mem} {N k y : Int} (hk : 0 ≤ k ∧ k < 4) (hy : 0 ≤ y ∧ y < 16) (hA : mS σ 0 k y = 1) (hG : SG σ 0 N) : CtI l yX6_deletes (Cond.code yX6_deletes cX6_deletes 5 (some .int)) 1 23 (fun z => [.ref (z + 133), .int (kI k), .int (kI y)]) σ (bz (mX σ 0 1 ≤ mR σ 0 k y)) (mdl σ k y) := by
  intro D T z
  refine Ct_of (by decide) (Nat.le_of_ble_eq_true rfl) ?_
  intro p e s m below meth c ls hx hb hml hr hts hown hlk G hl
  have hown : s.vm.findClass RX6 = some m.cls := hown
  have hl : lv_has ls 5 [(0, .ref (z + 133)), (1, .int (kI k)), (2, .int (kI y))] := hl
  have hb0 := hG.1
  have hkd := hG.kd hk
  have hky := hG.ky hk hy
  have hdd := hG.d
  have hx1 := hG.x
  have hL15 : mL σ 0 k ≤ 15 := SG.not2 hG hk hy (by omega)
  refine r_iconst hx hb dX6_deletes_0 ?_
  refine lv_iload_n hx hb dX6_deletes_1 rfl (lv_at hl 1 rfl) ?_
  refine lv_iload_n hx hb dX6_deletes_2 rfl (lv_at hl 2 rfl) ?_
  refine r_callSI ⟨hx, hb, hml, hown, hts⟩ G (k_X6_keyAt l (b := 0) (k := k) (y := y) (σ := σ) ) (kS_X6_keyAt hts qM_X6_40 ⟨by decide, by decide⟩) rfl rfl hl.1 rfl (Nat.le_of_ble_eq_true rfl) dX6_deletes_3 ⟨Nat.le_refl _, Nat.le_refl _⟩ (fun H locs G => ?_)
  refine lv_istore_n (lv' := [(3, .int (kI (0 + 8 + 3 * (16 * k + y)))), (0, .ref (z + 133)), (1, .int (kI k)), (2, .int (kI y))]) hx hb dX6_deletes_6 rfl hl (by decide) rfl (fun ls hl => ?_)
  refine lv_aload_n hx hb dX6_deletes_7 rfl (lv_at hl 1 rfl) ?_
  refine gf_X6_7 hx hb hts hown G dX6_deletes_8 ?_
  refine r_sipush hx hb dX6_deletes_11 (by decide +kernel) ?_
  refine lv_iload_n hx hb dX6_deletes_14 rfl (lv_at hl 2 rfl) ?_
  refine r_iadd hx hb dX6_deletes_15 ?_
  refine lv_dup2_11 hx hb dX6_deletes_16 rfl rfl ?_
  refine r_iald hx hb G 134 (by decide) (N := 2910) (fun _ => rfl) (by omega) (by omega) (by decide) dX6_deletes_17 ?_
  refine r_iconst hx hb dX6_deletes_18 ?_
  refine r_iadd hx hb dX6_deletes_19 ?_
  refine r_topk (b := wr (σ 134 (272 + k) + 1)) (kI_wr _).symm ?_
  refine r_iast hx hb G 134 (by decide) (N := 2910) (fun _ => rfl) (by omega) (by omega) (by decide) dX6_deletes_20 (fun H locs G => ?_)
  have G := G.cong (τ := mdl0 σ k) (rfl)
  refine lv_aload_n hx hb dX6_deletes_21 rfl (lv_at hl 1 rfl) ?_
  refine gf_X6_7 hx hb hts hown G dX6_deletes_22 ?_
  refine lv_iload_n hx hb dX6_deletes_25 rfl (lv_at hl 0 rfl) ?_
  refine r_iconst hx hb dX6_deletes_26 ?_
  refine r_iadd hx hb dX6_deletes_27 ?_
  refine r_iald hx hb G 134 (by decide) (N := 2910) (fun _ => rfl) (by omega) (by omega) (by decide) dX6_deletes_28 ?_
  refine r_top (b := mR σ 0 k y) (by unfold mdl0; rw [up_ap, if_neg (by omega)]; rfl) ?_
  refine lv_aload_n hx hb dX6_deletes_29 rfl (lv_at hl 1 rfl) ?_
  refine gf_X6_7 hx hb hts hown G dX6_deletes_30 ?_
  refine r_iconst hx hb dX6_deletes_33 ?_
  refine r_iald hx hb G 134 (by decide) (N := 2910) (fun _ => rfl) (by omega) (by omega) (by decide) dX6_deletes_34 ?_
  refine r_top (b := mX σ 0 1) (by unfold mdl0; rw [up_ap, if_neg (by omega)]; rfl) ?_
  refine r_icmp_lt (tgt := 47) hx hb ⟨by omega, by omega⟩ ⟨by omega, by omega⟩ dX6_deletes_35 (by decide) (fun h_1 => ?_) (fun h_1 => ?_)
  · skip
    refine lv_aload_n hx hb dX6_deletes_47 rfl (lv_at hl 1 rfl) ?_
    refine gf_X6_7 hx hb hts hown G dX6_deletes_48 ?_
    refine lv_iload_n hx hb dX6_deletes_51 rfl (lv_at hl 0 rfl) ?_
    refine r_iconst hx hb dX6_deletes_52 ?_
    refine r_iast hx hb G 134 (by decide) (N := 2910) (fun _ => rfl) (by omega) (by omega) (by decide) dX6_deletes_53 (fun H locs G => ?_)
    refine lv_aload_n hx hb dX6_deletes_54 rfl (lv_at hl 1 rfl) ?_
    refine gf_X6_7 hx hb hts hown G dX6_deletes_55 ?_
    refine lv_iload_n hx hb dX6_deletes_58 rfl (lv_at hl 0 rfl) ?_
    refine r_iconst hx hb dX6_deletes_59 ?_
    refine r_iadd hx hb dX6_deletes_60 ?_
    refine lv_aload_n hx hb dX6_deletes_61 rfl (lv_at hl 1 rfl) ?_
    refine gf_X6_7 hx hb hts hown G dX6_deletes_62 ?_
    refine r_iconst hx hb dX6_deletes_65 ?_
    refine r_iald hx hb G 134 (by decide) (N := 2910) (fun _ => rfl) (by omega) (by omega) (by decide) dX6_deletes_66 ?_
    refine r_top (b := mD σ 0) (by rw [up_ap, if_neg (by omega)]; unfold mdl0; rw [up_ap, if_neg (by omega)]; rfl) ?_
    refine r_iast hx hb G 134 (by decide) (N := 2910) (fun _ => rfl) (by omega) (by omega) (by decide) dX6_deletes_67 (fun H locs G => ?_)
    have G := G.cong (τ := mdl1 σ k y) (rfl)
    refine lv_aload_n hx hb dX6_deletes_68 rfl (lv_at hl 1 rfl) ?_
    refine gf_X6_7 hx hb hts hown G dX6_deletes_69 ?_
    refine r_sipush hx hb dX6_deletes_72 (by decide +kernel) ?_
    refine lv_iload_n hx hb dX6_deletes_75 rfl (lv_at hl 2 rfl) ?_
    refine r_iadd hx hb dX6_deletes_76 ?_
    refine r_iald hx hb G 134 (by decide) (N := 2910) (fun _ => rfl) (by omega) (by omega) (by decide) dX6_deletes_77 ?_
    refine r_top (b := mL σ 0 k) (by unfold mdl1 mdl0; rw [up_ap, if_neg (by omega), up_ap, if_neg (by omega), up_ap, if_neg (by omega)]; exact z264) ?_
    refine lv_istore (lv' := [(4, .int (kI (mL σ 0 k))), (3, .int (kI (0 + 8 + 3 * (16 * k + y)))), (0, .ref (z + 133)), (1, .int (kI k)), (2, .int (kI y))]) hx hb dX6_deletes_78 hl (by decide) rfl (fun ls hl => ?_)
    have lp80 : ∀ (d : Nat) (i : Int), (0 ≤ i) → (i ≤ mL σ 0 k) → (i : Int) < (d : Int) → ∀ (H : Heap) (locs : List Loc), Wd D T z 139 (shr (mdl1 σ k y) (200 + 16 * k) i (mL σ 0 k)) s H locs → ∀ (ls : Array Slot), lv_has ls 5 [(0, .ref (z + 133)), (1, .int (kI k)), (2, .int (kI y)), (3, .int (kI (0 + 8 + 3 * (16 * k + y)))), (4, .int (kI i))] → W p l e (rmN 1 23) s m ([.ref (z + 133), .int (kI k), .int (kI y)] : List Value).toArray below meth c H locs 0 0 (MQ below (QI D T z 139 (bz (mX σ 0 1 ≤ mR σ 0 k y)) (mdl σ k y)) ([.ref (z + 133), .int (kI k), .int (kI y)] : List Value).toArray s 0 0 (Own z)) (F0 m 80 ls []) := by
      intro d
      induction d with
      | zero => intro i h0 h1 hd; exact absurd hd (by omega)
      | succ d ih80 =>
        intro i h0 h1 hd H locs G ls hl
        refine lv_iload hx hb dX6_deletes_80 (lv_at hl 4 rfl) ?_
        refine r_if_le (tgt := 117) hx hb ⟨by omega, by omega⟩ dX6_deletes_82 (by decide) (fun h_2 => ?_) (fun h_2 => ?_)
        · skip
          have G := G.cong (τ := shr (mdl1 σ k y) (200 + 16 * k) 0 (mL σ 0 k)) (by rw [show i = 0 by omega])
          refine lv_aload_n hx hb dX6_deletes_117 rfl (lv_at hl 0 rfl) ?_
          refine gf_X6_7 hx hb hts hown G dX6_deletes_118 ?_
          refine r_sipush hx hb dX6_deletes_121 (by decide +kernel) ?_
          refine r_bipush hx hb dX6_deletes_124 (by decide +kernel) ?_
          refine lv_iload_n hx hb dX6_deletes_126 rfl (lv_at hl 1 rfl) ?_
          refine r_imul hx hb dX6_deletes_127 ?_
          refine r_iadd hx hb dX6_deletes_128 ?_
          refine lv_iload_n hx hb dX6_deletes_129 rfl (lv_at hl 2 rfl) ?_
          refine r_iast hx hb G 134 (by decide) (N := 2910) (fun _ => rfl) (by omega) (by omega) (by decide) dX6_deletes_130 (fun H locs G => ?_)
          refine lv_aload_n hx hb dX6_deletes_131 rfl (lv_at hl 0 rfl) ?_
          refine gf_X6_7 hx hb hts hown G dX6_deletes_132 ?_
          refine r_sipush hx hb dX6_deletes_135 (by decide +kernel) ?_
          refine lv_iload_n hx hb dX6_deletes_138 rfl (lv_at hl 1 rfl) ?_
          refine r_iadd hx hb dX6_deletes_139 ?_
          refine lv_dup2_11 hx hb dX6_deletes_140 rfl rfl ?_
          refine r_iald hx hb G 134 (by decide) (N := 2910) (fun _ => rfl) (by omega) (by omega) (by decide) dX6_deletes_141 ?_
          refine r_top (b := mL σ 0 k) (by rw [up_ap, if_neg (by omega), shr_at (by omega)]; unfold mdl1 mdl0; rw [up_ap, if_neg (by omega), up_ap, if_neg (by omega), up_ap, if_neg (by omega)]; exact z264) ?_
          refine r_iconst hx hb dX6_deletes_142 ?_
          refine r_iadd hx hb dX6_deletes_143 ?_
          refine r_iast hx hb G 134 (by decide) (N := 2910) (fun _ => rfl) (by omega) (by omega) (by decide) dX6_deletes_144 (fun H locs G => ?_)
          refine r_iconst hx hb dX6_deletes_145 ?_
          exact r_iret hx hb hr hlk G (by first | exact one_bz (by omega) | exact zero_bz (by omega)) (by unfold mdl; rw [if_neg (by omega)]) dX6_deletes_146
        · skip
          refine lv_aload_n hx hb dX6_deletes_85 rfl (lv_at hl 0 rfl) ?_
          refine gf_X6_7 hx hb hts hown G dX6_deletes_86 ?_
          refine r_sipush hx hb dX6_deletes_89 (by decide +kernel) ?_
          refine r_bipush hx hb dX6_deletes_92 (by decide +kernel) ?_
          refine lv_iload_n hx hb dX6_deletes_94 rfl (lv_at hl 1 rfl) ?_
          refine r_imul hx hb dX6_deletes_95 ?_
          refine r_iadd hx hb dX6_deletes_96 ?_
          refine lv_iload hx hb dX6_deletes_97 (lv_at hl 4 rfl) ?_
          refine r_iadd hx hb dX6_deletes_99 ?_
          refine lv_aload_n hx hb dX6_deletes_100 rfl (lv_at hl 0 rfl) ?_
          refine r_iconst hx hb dX6_deletes_101 ?_
          refine lv_iload_n hx hb dX6_deletes_102 rfl (lv_at hl 1 rfl) ?_
          refine lv_iload hx hb dX6_deletes_103 (lv_at hl 4 rfl) ?_
          refine r_iconst hx hb dX6_deletes_105 ?_
          refine r_isub hx hb dX6_deletes_106 ?_
          refine r_callVI ⟨hx, hb, hml, hown, hts⟩ G (k_X6_pileAt l (b := 0) (k := k) (q := i - 1) (σ := shr (mdl1 σ k y) (200 + 16 * k) i (mL σ 0 k)) (hk) (⟨by omega, by omega⟩) (⟨by omega, by omega⟩)) (kV_X6_pileAt hts qM_X6_50 ⟨by decide, by decide⟩) (rc_X6 G) rfl rfl hl.1 rfl (Nat.le_of_ble_eq_true rfl) dX6_deletes_107 ⟨Nat.le_refl _, Nat.le_refl _⟩ (fun H locs G => ?_)
          refine r_top (b := (mdl1 σ k y) 134 (200 + 16 * k + (i - 1))) (by unfold mP; rw [shr_at (by omega)]; exact m_at (by omega)) ?_
          refine r_iast hx hb G 134 (by decide) (N := 2910) (fun _ => rfl) (by omega) (by omega) (by decide) dX6_deletes_110 (fun H locs G => ?_)
          have G := G.cong (τ := shr (mdl1 σ k y) (200 + 16 * k) (i + -1) (mL σ 0 k)) (shr_s (by omega))
          refine r_iinc (lv' := [(4, .int (kI (i + (-1)))), (0, .ref (z + 133)), (1, .int (kI k)), (2, .int (kI y)), (3, .int (kI (0 + 8 + 3 * (16 * k + y))))]) hx hb dX6_deletes_111 hl (k := 4) rfl (by decide) rfl (fun ls hl => ?_)
          refine lv_goto (tgt := 80) hx hb dX6_deletes_114 (by decide) ?_
          exact ih80 (i + (-1)) (by omega) (by omega) (by omega) _ _ G _ (lv_sub hl [1, 2, 3, 4, 0] rfl)
    have G := G.cong (shr_0 (σ := mdl1 σ k y) (a := 200 + 16 * k) (lo := mL σ 0 k)).symm
    exact lp80 17 (mL σ 0 k) (by omega) (by omega) (by omega) _ _ G _ (lv_sub hl [2, 3, 4, 1, 0] rfl)
  · skip
    refine lv_aload_n hx hb dX6_deletes_38 rfl (lv_at hl 1 rfl) ?_
    refine gf_X6_7 hx hb hts hown G dX6_deletes_39 ?_
    refine lv_iload_n hx hb dX6_deletes_42 rfl (lv_at hl 0 rfl) ?_
    refine r_iconst hx hb dX6_deletes_43 ?_
    refine r_iast hx hb G 134 (by decide) (N := 2910) (fun _ => rfl) (by omega) (by omega) (by decide) dX6_deletes_44 (fun H locs G => ?_)
    refine r_iconst hx hb dX6_deletes_45 ?_
    exact r_iret hx hb hr hlk G (by first | exact one_bz (by omega) | exact zero_bz (by omega)) (by unfold mdl; rw [if_pos (by omega)]) dX6_deletes_46
set_option maxRecDepth 100000 in
set_option maxHeartbeats 4000000 in
theorem k_X6_canComeBack (l : Launch) {σ : Mem} {N k y : Int} (hk : 0 ≤ k ∧ k < 4) (hy : 0 ≤ y ∧ y < 16) (hG : SG σ 0 N) : CtI l yX6_canComeBack (Cond.code yX6_canComeBack cX6_canComeBack 3 (some .boolean)) 2 45 (fun z => [.ref (z + 133), .int (kI k), .int (kI y)]) σ (bz (mcb σ k y)) σ := by
  intro D T z
  refine Ct_of (by decide) (Nat.le_of_ble_eq_true rfl) ?_
  intro p e s m below meth c ls hx hb hml hr hts hown hlk G hl
  have hown : s.vm.findClass RX6 = some m.cls := hown
  have hl : lv_has ls 3 [(0, .ref (z + 133)), (1, .int (kI k)), (2, .int (kI y))] := hl
  have hky := hG.ky hk hy
  have hdd := hG.d
  have hx1 := hG.x
  refine lv_aload_n hx hb dX6_canComeBack_0 rfl (lv_at hl 0 rfl) ?_
  refine gf_X6_7 hx hb hts hown G dX6_canComeBack_1 ?_
  refine r_iconst hx hb dX6_canComeBack_4 ?_
  refine lv_iload_n hx hb dX6_canComeBack_5 rfl (lv_at hl 1 rfl) ?_
  refine lv_iload_n hx hb dX6_canComeBack_6 rfl (lv_at hl 2 rfl) ?_
  refine r_callSI ⟨hx, hb, hml, hown, hts⟩ G (k_X6_keyAt l (b := 0) (k := k) (y := y) (σ := σ) ) (kS_X6_keyAt hts qM_X6_40 ⟨by decide, by decide⟩) rfl rfl hl.1 rfl (Nat.le_of_ble_eq_true rfl) dX6_canComeBack_7 ⟨Nat.le_refl _, Nat.le_refl _⟩ (fun H locs G => ?_)
  refine r_iald hx hb G 134 (by decide) (N := 2910) (fun _ => rfl) (by omega) (by omega) (by decide) dX6_canComeBack_10 ?_
  refine r_top (b := mS σ 0 k y) (rfl) ?_
  refine r_iconst hx hb dX6_canComeBack_11 ?_
  refine r_icmp_ne (tgt := 35) hx hb ⟨by omega, by omega⟩ ⟨by decide, by decide⟩ dX6_canComeBack_12 (by decide) (fun h_1 => ?_) (fun h_1 => ?_)
  · skip
    refine r_iconst hx hb dX6_canComeBack_35 ?_
    exact r_zret hx hb hr hlk G (Or.inl rfl) (by first | exact one_bz (by omega) | exact zero_bz (by omega)) (by rfl) dX6_canComeBack_36
  · skip
    refine lv_aload_n hx hb dX6_canComeBack_15 rfl (lv_at hl 0 rfl) ?_
    refine r_iconst hx hb dX6_canComeBack_16 ?_
    refine lv_iload_n hx hb dX6_canComeBack_17 rfl (lv_at hl 1 rfl) ?_
    refine lv_iload_n hx hb dX6_canComeBack_18 rfl (lv_at hl 2 rfl) ?_
    refine r_callVI ⟨hx, hb, hml, hown, hts⟩ G (k_X6_age l (b := 0) (k := k) (y := y) (σ := σ) (hk) (hy) (⟨by omega, by omega⟩)) (kV_X6_age hts qM_X6_44 ⟨by decide, by decide⟩) (rc_X6 G) rfl rfl hl.1 rfl (Nat.le_of_ble_eq_true rfl) dX6_canComeBack_19 ⟨Nat.le_refl _, Nat.le_refl _⟩ (fun H locs G => ?_)
    refine lv_aload_n hx hb dX6_canComeBack_22 rfl (lv_at hl 0 rfl) ?_
    refine gf_X6_7 hx hb hts hown G dX6_canComeBack_23 ?_
    refine r_iconst hx hb dX6_canComeBack_26 ?_
    refine r_iald hx hb G 134 (by decide) (N := 2910) (fun _ => rfl) (by omega) (by omega) (by decide) dX6_canComeBack_27 ?_
    refine r_top (b := mX σ 0 2) (rfl) ?_
    refine r_icmp_gt (tgt := 35) hx hb ⟨by omega, by omega⟩ ⟨by omega, by omega⟩ dX6_canComeBack_28 (by decide) (fun h_2 => ?_) (fun h_2 => ?_)
    · skip
      refine r_iconst hx hb dX6_canComeBack_35 ?_
      exact r_zret hx hb hr hlk G (Or.inl rfl) (by first | exact one_bz (by omega) | exact zero_bz (by omega)) (by rfl) dX6_canComeBack_36
    · skip
      refine r_iconst hx hb dX6_canComeBack_31 ?_
      refine lv_goto (tgt := 36) hx hb dX6_canComeBack_32 (by decide) ?_
      exact r_zret hx hb hr hlk G (Or.inr rfl) (by first | exact one_bz (by omega) | exact zero_bz (by omega)) (by rfl) dX6_canComeBack_36
set_option maxRecDepth 100000 in
set_option maxHeartbeats 4000000 in
theorem k_X6_comesBack (l : Launch) {σ : Mem} {N k y : Int} (hk : 0 ≤ k ∧ k < 4) (hy : 0 ≤ y ∧ y < 16) (hG : SG σ 0 N) : CtI l yX6_comesBack (Cond.code yX6_comesBack cX6_comesBack 4 (some .int)) 3 73 (fun z => [.ref (z + 133), .int (kI k), .int (kI y)]) σ (mR σ 0 k y) (mbk σ k y) := by
  intro D T z
  refine Ct_of (by decide) (Nat.le_of_ble_eq_true rfl) ?_
  intro p e s m below meth c ls hx hb hml hr hts hown hlk G hl
  have hown : s.vm.findClass RX6 = some m.cls := hown
  have hl : lv_has ls 4 [(0, .ref (z + 133)), (1, .int (kI k)), (2, .int (kI y))] := hl
  have hkd := hG.kd hk
  have hky := hG.ky hk hy
  refine r_iconst hx hb dX6_comesBack_0 ?_
  refine lv_iload_n hx hb dX6_comesBack_1 rfl (lv_at hl 1 rfl) ?_
  refine lv_iload_n hx hb dX6_comesBack_2 rfl (lv_at hl 2 rfl) ?_
  refine r_callSI ⟨hx, hb, hml, hown, hts⟩ G (k_X6_keyAt l (b := 0) (k := k) (y := y) (σ := σ) ) (kS_X6_keyAt hts qM_X6_40 ⟨by decide, by decide⟩) rfl rfl hl.1 rfl (Nat.le_of_ble_eq_true rfl) dX6_comesBack_3 ⟨Nat.le_refl _, Nat.le_refl _⟩ (fun H locs G => ?_)
  refine lv_istore_n (lv' := [(3, .int (kI (0 + 8 + 3 * (16 * k + y)))), (0, .ref (z + 133)), (1, .int (kI k)), (2, .int (kI y))]) hx hb dX6_comesBack_6 rfl hl (by decide) rfl (fun ls hl => ?_)
  refine lv_aload_n hx hb dX6_comesBack_7 rfl (lv_at hl 1 rfl) ?_
  refine r_iconst hx hb dX6_comesBack_8 ?_
  refine lv_iload_n hx hb dX6_comesBack_9 rfl (lv_at hl 2 rfl) ?_
  refine lv_iload_n hx hb dX6_comesBack_10 rfl (lv_at hl 3 rfl) ?_
  refine r_callVV ⟨hx, hb, hml, hown, hts⟩ G (k_X6_takes l (b := 0) (k := k) (y := y) (σ := σ) (hk) (hy) (hG)) (kV_X6_takes hts qM_X6_66 ⟨by decide, by decide⟩) (rc_X6 G) rfl rfl hl.1 rfl (Nat.le_of_ble_eq_true rfl) dX6_comesBack_11 ⟨Nat.le_refl _, Nat.le_refl _⟩ (fun H locs G => ?_)
  refine lv_aload_n hx hb dX6_comesBack_14 rfl (lv_at hl 1 rfl) ?_
  refine gf_X6_7 hx hb hts hown G dX6_comesBack_15 ?_
  refine lv_iload_n hx hb dX6_comesBack_18 rfl (lv_at hl 0 rfl) ?_
  refine r_iconst hx hb dX6_comesBack_19 ?_
  refine r_iast hx hb G 134 (by decide) (N := 2910) (fun _ => rfl) (by omega) (by omega) (by decide) dX6_comesBack_20 (fun H locs G => ?_)
  refine lv_aload_n hx hb dX6_comesBack_21 rfl (lv_at hl 1 rfl) ?_
  refine gf_X6_7 hx hb hts hown G dX6_comesBack_22 ?_
  refine r_sipush hx hb dX6_comesBack_25 (by decide +kernel) ?_
  refine lv_iload_n hx hb dX6_comesBack_28 rfl (lv_at hl 2 rfl) ?_
  refine r_iadd hx hb dX6_comesBack_29 ?_
  refine lv_dup2_11 hx hb dX6_comesBack_30 rfl rfl ?_
  refine r_iald hx hb G 134 (by decide) (N := 2910) (fun _ => rfl) (by omega) (by omega) (by decide) dX6_comesBack_31 ?_
  refine r_top (b := σ 134 (284 + k)) (by rw [up_ap, if_neg (by omega), mtak_o hk hkd.2 (by omega) (by omega)]) ?_
  refine r_iconst hx hb dX6_comesBack_32 ?_
  refine r_iadd hx hb dX6_comesBack_33 ?_
  refine r_topk (b := wr (σ 134 (284 + k) + 1)) (kI_wr _).symm ?_
  refine r_iast hx hb G 134 (by decide) (N := 2910) (fun _ => rfl) (by omega) (by omega) (by decide) dX6_comesBack_34 (fun H locs G => ?_)
  refine lv_aload_n hx hb dX6_comesBack_35 rfl (lv_at hl 1 rfl) ?_
  refine gf_X6_7 hx hb hts hown G dX6_comesBack_36 ?_
  refine lv_iload_n hx hb dX6_comesBack_39 rfl (lv_at hl 0 rfl) ?_
  refine r_iconst hx hb dX6_comesBack_40 ?_
  refine r_iadd hx hb dX6_comesBack_41 ?_
  refine r_iald hx hb G 134 (by decide) (N := 2910) (fun _ => rfl) (by omega) (by omega) (by decide) dX6_comesBack_42 ?_
  refine r_top (b := mR σ 0 k y) (by rw [up_ap, if_neg (by omega), up_ap, if_neg (by omega), mtak_o hk hkd.2 (by omega) (by omega)]; rfl) ?_
  exact r_iret hx hb hr hlk G (by first | rfl | omega) (by rfl) dX6_comesBack_43
set_option maxRecDepth 100000 in
set_option maxHeartbeats 4000000 in
theorem k_X6_turns (l : Launch) {σ : Mem} {N k : Int} (hk : 0 ≤ k ∧ k < 4) (hG : SG σ 0 N) : CtI l yX6_turns (Cond.code yX6_turns cX6_turns 7 (some .int)) 1 23 (fun z => [.ref (z + 133), .int (kI k)]) σ (mtuR σ k) (mtu σ k) := by
  intro D T z
  refine Ct_of (by decide) (Nat.le_of_ble_eq_true rfl) ?_
  intro p e s m below meth c ls hx hb hml hr hts hown hlk G hl
  have hown : s.vm.findClass RX6 = some m.cls := hown
  have hl : lv_has ls 7 [(0, .ref (z + 133)), (1, .int (kI k))] := hl
  have hkd := hG.kd hk
  refine lv_aload_n hx hb dX6_turns_0 rfl (lv_at hl 0 rfl) ?_
  refine gf_X6_7 hx hb hts hown G dX6_turns_1 ?_
  refine r_sipush hx hb dX6_turns_4 (by decide +kernel) ?_
  refine lv_iload_n hx hb dX6_turns_7 rfl (lv_at hl 1 rfl) ?_
  refine r_iadd hx hb dX6_turns_8 ?_
  refine r_iald hx hb G 134 (by decide) (N := 2910) (fun _ => rfl) (by omega) (by omega) (by decide) dX6_turns_9 ?_
  refine r_top (b := mL σ 0 k) (z264) ?_
  refine lv_istore_n (lv' := [(2, .int (kI (mL σ 0 k))), (0, .ref (z + 133)), (1, .int (kI k))]) hx hb dX6_turns_10 rfl hl (by decide) rfl (fun ls hl => ?_)
  refine r_iconst hx hb dX6_turns_11 ?_
  refine lv_istore_n (lv' := [(3, .int (kI 0)), (2, .int (kI (mL σ 0 k))), (0, .ref (z + 133)), (1, .int (kI k))]) hx hb dX6_turns_12 rfl hl (by decide) rfl (fun ls hl => ?_)
  have lp13 : ∀ (d : Nat) (i : Int), (0 ≤ i) → (i ≤ mL σ 0 k / 2) → (mL σ 0 k / 2 - i : Int) < (d : Int) → ∀ (H : Heap) (locs : List Loc), Wd D T z 139 (rvs σ (200 + 16 * k) (mL σ 0 k) i) s H locs → ∀ (ls : Array Slot), lv_has ls 7 [(0, .ref (z + 133)), (1, .int (kI k)), (2, .int (kI (mL σ 0 k))), (3, .int (kI i))] → W p l e (rmN 1 23) s m ([.ref (z + 133), .int (kI k)] : List Value).toArray below meth c H locs 0 0 (MQ below (QI D T z 139 (mtuR σ k) (mtu σ k)) ([.ref (z + 133), .int (kI k)] : List Value).toArray s 0 0 (Own z)) (F0 m 13 ls []) := by
    intro d
    induction d with
    | zero => intro i h0 h1 hd; exact absurd hd (by omega)
    | succ d ih13 =>
      intro i h0 h1 hd H locs G ls hl
      refine lv_iload_n hx hb dX6_turns_13 rfl (lv_at hl 3 rfl) ?_
      refine lv_iload_n hx hb dX6_turns_14 rfl (lv_at hl 2 rfl) ?_
      refine r_iconst hx hb dX6_turns_15 ?_
      refine r_idiv hx hb dX6_turns_16 (by omega) (by omega) (by omega) (by omega) ?_
      refine r_icmp_ge (tgt := 86) hx hb ⟨by omega, by omega⟩ ⟨by omega, by omega⟩ dX6_turns_17 (by decide) (fun h_1 => ?_) (fun h_1 => ?_)
      · skip
        have G := G.cong (τ := mtu σ k) (by unfold mtu; rw [show i = mL σ 0 k / 2 by omega])
        refine lv_iload_n hx hb dX6_turns_86 rfl (lv_at hl 2 rfl) ?_
        refine r_if_ne (tgt := 94) hx hb ⟨by omega, by omega⟩ dX6_turns_87 (by decide) (fun h_2 => ?_) (fun h_2 => ?_)
        · skip
          refine lv_aload_n hx hb dX6_turns_94 rfl (lv_at hl 0 rfl) ?_
          refine r_iconst hx hb dX6_turns_95 ?_
          refine lv_iload_n hx hb dX6_turns_96 rfl (lv_at hl 1 rfl) ?_
          refine r_iconst hx hb dX6_turns_97 ?_
          refine r_callVI ⟨hx, hb, hml, hown, hts⟩ G (k_X6_pileAt l (b := 0) (k := k) (q := 0) (σ := mtu σ k) (hk) (⟨by omega, by omega⟩) (⟨by omega, by omega⟩)) (kV_X6_pileAt hts qM_X6_50 ⟨by decide, by decide⟩) (rc_X6 G) rfl rfl hl.1 rfl (Nat.le_of_ble_eq_true rfl) dX6_turns_98 ⟨Nat.le_refl _, Nat.le_refl _⟩ (fun H locs G => ?_)
          exact r_iret hx hb hr hlk G (by unfold mtuR; first | rw [if_pos (by omega)] | rw [if_neg (by omega)]) (by rfl) dX6_turns_101
        · skip
          refine r_iconst hx hb dX6_turns_90 ?_
          refine lv_goto (tgt := 101) hx hb dX6_turns_91 (by decide) ?_
          exact r_iret hx hb hr hlk G (by unfold mtuR; first | rw [if_pos (by omega)] | rw [if_neg (by omega)]) (by rfl) dX6_turns_101
      · skip
        refine r_sipush hx hb dX6_turns_20 (by decide +kernel) ?_
        refine r_bipush hx hb dX6_turns_23 (by decide +kernel) ?_
        refine lv_iload_n hx hb dX6_turns_25 rfl (lv_at hl 1 rfl) ?_
        refine r_imul hx hb dX6_turns_26 ?_
        refine r_iadd hx hb dX6_turns_27 ?_
        refine lv_iload_n hx hb dX6_turns_28 rfl (lv_at hl 3 rfl) ?_
        refine r_iadd hx hb dX6_turns_29 ?_
        refine lv_istore (lv' := [(4, .int (kI (200 + 16 * k + i))), (0, .ref (z + 133)), (1, .int (kI k)), (2, .int (kI (mL σ 0 k))), (3, .int (kI i))]) hx hb dX6_turns_30 hl (by decide) rfl (fun ls hl => ?_)
        refine r_sipush hx hb dX6_turns_32 (by decide +kernel) ?_
        refine r_bipush hx hb dX6_turns_35 (by decide +kernel) ?_
        refine lv_iload_n hx hb dX6_turns_37 rfl (lv_at hl 2 rfl) ?_
        refine r_imul hx hb dX6_turns_38 ?_
        refine r_iadd hx hb dX6_turns_39 ?_
        refine lv_iload_n hx hb dX6_turns_40 rfl (lv_at hl 3 rfl) ?_
        refine r_iadd hx hb dX6_turns_41 ?_
        refine r_iconst hx hb dX6_turns_42 ?_
        refine r_isub hx hb dX6_turns_43 ?_
        refine lv_iload_n hx hb dX6_turns_44 rfl (lv_at hl 4 rfl) ?_
        refine r_isub hx hb dX6_turns_45 ?_
        refine lv_istore (lv' := [(5, .int (kI (200 + 16 * k + mL σ 0 k - 1 - i))), (4, .int (kI (200 + 16 * k + i))), (0, .ref (z + 133)), (1, .int (kI k)), (2, .int (kI (mL σ 0 k))), (3, .int (kI i))]) hx hb dX6_turns_46 hl (by decide) rfl (fun ls hl => ?_)
        refine lv_aload_n hx hb dX6_turns_48 rfl (lv_at hl 2 rfl) ?_
        refine gf_X6_7 hx hb hts hown G dX6_turns_49 ?_
        refine lv_iload hx hb dX6_turns_52 (lv_at hl 1 rfl) ?_
        refine r_iald hx hb G 134 (by decide) (N := 2910) (fun _ => rfl) (by omega) (by omega) (by decide) dX6_turns_54 ?_
        refine r_top (b := σ 134 (200 + 16 * k + i)) (rvs_at (by omega)) ?_
        refine lv_istore (lv' := [(6, .int (kI (σ 134 (200 + 16 * k + i)))), (5, .int (kI (200 + 16 * k + mL σ 0 k - 1 - i))), (4, .int (kI (200 + 16 * k + i))), (0, .ref (z + 133)), (1, .int (kI k)), (2, .int (kI (mL σ 0 k))), (3, .int (kI i))]) hx hb dX6_turns_55 hl (by decide) rfl (fun ls hl => ?_)
        refine lv_aload_n hx hb dX6_turns_57 rfl (lv_at hl 3 rfl) ?_
        refine gf_X6_7 hx hb hts hown G dX6_turns_58 ?_
        refine lv_iload hx hb dX6_turns_61 (lv_at hl 2 rfl) ?_
        refine lv_aload_n hx hb dX6_turns_63 rfl (lv_at hl 3 rfl) ?_
        refine gf_X6_7 hx hb hts hown G dX6_turns_64 ?_
        refine lv_iload hx hb dX6_turns_67 (lv_at hl 1 rfl) ?_
        refine r_iald hx hb G 134 (by decide) (N := 2910) (fun _ => rfl) (by omega) (by omega) (by decide) dX6_turns_69 ?_
        refine r_top (b := σ 134 (200 + 16 * k + mL σ 0 k - 1 - i)) (rvs_at (by omega)) ?_
        refine r_iast hx hb G 134 (by decide) (N := 2910) (fun _ => rfl) (by omega) (by omega) (by decide) dX6_turns_70 (fun H locs G => ?_)
        refine lv_aload_n hx hb dX6_turns_71 rfl (lv_at hl 3 rfl) ?_
        refine gf_X6_7 hx hb hts hown G dX6_turns_72 ?_
        refine lv_iload hx hb dX6_turns_75 (lv_at hl 1 rfl) ?_
        refine lv_iload hx hb dX6_turns_77 (lv_at hl 0 rfl) ?_
        refine r_iast hx hb G 134 (by decide) (N := 2910) (fun _ => rfl) (by omega) (by omega) (by decide) dX6_turns_79 (fun H locs G => ?_)
        have G := G.cong (τ := rvs σ (200 + 16 * k) (mL σ 0 k) (i + 1)) (rvs_s h0 (by omega))
        refine r_iinc (lv' := [(3, .int (kI (i + 1))), (6, .int (kI (σ 134 (200 + 16 * k + i)))), (5, .int (kI (200 + 16 * k + mL σ 0 k - 1 - i))), (4, .int (kI (200 + 16 * k + i))), (0, .ref (z + 133)), (1, .int (kI k)), (2, .int (kI (mL σ 0 k)))]) hx hb dX6_turns_80 hl (k := 6) rfl (by decide) rfl (fun ls hl => ?_)
        refine lv_goto (tgt := 13) hx hb dX6_turns_83 (by decide) ?_
        exact ih13 (i + 1) (by omega) (by omega) (by omega) _ _ G _ (lv_sub hl [4, 5, 6, 0] rfl)
  have G := G.cong (rvs_0 (σ := σ) (a := 200 + 16 * k) (n := mL σ 0 k)).symm
  exact lp13 9 0 (by omega) (by omega) (by omega) _ _ G _ (lv_sub hl [2, 3, 1, 0] rfl)
set_option maxRecDepth 100000 in
set_option maxHeartbeats 4000000 in
theorem k_X6_refers (l : Launch) {σ : Mem} {N k y q : Int} (hk : 0 ≤ k ∧ k < 4) (hy : 0 ≤ y ∧ y < 16) (hq : inR q) (hG : SG σ 0 N) : CtI l yX6_refers (Cond.code yX6_refers cX6_refers 5 (some .int)) 2 44 (fun z => [.ref (z + 133), .int (kI k), .int (kI y), .int (kI q)]) σ (mrf σ k y q) σ := by
  intro D T z
  refine Ct_of (by decide) (Nat.le_of_ble_eq_true rfl) ?_
  intro p e s m below meth c ls hx hb hml hr hts hown hlk G hl
  have hown : s.vm.findClass RX6 = some m.cls := hown
  have hl : lv_has ls 5 [(0, .ref (z + 133)), (1, .int (kI k)), (2, .int (kI y)), (3, .int (kI q))] := hl
  have hky := hG.ky hk hy
  have hb0 := hG.1
  refine lv_aload_n hx hb dX6_refers_0 rfl (lv_at hl 0 rfl) ?_
  refine gf_X6_7 hx hb hts hown G dX6_refers_1 ?_
  refine r_iconst hx hb dX6_refers_4 ?_
  refine lv_iload_n hx hb dX6_refers_5 rfl (lv_at hl 1 rfl) ?_
  refine lv_iload_n hx hb dX6_refers_6 rfl (lv_at hl 2 rfl) ?_
  refine r_callSI ⟨hx, hb, hml, hown, hts⟩ G (k_X6_keyAt l (b := 0) (k := k) (y := y) (σ := σ) ) (kS_X6_keyAt hts qM_X6_40 ⟨by decide, by decide⟩) rfl rfl hl.1 rfl (Nat.le_of_ble_eq_true rfl) dX6_refers_7 ⟨Nat.le_refl _, Nat.le_refl _⟩ (fun H locs G => ?_)
  refine r_iconst hx hb dX6_refers_10 ?_
  refine r_iadd hx hb dX6_refers_11 ?_
  refine r_iald hx hb G 134 (by decide) (N := 2910) (fun _ => rfl) (by omega) (by omega) (by decide) dX6_refers_12 ?_
  refine r_top (b := mR σ 0 k y) (rfl) ?_
  refine lv_istore (lv' := [(4, .int (kI (mR σ 0 k y))), (0, .ref (z + 133)), (1, .int (kI k)), (2, .int (kI y)), (3, .int (kI q))]) hx hb dX6_refers_13 hl (by decide) rfl (fun ls hl => ?_)
  refine lv_aload_n hx hb dX6_refers_15 rfl (lv_at hl 1 rfl) ?_
  refine lv_iload_n hx hb dX6_refers_16 rfl (lv_at hl 2 rfl) ?_
  refine lv_iload_n hx hb dX6_refers_17 rfl (lv_at hl 3 rfl) ?_
  refine r_callVI ⟨hx, hb, hml, hown, hts⟩ G (k_X6_isAlive l (k := k) (y := y) (σ := σ) (hk) (hy) (hG)) (kV_X6_isAlive hts qM_X6_100 ⟨by decide, by decide⟩) (rc_X6 G) rfl rfl hl.1 rfl (Nat.le_of_ble_eq_true rfl) dX6_refers_18 ⟨Nat.le_refl _, Nat.le_refl _⟩ (fun H locs G => ?_)
  refine r_zeq (tgt := 30) hx hb dX6_refers_21 (by decide) (fun h_1 => ?_) (fun h_1 => ?_)
  · skip
    refine r_iconst hx hb dX6_refers_30 ?_
    refine lv_goto (tgt := 45) hx hb dX6_refers_31 (by decide) ?_
    exact r_iret hx hb hr hlk G (by unfold mrf; (repeat' split) <;> omega) (by rfl) dX6_refers_45
  · skip
    refine lv_iload hx hb dX6_refers_24 (lv_at hl 0 rfl) ?_
    refine lv_iload_n hx hb dX6_refers_26 rfl (lv_at hl 4 rfl) ?_
    refine r_icmp_ge (tgt := 34) hx hb ⟨by omega, by omega⟩ ⟨by omega, by omega⟩ dX6_refers_27 (by decide) (fun h_2 => ?_) (fun h_2 => ?_)
    · skip
      refine lv_iload hx hb dX6_refers_34 (lv_at hl 0 rfl) ?_
      refine lv_iload_n hx hb dX6_refers_36 rfl (lv_at hl 4 rfl) ?_
      refine r_icmp_ne (tgt := 44) hx hb ⟨by omega, by omega⟩ ⟨by omega, by omega⟩ dX6_refers_37 (by decide) (fun h_3 => ?_) (fun h_3 => ?_)
      · skip
        refine r_iconst hx hb dX6_refers_44 ?_
        exact r_iret hx hb hr hlk G (by unfold mrf; (repeat' split) <;> omega) (by rfl) dX6_refers_45
      · skip
        refine r_iconst hx hb dX6_refers_40 ?_
        refine lv_goto (tgt := 45) hx hb dX6_refers_41 (by decide) ?_
        exact r_iret hx hb hr hlk G (by unfold mrf; (repeat' split) <;> omega) (by rfl) dX6_refers_45
    · skip
      refine r_iconst hx hb dX6_refers_30 ?_
      refine lv_goto (tgt := 45) hx hb dX6_refers_31 (by decide) ?_
      exact r_iret hx hb hr hlk G (by unfold mrf; (repeat' split) <;> omega) (by rfl) dX6_refers_45
set_option maxRecDepth 100000 in
set_option maxHeartbeats 4000000 in
theorem k_X6_keysIn (l : Launch) {σ : Mem} {N kd w : Int} (hkd0 : inR kd) (hw0 : inR w) (hG : SG σ 0 N) : CtI l yX6_keysIn (Cond.code yX6_keysIn cX6_keysIn 6 (some .int)) 3 68 (fun z => [.ref (z + 133), .int (kI kd), .int (kI w)]) σ (kin σ kd w) σ := by
  intro D T z
  refine Ct_of (by decide) (Nat.le_of_ble_eq_true rfl) ?_
  intro p e s m below meth c ls hx hb hml hr hts hown hlk G hl
  have hown : s.vm.findClass RX6 = some m.cls := hown
  have hl : lv_has ls 6 [(0, .ref (z + 133)), (1, .int (kI kd)), (2, .int (kI w))] := hl
  refine r_iconst hx hb dX6_keysIn_0 ?_
  refine lv_istore_n (lv' := [(3, .int (kI 0)), (0, .ref (z + 133)), (1, .int (kI kd)), (2, .int (kI w))]) hx hb dX6_keysIn_1 rfl hl (by decide) rfl (fun ls hl => ?_)
  refine r_iconst hx hb dX6_keysIn_2 ?_
  refine lv_istore (lv' := [(4, .int (kI 0)), (3, .int (kI 0)), (0, .ref (z + 133)), (1, .int (kI kd)), (2, .int (kI w))]) hx hb dX6_keysIn_3 hl (by decide) rfl (fun ls hl => ?_)
  have lp5 : ∀ (d : Nat) (v : Int) (i : Int), (0 ≤ i) → (i ≤ 64) → (v = cn (kinP σ kd w) i) → (64 - i : Int) < (d : Int) → ∀ (H : Heap) (locs : List Loc), Wd D T z 139 σ s H locs → ∀ (ls : Array Slot), lv_has ls 6 [(0, .ref (z + 133)), (1, .int (kI kd)), (2, .int (kI w)), (3, .int (kI v)), (4, .int (kI i))] → W p l e (rmN 3 68) s m ([.ref (z + 133), .int (kI kd), .int (kI w)] : List Value).toArray below meth c H locs 0 0 (MQ below (QI D T z 139 (kin σ kd w) σ) ([.ref (z + 133), .int (kI kd), .int (kI w)] : List Value).toArray s 0 0 (Own z)) (F0 m 5 ls []) := by
    intro d
    induction d with
    | zero => intro v i h0 h1 hv hd; exact absurd hd (by omega)
    | succ d ih5 =>
      intro v i h0 h1 hv hd H locs G ls hl
      refine lv_iload hx hb dX6_keysIn_5 (lv_at hl 4 rfl) ?_
      refine r_bipush hx hb dX6_keysIn_7 (by decide +kernel) ?_
      refine r_icmp_ge (tgt := 97) hx hb ⟨by omega, by omega⟩ ⟨by decide, by decide⟩ dX6_keysIn_9 (by decide) (fun h_1 => ?_) (fun h_1 => ?_)
      · skip
        refine lv_iload_n hx hb dX6_keysIn_97 rfl (lv_at hl 3 rfl) ?_
        exact r_iret hx hb hr hlk G (by have e : i = 64 := (by omega); rw [hv, e]; rfl) (by rfl) dX6_keysIn_98
      · skip
        have hky := hG.ky (k := i / 16) (y := i % 16) ⟨by omega, by omega⟩ ⟨by omega, by omega⟩
        refine lv_iload_n hx hb dX6_keysIn_12 rfl (lv_at hl 2 rfl) ?_
        refine r_iconst hx hb dX6_keysIn_13 ?_
        refine r_icmp_ne (tgt := 35) hx hb ⟨by omega, by omega⟩ ⟨by decide, by decide⟩ dX6_keysIn_14 (by decide) (fun h_2 => ?_) (fun h_2 => ?_)
        · skip
          refine lv_aload_n hx hb dX6_keysIn_35 rfl (lv_at hl 0 rfl) ?_
          refine gf_X6_7 hx hb hts hown G dX6_keysIn_36 ?_
          refine r_iconst hx hb dX6_keysIn_39 ?_
          refine lv_iload hx hb dX6_keysIn_40 (lv_at hl 4 rfl) ?_
          refine r_bipush hx hb dX6_keysIn_42 (by decide +kernel) ?_
          refine r_idiv hx hb dX6_keysIn_44 (by omega) (by omega) (by omega) (by omega) ?_
          refine lv_iload hx hb dX6_keysIn_45 (lv_at hl 4 rfl) ?_
          refine r_bipush hx hb dX6_keysIn_47 (by decide +kernel) ?_
          refine r_irem hx hb dX6_keysIn_49 (by omega) (by omega) (by omega) (by omega) ?_
          refine r_callSI ⟨hx, hb, hml, hown, hts⟩ G (k_X6_keyAt l (b := 0) (k := i / 16) (y := i % 16) (σ := σ) ) (kS_X6_keyAt hts qM_X6_40 ⟨by decide, by decide⟩) rfl rfl hl.1 rfl (Nat.le_of_ble_eq_true rfl) dX6_keysIn_50 ⟨Nat.le_refl _, Nat.le_refl _⟩ (fun H locs G => ?_)
          refine r_iald hx hb G 134 (by decide) (N := 2910) (fun _ => rfl) (by omega) (by omega) (by decide) dX6_keysIn_53 ?_
          refine r_top (b := mS σ 0 (i / 16) (i % 16)) (rfl) ?_
          refine lv_iload_n hx hb dX6_keysIn_54 rfl (lv_at hl 2 rfl) ?_
          refine r_icmp_ne (tgt := 62) hx hb ⟨by omega, by omega⟩ ⟨by omega, by omega⟩ dX6_keysIn_55 (by decide) (fun h_3 => ?_) (fun h_3 => ?_)
          · skip
            refine r_iconst hx hb dX6_keysIn_62 ?_
            refine lv_istore (lv' := [(5, .int (kI 0)), (0, .ref (z + 133)), (1, .int (kI kd)), (2, .int (kI w)), (3, .int (kI v)), (4, .int (kI i))]) hx hb dX6_keysIn_63 hl (by decide) rfl (fun ls hl => ?_)
            refine lv_iload_n hx hb dX6_keysIn_65 rfl (lv_at hl 4 rfl) ?_
            refine lv_iload hx hb dX6_keysIn_66 (lv_at hl 0 rfl) ?_
            refine r_if_eq (tgt := 88) hx hb ⟨by decide, by decide⟩ dX6_keysIn_68 (by decide) (fun _ => ?_) (fun h_4 => absurd h_4 (by decide))
            refine r_iconst hx hb dX6_keysIn_88 ?_
            have hq : ¬ kinP σ kd w i := by unfold kinP; (first | rw [if_pos (by omega)] | rw [if_neg (by omega)]); omega
            refine r_iadd hx hb dX6_keysIn_89 ?_
            refine lv_istore_n (lv' := [(3, .int (kI (v + 0))), (5, .int (kI 0)), (0, .ref (z + 133)), (1, .int (kI kd)), (2, .int (kI w)), (4, .int (kI i))]) hx hb dX6_keysIn_90 rfl hl (by decide) rfl (fun ls hl => ?_)
            refine r_iinc (lv' := [(4, .int (kI (i + 1))), (3, .int (kI (v + 0))), (5, .int (kI 0)), (0, .ref (z + 133)), (1, .int (kI kd)), (2, .int (kI w))]) hx hb dX6_keysIn_91 hl (k := 5) rfl (by decide) rfl (fun ls hl => ?_)
            refine lv_goto (tgt := 5) hx hb dX6_keysIn_94 (by decide) ?_
            exact ih5 (v + 0) (i + 1) (by omega) (by omega) (by first | exact cn_t h0 hv hq | (rw [Int.add_zero]; exact cn_f h0 hv hq)) (by omega) _ _ G _ (lv_sub hl [3, 4, 5, 1, 0] rfl)
          · skip
            refine r_iconst hx hb dX6_keysIn_58 ?_
            refine lv_goto (tgt := 63) hx hb dX6_keysIn_59 (by decide) ?_
            refine lv_istore (lv' := [(5, .int (kI 1)), (0, .ref (z + 133)), (1, .int (kI kd)), (2, .int (kI w)), (3, .int (kI v)), (4, .int (kI i))]) hx hb dX6_keysIn_63 hl (by decide) rfl (fun ls hl => ?_)
            refine lv_iload_n hx hb dX6_keysIn_65 rfl (lv_at hl 4 rfl) ?_
            refine lv_iload hx hb dX6_keysIn_66 (lv_at hl 0 rfl) ?_
            refine r_if_eq (tgt := 88) hx hb ⟨by decide, by decide⟩ dX6_keysIn_68 (by decide) (fun h_5 => absurd h_5 (by decide)) (fun _ => ?_)
            refine lv_iload_n hx hb dX6_keysIn_71 rfl (lv_at hl 2 rfl) ?_
            refine r_if_lt (tgt := 84) hx hb ⟨by omega, by omega⟩ dX6_keysIn_72 (by decide) (fun h_6 => ?_) (fun h_6 => ?_)
            · skip
              refine r_iconst hx hb dX6_keysIn_84 ?_
              refine lv_goto (tgt := 89) hx hb dX6_keysIn_85 (by decide) ?_
              have hq :  kinP σ kd w i := by unfold kinP; (first | rw [if_pos (by omega)] | rw [if_neg (by omega)]); omega
              refine r_iadd hx hb dX6_keysIn_89 ?_
              refine lv_istore_n (lv' := [(3, .int (kI (v + 1))), (5, .int (kI 1)), (0, .ref (z + 133)), (1, .int (kI kd)), (2, .int (kI w)), (4, .int (kI i))]) hx hb dX6_keysIn_90 rfl hl (by decide) rfl (fun ls hl => ?_)
              refine r_iinc (lv' := [(4, .int (kI (i + 1))), (3, .int (kI (v + 1))), (5, .int (kI 1)), (0, .ref (z + 133)), (1, .int (kI kd)), (2, .int (kI w))]) hx hb dX6_keysIn_91 hl (k := 5) rfl (by decide) rfl (fun ls hl => ?_)
              refine lv_goto (tgt := 5) hx hb dX6_keysIn_94 (by decide) ?_
              exact ih5 (v + 1) (i + 1) (by omega) (by omega) (by first | exact cn_t h0 hv hq | (rw [Int.add_zero]; exact cn_f h0 hv hq)) (by omega) _ _ G _ (lv_sub hl [3, 4, 5, 1, 0] rfl)
            · skip
              refine lv_iload hx hb dX6_keysIn_75 (lv_at hl 5 rfl) ?_
              refine r_bipush hx hb dX6_keysIn_77 (by decide +kernel) ?_
              refine r_idiv hx hb dX6_keysIn_79 (by omega) (by omega) (by omega) (by omega) ?_
              refine lv_iload_n hx hb dX6_keysIn_80 rfl (lv_at hl 2 rfl) ?_
              refine r_icmp_ne (tgt := 88) hx hb ⟨by omega, by omega⟩ ⟨by omega, by omega⟩ dX6_keysIn_81 (by decide) (fun h_7 => ?_) (fun h_7 => ?_)
              · skip
                refine r_iconst hx hb dX6_keysIn_88 ?_
                have hq : ¬ kinP σ kd w i := by unfold kinP; (first | rw [if_pos (by omega)] | rw [if_neg (by omega)]); omega
                refine r_iadd hx hb dX6_keysIn_89 ?_
                refine lv_istore_n (lv' := [(3, .int (kI (v + 0))), (5, .int (kI 1)), (0, .ref (z + 133)), (1, .int (kI kd)), (2, .int (kI w)), (4, .int (kI i))]) hx hb dX6_keysIn_90 rfl hl (by decide) rfl (fun ls hl => ?_)
                refine r_iinc (lv' := [(4, .int (kI (i + 1))), (3, .int (kI (v + 0))), (5, .int (kI 1)), (0, .ref (z + 133)), (1, .int (kI kd)), (2, .int (kI w))]) hx hb dX6_keysIn_91 hl (k := 5) rfl (by decide) rfl (fun ls hl => ?_)
                refine lv_goto (tgt := 5) hx hb dX6_keysIn_94 (by decide) ?_
                exact ih5 (v + 0) (i + 1) (by omega) (by omega) (by first | exact cn_t h0 hv hq | (rw [Int.add_zero]; exact cn_f h0 hv hq)) (by omega) _ _ G _ (lv_sub hl [3, 4, 5, 1, 0] rfl)
              · skip
                refine r_iconst hx hb dX6_keysIn_84 ?_
                refine lv_goto (tgt := 89) hx hb dX6_keysIn_85 (by decide) ?_
                have hq :  kinP σ kd w i := by unfold kinP; (first | rw [if_pos (by omega)] | rw [if_neg (by omega)]); omega
                refine r_iadd hx hb dX6_keysIn_89 ?_
                refine lv_istore_n (lv' := [(3, .int (kI (v + 1))), (5, .int (kI 1)), (0, .ref (z + 133)), (1, .int (kI kd)), (2, .int (kI w)), (4, .int (kI i))]) hx hb dX6_keysIn_90 rfl hl (by decide) rfl (fun ls hl => ?_)
                refine r_iinc (lv' := [(4, .int (kI (i + 1))), (3, .int (kI (v + 1))), (5, .int (kI 1)), (0, .ref (z + 133)), (1, .int (kI kd)), (2, .int (kI w))]) hx hb dX6_keysIn_91 hl (k := 5) rfl (by decide) rfl (fun ls hl => ?_)
                refine lv_goto (tgt := 5) hx hb dX6_keysIn_94 (by decide) ?_
                exact ih5 (v + 1) (i + 1) (by omega) (by omega) (by first | exact cn_t h0 hv hq | (rw [Int.add_zero]; exact cn_f h0 hv hq)) (by omega) _ _ G _ (lv_sub hl [3, 4, 5, 1, 0] rfl)
        · skip
          refine lv_aload_n hx hb dX6_keysIn_17 rfl (lv_at hl 0 rfl) ?_
          refine r_iconst hx hb dX6_keysIn_18 ?_
          refine lv_iload hx hb dX6_keysIn_19 (lv_at hl 4 rfl) ?_
          refine r_bipush hx hb dX6_keysIn_21 (by decide +kernel) ?_
          refine r_idiv hx hb dX6_keysIn_23 (by omega) (by omega) (by omega) (by omega) ?_
          refine lv_iload hx hb dX6_keysIn_24 (lv_at hl 4 rfl) ?_
          refine r_bipush hx hb dX6_keysIn_26 (by decide +kernel) ?_
          refine r_irem hx hb dX6_keysIn_28 (by omega) (by omega) (by omega) (by omega) ?_
          refine r_callVI ⟨hx, hb, hml, hown, hts⟩ G (k_X6_isRipe l (b := 0) (k := i / 16) (y := i % 16) (σ := σ) (⟨by omega, by omega⟩) (⟨by omega, by omega⟩) (hG)) (kV_X6_isRipe hts qM_X6_47 ⟨by decide, by decide⟩) (rc_X6 G) rfl rfl hl.1 rfl (Nat.le_of_ble_eq_true rfl) dX6_keysIn_29 ⟨Nat.le_refl _, Nat.le_refl _⟩ (fun H locs G => ?_)
          refine lv_goto (tgt := 63) hx hb dX6_keysIn_32 (by decide) ?_
          refine lv_istore (lv' := [(5, .int (kI (bz (mrp σ 0 (i / 16) (i % 16))))), (0, .ref (z + 133)), (1, .int (kI kd)), (2, .int (kI w)), (3, .int (kI v)), (4, .int (kI i))]) hx hb dX6_keysIn_63 hl (by decide) rfl (fun ls hl => ?_)
          refine lv_iload_n hx hb dX6_keysIn_65 rfl (lv_at hl 4 rfl) ?_
          refine lv_iload hx hb dX6_keysIn_66 (lv_at hl 0 rfl) ?_
          refine r_zeq (tgt := 88) hx hb dX6_keysIn_68 (by decide) (fun h_8 => ?_) (fun h_8 => ?_)
          · skip
            refine r_iconst hx hb dX6_keysIn_88 ?_
            have hq : ¬ kinP σ kd w i := by unfold kinP; (first | rw [if_pos (by omega)] | rw [if_neg (by omega)]); omega
            refine r_iadd hx hb dX6_keysIn_89 ?_
            refine lv_istore_n (lv' := [(3, .int (kI (v + 0))), (5, .int (kI (bz (mrp σ 0 (i / 16) (i % 16))))), (0, .ref (z + 133)), (1, .int (kI kd)), (2, .int (kI w)), (4, .int (kI i))]) hx hb dX6_keysIn_90 rfl hl (by decide) rfl (fun ls hl => ?_)
            refine r_iinc (lv' := [(4, .int (kI (i + 1))), (3, .int (kI (v + 0))), (5, .int (kI (bz (mrp σ 0 (i / 16) (i % 16))))), (0, .ref (z + 133)), (1, .int (kI kd)), (2, .int (kI w))]) hx hb dX6_keysIn_91 hl (k := 5) rfl (by decide) rfl (fun ls hl => ?_)
            refine lv_goto (tgt := 5) hx hb dX6_keysIn_94 (by decide) ?_
            exact ih5 (v + 0) (i + 1) (by omega) (by omega) (by first | exact cn_t h0 hv hq | (rw [Int.add_zero]; exact cn_f h0 hv hq)) (by omega) _ _ G _ (lv_sub hl [3, 4, 5, 1, 0] rfl)
          · skip
            refine lv_iload_n hx hb dX6_keysIn_71 rfl (lv_at hl 2 rfl) ?_
            refine r_if_lt (tgt := 84) hx hb ⟨by omega, by omega⟩ dX6_keysIn_72 (by decide) (fun h_9 => ?_) (fun h_9 => ?_)
            · skip
              refine r_iconst hx hb dX6_keysIn_84 ?_
              refine lv_goto (tgt := 89) hx hb dX6_keysIn_85 (by decide) ?_
              have hq :  kinP σ kd w i := by unfold kinP; (first | rw [if_pos (by omega)] | rw [if_neg (by omega)]); omega
              refine r_iadd hx hb dX6_keysIn_89 ?_
              refine lv_istore_n (lv' := [(3, .int (kI (v + 1))), (5, .int (kI (bz (mrp σ 0 (i / 16) (i % 16))))), (0, .ref (z + 133)), (1, .int (kI kd)), (2, .int (kI w)), (4, .int (kI i))]) hx hb dX6_keysIn_90 rfl hl (by decide) rfl (fun ls hl => ?_)
              refine r_iinc (lv' := [(4, .int (kI (i + 1))), (3, .int (kI (v + 1))), (5, .int (kI (bz (mrp σ 0 (i / 16) (i % 16))))), (0, .ref (z + 133)), (1, .int (kI kd)), (2, .int (kI w))]) hx hb dX6_keysIn_91 hl (k := 5) rfl (by decide) rfl (fun ls hl => ?_)
              refine lv_goto (tgt := 5) hx hb dX6_keysIn_94 (by decide) ?_
              exact ih5 (v + 1) (i + 1) (by omega) (by omega) (by first | exact cn_t h0 hv hq | (rw [Int.add_zero]; exact cn_f h0 hv hq)) (by omega) _ _ G _ (lv_sub hl [3, 4, 5, 1, 0] rfl)
            · skip
              refine lv_iload hx hb dX6_keysIn_75 (lv_at hl 5 rfl) ?_
              refine r_bipush hx hb dX6_keysIn_77 (by decide +kernel) ?_
              refine r_idiv hx hb dX6_keysIn_79 (by omega) (by omega) (by omega) (by omega) ?_
              refine lv_iload_n hx hb dX6_keysIn_80 rfl (lv_at hl 2 rfl) ?_
              refine r_icmp_ne (tgt := 88) hx hb ⟨by omega, by omega⟩ ⟨by omega, by omega⟩ dX6_keysIn_81 (by decide) (fun h_10 => ?_) (fun h_10 => ?_)
              · skip
                refine r_iconst hx hb dX6_keysIn_88 ?_
                have hq : ¬ kinP σ kd w i := by unfold kinP; (first | rw [if_pos (by omega)] | rw [if_neg (by omega)]); omega
                refine r_iadd hx hb dX6_keysIn_89 ?_
                refine lv_istore_n (lv' := [(3, .int (kI (v + 0))), (5, .int (kI (bz (mrp σ 0 (i / 16) (i % 16))))), (0, .ref (z + 133)), (1, .int (kI kd)), (2, .int (kI w)), (4, .int (kI i))]) hx hb dX6_keysIn_90 rfl hl (by decide) rfl (fun ls hl => ?_)
                refine r_iinc (lv' := [(4, .int (kI (i + 1))), (3, .int (kI (v + 0))), (5, .int (kI (bz (mrp σ 0 (i / 16) (i % 16))))), (0, .ref (z + 133)), (1, .int (kI kd)), (2, .int (kI w))]) hx hb dX6_keysIn_91 hl (k := 5) rfl (by decide) rfl (fun ls hl => ?_)
                refine lv_goto (tgt := 5) hx hb dX6_keysIn_94 (by decide) ?_
                exact ih5 (v + 0) (i + 1) (by omega) (by omega) (by first | exact cn_t h0 hv hq | (rw [Int.add_zero]; exact cn_f h0 hv hq)) (by omega) _ _ G _ (lv_sub hl [3, 4, 5, 1, 0] rfl)
              · skip
                refine r_iconst hx hb dX6_keysIn_84 ?_
                refine lv_goto (tgt := 89) hx hb dX6_keysIn_85 (by decide) ?_
                have hq :  kinP σ kd w i := by unfold kinP; (first | rw [if_pos (by omega)] | rw [if_neg (by omega)]); omega
                refine r_iadd hx hb dX6_keysIn_89 ?_
                refine lv_istore_n (lv' := [(3, .int (kI (v + 1))), (5, .int (kI (bz (mrp σ 0 (i / 16) (i % 16))))), (0, .ref (z + 133)), (1, .int (kI kd)), (2, .int (kI w)), (4, .int (kI i))]) hx hb dX6_keysIn_90 rfl hl (by decide) rfl (fun ls hl => ?_)
                refine r_iinc (lv' := [(4, .int (kI (i + 1))), (3, .int (kI (v + 1))), (5, .int (kI (bz (mrp σ 0 (i / 16) (i % 16))))), (0, .ref (z + 133)), (1, .int (kI kd)), (2, .int (kI w))]) hx hb dX6_keysIn_91 hl (k := 5) rfl (by decide) rfl (fun ls hl => ?_)
                refine lv_goto (tgt := 5) hx hb dX6_keysIn_94 (by decide) ?_
                exact ih5 (v + 1) (i + 1) (by omega) (by omega) (by first | exact cn_t h0 hv hq | (rw [Int.add_zero]; exact cn_f h0 hv hq)) (by omega) _ _ G _ (lv_sub hl [3, 4, 5, 1, 0] rfl)
  exact lp5 65 0 0 (by omega) (by omega) (rfl) (by omega) _ _ G _ (lv_sub hl [2, 3, 4, 1, 0] rfl)
set_option maxRecDepth 100000 in
set_option maxHeartbeats 4000000 in
theorem k_X6_changes (l : Launch) {σ : Mem} {q v : Int} (hq : 0 ≤ q ∧ q < 2910) : CtI l yX6_changes (Cond.code yX6_changes cX6_changes 4 (some .int)) 0 0 (fun z => [.ref (z + 133), .int (kI q), .int (kI v)]) σ (σ 134 q) (up σ 134 q v) := by
  intro D T z
  refine Ct_of (by decide) (Nat.le_of_ble_eq_true rfl) ?_
  intro p e s m below meth c ls hx hb hml hr hts hown hlk G hl
  have hown : s.vm.findClass RX6 = some m.cls := hown
  have hl : lv_has ls 4 [(0, .ref (z + 133)), (1, .int (kI q)), (2, .int (kI v))] := hl
  refine lv_aload_n hx hb dX6_changes_0 rfl (lv_at hl 0 rfl) ?_
  refine gf_X6_7 hx hb hts hown G dX6_changes_1 ?_
  refine lv_iload_n hx hb dX6_changes_4 rfl (lv_at hl 1 rfl) ?_
  refine r_iald hx hb G 134 (by decide) (N := 2910) (fun _ => rfl) (by omega) (by omega) (by decide) dX6_changes_5 ?_
  refine lv_istore_n (lv' := [(3, .int (kI (σ 134 q))), (0, .ref (z + 133)), (1, .int (kI q)), (2, .int (kI v))]) hx hb dX6_changes_6 rfl hl (by decide) rfl (fun ls hl => ?_)
  refine lv_aload_n hx hb dX6_changes_7 rfl (lv_at hl 1 rfl) ?_
  refine gf_X6_7 hx hb hts hown G dX6_changes_8 ?_
  refine lv_iload_n hx hb dX6_changes_11 rfl (lv_at hl 2 rfl) ?_
  refine lv_iload_n hx hb dX6_changes_12 rfl (lv_at hl 3 rfl) ?_
  refine r_iast hx hb G 134 (by decide) (N := 2910) (fun _ => rfl) (by omega) (by omega) (by decide) dX6_changes_13 (fun H locs G => ?_)
  refine lv_iload_n hx hb dX6_changes_14 rfl (lv_at hl 0 rfl) ?_
  exact r_iret hx hb hr hlk G (by first | rfl | omega) (by rfl) dX6_changes_15
