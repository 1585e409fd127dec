/-! CLASS AND REFERENCE, one value: what the class's cells 2 to 14 (read off α) and the reference's first stretch (read off β) say of one another -/
def RK (α β : Mem) (k y : Int) : Prop := α 4 (k * 16 + y) = mS β 0 k y ∧ α 5 (k * 16 + y) = mR β 0 k y ∧ inR (α 6 (k * 16 + y)) ∧ (0 ≤ α 7 (k * 16 + y) ∧ α 7 (k * 16 + y) ≤ α 2 0) ∧ (mS β 0 k y = 2 → α 7 (k * 16 + y) = mT β 0 k y ∧ mR β 0 k y ≤ 8 ∧ α 6 (k * 16 + y) = plc β 0 k y) ∧ (mS β 0 k y = 0 → mR β 0 k y = 0)
def RC (α β : Mem) : Prop := (∀ k, 0 ≤ k ∧ k < 4 → α 9 k = β 134 (268 + k) ∧ α 10 k = β 134 (272 + k) ∧ α 11 k = β 134 (284 + k) ∧ α 12 k = β 134 (276 + k) ∧ α 13 k = β 134 (280 + k)) ∧ (α 8 5 = β 134 288 ∧ α 8 6 = β 134 289 ∧ α 8 7 = β 134 290) ∧ (∀ k, 0 ≤ k ∧ k < 4 → inR (α 13 k)) ∧ inR (α 8 6) ∧ inR (α 8 7)
def R1 (α β : Mem) : Prop := α 2 0 = mD β 0 ∧ (α 14 0 = mRu β 0 ∧ α 14 1 = mX β 0 1 ∧ α 14 2 = mX β 0 2) ∧ (∀ k, 0 ≤ k ∧ k < 4 → α 3 k = mSe β 0 k) ∧ (∀ k y, 0 ≤ k ∧ k < 4 → 0 ≤ y ∧ y < 16 → RK α β k y) ∧ RC α β ∧ SG β 0 9
theorem plc_m {σ τ : Mem} {b b' k y : Int} (hL : mL τ b' k = mL σ b k) (h0 : 0 ≤ mL σ b k) (hP : ∀ p, 0 ≤ p → p < mL σ b k → mP τ b' k p = mP σ b k p) : plc τ b' k y = plc σ b k y := by
  unfold plc
  rw [hL]
  have key : ∀ d : Nat, (d : Int) ≤ mL σ b k → it (plcF τ b' k y) (-1) d = it (plcF σ b k y) (-1) d := by
    intro d
    induction d with
    | zero => intro _; rfl
    | succ d ih =>
      intro hd
      have a1 : it (plcF τ b' k y) (-1) ((d + 1 : Nat) : Int) = plcF τ b' k y d (it (plcF τ b' k y) (-1) d) := it_s (i := (d : Int)) (by omega)
      have a2 : it (plcF σ b k y) (-1) ((d + 1 : Nat) : Int) = plcF σ b k y d (it (plcF σ b k y) (-1) d) := it_s (i := (d : Int)) (by omega)
      rw [a1, a2, ih (by omega)]
      unfold plcF
      rw [hP d (by omega) (by omega)]
  have := key (mL σ b k).toNat (by omega)
  rwa [show (((mL σ b k).toNat : Nat) : Int) = mL σ b k by omega] at this
section R1S
variable {α β : Mem}
theorem R1.d (h : R1 α β) : α 2 0 = mD β 0 := h.1
theorem R1.x (h : R1 α β) : α 14 0 = mRu β 0 ∧ α 14 1 = mX β 0 1 ∧ α 14 2 = mX β 0 2 := h.2.1
theorem R1.se (h : R1 α β) {k : Int} (hk : 0 ≤ k ∧ k < 4) : α 3 k = mSe β 0 k := h.2.2.1 k hk
theorem R1.ky (h : R1 α β) {k y : Int} (hk : 0 ≤ k ∧ k < 4) (hy : 0 ≤ y ∧ y < 16) : RK α β k y := h.2.2.2.1 k y hk hy
theorem R1.ct (h : R1 α β) : RC α β := h.2.2.2.2.1
theorem R1.g (h : R1 α β) : SG β 0 9 := h.2.2.2.2.2
theorem R1.is (h : R1 α β) : IS α := by
  have hd := h.g.d
  have hx := h.g.x
  have hr := h.g.ru
  have e := h.x
  refine ⟨⟨by rw [h.d]; exact hd, fun k a b => by rw [h.se ⟨a, b⟩]; exact (h.g.kd ⟨a, b⟩).1, fun i a b => ?_⟩, by rw [e.1]; exact hr, by rw [e.2.1]; exact hx.1, by rw [e.2.2]; exact hx.2⟩
  have hk : 0 ≤ i / 16 ∧ i / 16 < 4 := by omega
  have hy : 0 ≤ i % 16 ∧ i % 16 < 16 := by omega
  have g := h.ky hk hy
  have g2 := h.g.ky hk hy
  have ei : i / 16 * 16 + i % 16 = i := by omega
  unfold RK at g
  rw [ei] at g
  exact ⟨by rw [g.1]; exact g2.1, by rw [g.2.1]; exact g2.2.1, g.2.2.1, g.2.2.2.1⟩
/-- other memories with the same -/
theorem R1.m {α' β' : Mem} (h : R1 α β) (ea : ∀ c, 1 ≤ c → c < 15 → α' c = α c) (eb : ∀ j, 0 ≤ j → j < 291 → β' 134 j = β 134 j) : R1 α' β' := by
  obtain ⟨h1, h2, h3, h4, h5, h6⟩ := h
  have eD : mD β' 0 = mD β 0 := eb _ (by omega) (by omega)
  have eL : ∀ k, 0 ≤ k ∧ k < 4 → mL β' 0 k = mL β 0 k := fun k hk => eb _ (by omega) (by omega)
  have hpl : ∀ k y, 0 ≤ k ∧ k < 4 → plc β' 0 k y = plc β 0 k y := fun k y hk => plc_m (eL k hk) (h6.kd hk).2.1 (fun p a b => eb _ (by omega) (by have := (h6.kd hk).2; omega))
  refine ⟨by rw [ea 2 (by decide) (by decide), eD]; exact h1, ?_, fun k hk => ?_, fun k y hk hy => ?_, ⟨fun k hk => ?_, ?_, fun k hk => ?_, ?_⟩, h6.m (fun j a b => eb j a (by omega))⟩
  · rw [ea 14 (by decide) (by decide), show mRu β' 0 = mRu β 0 from eb _ (by omega) (by omega), show mX β' 0 1 = mX β 0 1 from eb _ (by omega) (by omega), show mX β' 0 2 = mX β 0 2 from eb _ (by omega) (by omega)]; exact h2
  · rw [ea 3 (by decide) (by decide), show mSe β' 0 k = mSe β 0 k from eb _ (by omega) (by omega)]; exact h3 k hk
  · have g := h4 k y hk hy
    unfold RK at g ⊢
    rw [ea 4 (by decide) (by decide), ea 5 (by decide) (by decide), ea 6 (by decide) (by decide), ea 7 (by decide) (by decide), ea 2 (by decide) (by decide), hpl k y hk,
      show mS β' 0 k y = mS β 0 k y from eb _ (by omega) (by omega), show mR β' 0 k y = mR β 0 k y from eb _ (by omega) (by omega), show mT β' 0 k y = mT β 0 k y from eb _ (by omega) (by omega)]
    exact g
  · rw [ea 9 (by decide) (by decide), ea 10 (by decide) (by decide), ea 11 (by decide) (by decide), ea 12 (by decide) (by decide), ea 13 (by decide) (by decide), eb _ (by omega) (by omega), eb _ (by omega) (by omega), eb _ (by omega) (by omega), eb _ (by omega) (by omega), eb _ (by omega) (by omega)]
    exact h5.1 k hk
  · rw [ea 8 (by decide) (by decide), eb _ (by omega) (by omega), eb _ (by omega) (by omega), eb _ (by omega) (by omega)]
    exact h5.2.1
  · rw [ea 13 (by decide) (by decide)]; exact h5.2.2.1 k hk
  · rw [ea 8 (by decide) (by decide)]; exact h5.2.2.2
theorem R1.rp (h : R1 α β) {k y : Int} (hk : 0 ≤ k ∧ k < 4) (hy : 0 ≤ y ∧ y < 16) : ripe α k y ↔ mrp β 0 k y := by
  have g := h.ky hk hy
  have hs := h.se hk
  have hd := h.d
  unfold RK at g
  constructor
  · intro q
    have q2 : mS β 0 k y = 2 := by rw [← g.1]; exact q.1
    have g7 := (g.2.2.2.2.1 q2).1
    exact ⟨q2, by have := q.2; omega⟩
  · intro q
    have g7 := (g.2.2.2.2.1 q.1).1
    exact ⟨by rw [g.1]; exact q.1, by have := q.2; omega⟩
theorem R1.cg (h : R1 α β) {k y : Int} (hk : 0 ≤ k ∧ k < 4) (hy : 0 ≤ y ∧ y < 16) : cbg α k y ↔ mcg β 0 k y := by
  have g := (h.ky hk hy).1
  have r := h.rp hk hy
  unfold cbg mcg
  rw [g, r]
/-! counts -/
theorem cn_app {P : Int → Prop} [DecidablePred P] {m n : Int} (hm : 0 ≤ m) (hn : 0 ≤ n) : cn P (m + n) = cn P m + cn (fun j => P (m + j)) n := by
  obtain ⟨d, rfl⟩ := Int.eq_ofNat_of_zero_le hn
  clear hn
  induction d with
  | zero => rw [show m + ((0 : Nat) : Int) = m by omega]; show cn P m = cn P m + 0; omega
  | succ d ih =>
    have e1 : m + ((d + 1 : Nat) : Int) = (m + d) + 1 := by omega
    have e2 : cn (fun j => P (m + j)) ((d + 1 : Nat) : Int) = cn (fun j => P (m + j)) d + bz (P (m + d)) := cn_s (P := fun j => P (m + j)) (i := (d : Int)) (by omega)
    rw [e1, cn_s (by omega), ih, e2]
    omega
theorem cn_0f {P : Int → Prop} [DecidablePred P] {n : Int} (hn : 0 ≤ n) (h : ∀ j, 0 ≤ j → j < n → ¬ P j) : cn P n = 0 := by
  have e : cn P n = cn (fun _ => False) n := cn_congr hn (fun j a b => ⟨fun q => h j a b q, fun q => q.elim⟩)
  rw [e]
  obtain ⟨d, rfl⟩ := Int.eq_ofNat_of_zero_le hn
  clear e h hn
  induction d with
  | zero => rfl
  | succ d ih =>
    have e2 : cn (fun _ => False) ((d + 1 : Nat) : Int) = cn (fun _ => False) d + bz False := cn_s (P := fun _ => False) (i := (d : Int)) (by omega)
    rw [e2, ih, bz_f (fun q => q)]; rfl
theorem cn_disj {P Q : Int → Prop} [DecidablePred P] [DecidablePred Q] {n : Int} (hn : 0 ≤ n) (h : ∀ j, P j → ¬ Q j) : cn P n + cn Q n ≤ n := by
  obtain ⟨d, rfl⟩ := Int.eq_ofNat_of_zero_le hn
  clear hn
  induction d with
  | zero => exact Int.le_refl _
  | succ d ih =>
    have e1 : cn P ((d + 1 : Nat) : Int) = cn P d + bz (P d) := cn_s (i := (d : Int)) (by omega)
    have e2 : cn Q ((d + 1 : Nat) : Int) = cn Q d + bz (Q d) := cn_s (i := (d : Int)) (by omega)
    have hp := bz_rg (P := P d)
    have hq := bz_rg (P := Q d)
    by_cases hP : P d
    · rw [bz_f (h _ hP)] at e2; omega
    · rw [bz_f hP] at e1; omega
/-- of one kind -/
abbrev kq (β : Mem) (w k y : Int) : Prop := if w = 4 then mrp β 0 k y else mS β 0 k y = w
theorem kin_blk {β : Mem} {kd w b : Int} (hb : 0 ≤ b ∧ b < 4) : cn (fun j => kinP β kd w (16 * b + j)) 16 = if kd < 0 ∨ b = kd then cn (fun y => kq β w b y) 16 else 0 := by
  by_cases h : kd < 0 ∨ b = kd
  · rw [if_pos h]
    refine cn_congr (by decide) (fun j a c => ?_)
    have e1 : (16 * b + j) / 16 = b := by omega
    have e2 : (16 * b + j) % 16 = j := by omega
    unfold kinP kq
    rw [e1, e2]
    exact ⟨fun q => q.1, fun q => ⟨q, h⟩⟩
  · rw [if_neg h]
    refine cn_0f (by decide) (fun j a c q => h ?_)
    have e1 : (16 * b + j) / 16 = b := by omega
    have q2 := q.2
    rw [e1] at q2
    exact q2
theorem kin_all {β : Mem} {kd w : Int} : kin β kd w = (if kd < 0 ∨ 0 = kd then cn (fun y => kq β w 0 y) 16 else 0) + (if kd < 0 ∨ 1 = kd then cn (fun y => kq β w 1 y) 16 else 0) + (if kd < 0 ∨ 2 = kd then cn (fun y => kq β w 2 y) 16 else 0) + (if kd < 0 ∨ 3 = kd then cn (fun y => kq β w 3 y) 16 else 0) := by
  rw [← kin_blk (kd := kd) (b := 0) (by decide), ← kin_blk (kd := kd) (b := 1) (by decide), ← kin_blk (kd := kd) (b := 2) (by decide), ← kin_blk (kd := kd) (b := 3) (by decide)]
  unfold kin
  have a1 := cn_app (P := kinP β kd w) (m := 48) (n := 16) (by decide) (by decide)
  have a2 := cn_app (P := kinP β kd w) (m := 32) (n := 16) (by decide) (by decide)
  have a3 := cn_app (P := kinP β kd w) (m := 16) (n := 16) (by decide) (by decide)
  have a4 := cn_app (P := kinP β kd w) (m := 0) (n := 16) (by decide) (by decide)
  have z0 : cn (kinP β kd w) 0 = 0 := rfl
  simp only [show (48 : Int) + 16 = 64 by decide, show (32 : Int) + 16 = 48 by decide, show (16 : Int) + 16 = 32 by decide, show (0 : Int) + 16 = 16 by decide, show (16 : Int) * 0 = 0 by decide, show (16 : Int) * 1 = 16 by decide, show (16 : Int) * 2 = 32 by decide, show (16 : Int) * 3 = 48 by decide] at *
  omega
theorem kin_k {β : Mem} {k w : Int} (hk : 0 ≤ k ∧ k < 4) : kin β k w = cn (fun y => kq β w k y) 16 := by
  rw [kin_all]
  obtain rfl | rfl | rfl | rfl : k = 0 ∨ k = 1 ∨ k = 2 ∨ k = 3 := by omega
  all_goals simp
theorem kin_m {β : Mem} {w : Int} : kin β (-1) w = cn (fun y => kq β w 0 y) 16 + cn (fun y => kq β w 1 y) 16 + cn (fun y => kq β w 2 y) 16 + cn (fun y => kq β w 3 y) 16 := by
  rw [kin_all]
  simp
theorem R1.hmq (h : R1 α β) {k w : Int} (hk : 0 ≤ k ∧ k < 4) (hw : w ≠ 4) : hm α k w = cn (fun y => kq β w k y) 16 := by
  unfold hm
  refine cn_congr (by decide) (fun j a b => ?_)
  rw [(h.ky hk ⟨a, b⟩).1]
  unfold kq
  rw [if_neg hw]
theorem R1.hrq (h : R1 α β) {k : Int} (hk : 0 ≤ k ∧ k < 4) : hrp α k = cn (fun y => kq β 4 k y) 16 := by
  unfold hrp
  refine cn_congr (by decide) (fun j a b => ?_)
  unfold kq
  rw [if_pos rfl]
  exact h.rp hk ⟨a, b⟩
theorem R1.hmk (h : R1 α β) {k w : Int} (hk : 0 ≤ k ∧ k < 4) (hw : w ≠ 4) : hm α k w = kin β k w := by rw [h.hmq hk hw, kin_k hk]
theorem R1.hr (h : R1 α β) {k : Int} (hk : 0 ≤ k ∧ k < 4) : hrp α k = kin β k 4 := by rw [h.hrq hk, kin_k hk]
theorem R1.hL (h : R1 α β) {k : Int} (hk : 0 ≤ k ∧ k < 4) : hm α k 2 = mL β 0 k := by
  rw [h.hmq hk (by decide), (h.g.pk hk).1]
  refine cn_congr (by decide) (fun j a b => ?_)
  unfold kq
  rw [if_neg (by decide)]
theorem it_4 {S : Type} {f : Int → S → S} {a : S} : it f a 4 = f 3 (f 2 (f 1 (f 0 a))) := rfl
theorem R1.ha (h : R1 α β) {w : Int} (hw : w ≠ 4) : hma α w = kin β (-1) w := by
  unfold hma
  rw [it_4, kin_m, h.hmq (by decide) hw, h.hmq (by decide) hw, h.hmq (by decide) hw, h.hmq (by decide) hw]
  omega
theorem R1.hrx (h : R1 α β) : hra α = kin β (-1) 4 := by
  unfold hra
  rw [it_4, kin_m, h.hrq (by decide), h.hrq (by decide), h.hrq (by decide), h.hrq (by decide)]
  omega
theorem R1.haL (h : R1 α β) : hma α 2 = sm β 264 := by
  unfold hma sm
  rw [it_4, h.hL (by decide), h.hL (by decide), h.hL (by decide), h.hL (by decide)]
  have e0 : mL β 0 0 = β 134 264 := m_at (by decide)
  have e1 : mL β 0 1 = β 134 (264 + 1) := m_at (by decide)
  have e2 : mL β 0 2 = β 134 (264 + 2) := m_at (by decide)
  have e3 : mL β 0 3 = β 134 (264 + 3) := m_at (by decide)
  omega
theorem R1.ab (h : R1 α β) : aba α = sm β 268 + sm β 284 - sm β 272 := by
  have c0 := h.ct.1 0 (by decide)
  have c1 := h.ct.1 1 (by decide)
  have c2 := h.ct.1 2 (by decide)
  have c3 := h.ct.1 3 (by decide)
  simp only [show (268 : Int) + 0 = 268 by decide, show (272 : Int) + 0 = 272 by decide, show (284 : Int) + 0 = 284 by decide] at c0
  unfold aba sm
  rw [it_4]
  omega
theorem it_eq {S : Type} {f g : Int → S → S} {a : S} {n : Int} (hn : 0 ≤ n) (h : ∀ j v, 0 ≤ j → j < n → f j v = g j v) : it f a n = it g a n := by
  obtain ⟨d, rfl⟩ := Int.eq_ofNat_of_zero_le hn
  clear hn
  induction d with
  | zero => rfl
  | succ d ih =>
    have e1 : it f a ((d + 1 : Nat) : Int) = f d (it f a d) := it_s (i := (d : Int)) (by omega)
    have e2 : it g a ((d + 1 : Nat) : Int) = g d (it g a d) := it_s (i := (d : Int)) (by omega)
    rw [e1, e2, ih (fun j v a b => h j v a (by omega)), h d _ (by omega) (by omega)]
theorem R1.gr (h : R1 α β) : gro α = mgr β := by
  unfold gro mgr
  refine it_eq (by decide) (fun j v a b => ?_)
  have hk : 0 ≤ j / 16 ∧ j / 16 < 4 := by omega
  have g := (h.ky hk (y := j % 16) (by omega)).2.1
  have e : mR β 0 (j / 16) (j % 16) = β 134 (8 + 3 * j + 1) := m_at (by omega)
  rw [show j / 16 * 16 + j % 16 = j by omega, e] at g
  rw [g]
theorem R1.no (h : R1 α β) {w : Int} (hw : 0 ≤ w ∧ w ≤ 9) (hs : α 15 1 = β 133 1) : nof α w = mco β w := by
  have hd : α 2 0 = β 134 3 := h.d
  have c := h.ct.2.1
  unfold nof mco
  rw [h.ha (w := 1) (by decide), h.ab, h.haL, h.hrx, h.gr, hs, hd, c.1, c.2.1, c.2.2]
  obtain rfl | rfl | rfl | rfl | rfl | rfl | rfl | rfl | rfl | rfl : w = 0 ∨ w = 1 ∨ w = 2 ∨ w = 3 ∨ w = 4 ∨ w = 5 ∨ w = 6 ∨ w = 7 ∨ w = 8 ∨ w = 9 := by omega
  all_goals first | rfl | simp
theorem R1.jd (h : R1 α β) {k y q : Int} (hk : 0 ≤ k ∧ k < 4) (hy : 0 ≤ y ∧ y < 16) : jud α k y q = mrf β k y q := by
  have g := h.ky hk hy
  unfold RK at g
  unfold jud mrf
  rw [g.1, g.2.1]
  (repeat' split) <;> omega
theorem R1.po (h : R1 α β) {k y w : Int} (hk : 0 ≤ k ∧ k < 4) (hy : 0 ≤ y ∧ y < 16) (hw : 0 ≤ w ∧ w ≤ 4) : pok α k y w = mky β k y w := by
  have g := h.ky hk hy
  have hd := h.d
  have hs := h.se hk
  unfold RK at g
  unfold pok mky dtr
  rw [g.1, g.2.1]
  by_cases h2 : mS β 0 k y = 2
  · have g5 := g.2.2.2.2.1 h2
    (repeat' split) <;> omega
  · (repeat' split) <;> omega
theorem R1.pk (h : R1 α β) {k w : Int} (hk : 0 ≤ k ∧ k < 4) (hw : 0 ≤ w ∧ w ≤ 10) : pkd α k w = mkd β k w := by
  have c := h.ct.1 k hk
  unfold pkd mkd
  rw [h.se hk, h.hmk (w := 0) hk (by decide), h.hmk (w := 1) hk (by decide), h.hL hk, h.hr hk, h.hmk (w := 3) hk (by decide), c.1, c.2.1, c.2.2.1, c.2.2.2.1, c.2.2.2.2]
  obtain rfl | rfl | rfl | rfl | rfl | rfl | rfl | rfl | rfl | rfl | rfl : w = 0 ∨ w = 1 ∨ w = 2 ∨ w = 3 ∨ w = 4 ∨ w = 5 ∨ w = 6 ∨ w = 7 ∨ w = 8 ∨ w = 9 ∨ w = 10 := by omega
  all_goals first | rfl | (simp; try exact m_at (by omega))
/-- the key at a place -/
theorem fs_at {P : Int → Prop} [DecidablePred P] {n y : Int} (h0 : 0 ≤ y) (h1 : y < n) (h : ∀ j, 0 ≤ j → j < n → (P j ↔ j = y)) : fs P n = y := by
  have key : ∀ d : Nat, (d : Int) ≤ y → fs P d = -1 := by
    intro d
    induction d with
    | zero => intro _; rfl
    | succ d ih =>
      intro hd
      exact fs_miss (i := (d : Int)) (by omega) (ih (by omega)) (fun q => by have := (h d (by omega) (by omega)).mp q; omega)
  have k1 := key y.toNat (by omega)
  rw [show ((y.toNat : Nat) : Int) = y by omega] at k1
  exact (fs_hit h0 h1 k1 ((h y h0 h1).mpr rfl)).symm
theorem fs_no {P : Int → Prop} [DecidablePred P] {n : Int} (hn : 0 ≤ n) (h : ∀ j, 0 ≤ j → j < n → ¬ P j) : fs P n = -1 := by
  obtain ⟨d, rfl⟩ := Int.eq_ofNat_of_zero_le hn
  clear hn
  induction d with
  | zero => rfl
  | succ d ih => exact fs_miss (i := (d : Int)) (by omega) (ih (fun j a b => h j a (by omega))) (h d (by omega) (by omega))
theorem R1.ka (h : R1 α β) {k q : Int} (hk : 0 ≤ k ∧ k < 4) (hq : 0 ≤ q) : kat α k q = mpl β k q := by
  have hL := (h.g.kd hk).2
  unfold kat mpl
  by_cases hlt : mL β 0 k ≤ q
  · rw [if_pos hlt]
    refine fs_no (by decide) (fun j a b g => ?_)
    have r := h.ky hk ⟨a, b⟩
    unfold RK at r
    have h2 : mS β 0 k j = 2 := by rw [← r.1]; exact g.1
    have r5 := (r.2.2.2.2.1 h2).2.2
    have p := (plc_ok h.g hk ⟨a, b⟩ h2).1
    omega
  · rw [if_neg hlt]
    have hpl := (h.g.pk hk).2.1 q hq (by omega)
    refine fs_at hpl.1.1 hpl.1.2 (fun j a b => ?_)
    have r := h.ky hk ⟨a, b⟩
    unfold RK at r
    constructor
    · intro g
      have h2 : mS β 0 k j = 2 := by rw [← r.1]; exact g.1
      have r5 := (r.2.2.2.2.1 h2).2.2
      have p := (plc_ok h.g hk ⟨a, b⟩ h2).2
      rw [← r5, g.2] at p
      exact p.symm
    · intro e
      have h2 : mS β 0 k j = 2 := by rw [e]; exact hpl.2
      have r5 := (r.2.2.2.2.1 h2).2.2
      refine ⟨by rw [r.1]; exact h2, ?_⟩
      rw [r5, plc_at (h.g.pk hk) ⟨hq, by omega⟩ e.symm]
end R1S
