/-! counts, firsts; a key drawn -/
theorem cn_congr {P Q : Int → Prop} [DecidablePred P] [DecidablePred Q] {n : Int} (h0 : 0 ≤ n) (h : ∀ j, 0 ≤ j → j < n → (P j ↔ Q j)) : cn P n = cn Q n := by
  obtain ⟨k, rfl⟩ := Int.eq_ofNat_of_zero_le h0
  clear h0
  induction k with
  | zero => rfl
  | succ k ih =>
    have e1 : cn P ((k + 1 : Nat) : Int) = cn P k + bz (P k) := cn_s (i := (k : Int)) (by omega)
    have e2 : cn Q ((k + 1 : Nat) : Int) = cn Q k + bz (Q k) := cn_s (i := (k : Int)) (by omega)
    rw [e1, e2, ih (fun j a b => h j a (by omega))]
    have h1 := h k (by omega) (by omega)
    by_cases hp : P k
    · rw [bz_t hp, bz_t (h1.mp hp)]
    · rw [bz_f hp, bz_f (fun q => hp (h1.mpr q))]
theorem cn_0f {P : Int → Prop} [DecidablePred P] {n : Int} (hn : 0 ≤ n) (h : ∀ j, 0 ≤ j → j < n → ¬ P j) : cn P n = 0 := by
  have e : cn P n = cn (fun _ => False) n := cn_congr hn (fun j a b => ⟨fun q => h j a b q, fun q => q.elim⟩)
  rw [e]
  obtain ⟨d, rfl⟩ := Int.eq_ofNat_of_zero_le hn
  clear e h hn
  induction d with
  | zero => rfl
  | succ d ih =>
    have e2 : cn (fun _ => False) ((d + 1 : Nat) : Int) = cn (fun _ => False) d + bz False := cn_s (P := fun _ => False) (i := (d : Int)) (by omega)
    rw [e2, ih, bz_f (fun q => q)]; rfl
theorem cn_disj {P Q : Int → Prop} [DecidablePred P] [DecidablePred Q] {n : Int} (hn : 0 ≤ n) (h : ∀ j, P j → ¬ Q j) : cn P n + cn Q n ≤ n := by
  obtain ⟨d, rfl⟩ := Int.eq_ofNat_of_zero_le hn
  clear hn
  induction d with
  | zero => exact Int.le_refl _
  | succ d ih =>
    have e1 : cn P ((d + 1 : Nat) : Int) = cn P d + bz (P d) := cn_s (i := (d : Int)) (by omega)
    have e2 : cn Q ((d + 1 : Nat) : Int) = cn Q d + bz (Q d) := cn_s (i := (d : Int)) (by omega)
    have hp := bz_rg (P := P d)
    have hq := bz_rg (P := Q d)
    by_cases hP : P d
    · rw [bz_f (h _ hP)] at e2; omega
    · rw [bz_f hP] at e1; omega
theorem it_4 {S : Type} {f : Int → S → S} {a : S} : it f a 4 = f 3 (f 2 (f 1 (f 0 a))) := rfl
theorem fs_at {P : Int → Prop} [DecidablePred P] {n y : Int} (h0 : 0 ≤ y) (h1 : y < n) (h : ∀ j, 0 ≤ j → j < n → (P j ↔ j = y)) : fs P n = y := by
  have key : ∀ d : Nat, (d : Int) ≤ y → fs P d = -1 := by
    intro d
    induction d with
    | zero => intro _; rfl
    | succ d ih =>
      intro hd
      exact fs_miss (i := (d : Int)) (by omega) (ih (by omega)) (fun q => by have := (h d (by omega) (by omega)).mp q; omega)
  have k1 := key y.toNat (by omega)
  rw [show ((y.toNat : Nat) : Int) = y by omega] at k1
  exact (fs_hit h0 h1 k1 ((h y h0 h1).mpr rfl)).symm
theorem fs_no {P : Int → Prop} [DecidablePred P] {n : Int} (hn : 0 ≤ n) (h : ∀ j, 0 ≤ j → j < n → ¬ P j) : fs P n = -1 := by
  obtain ⟨d, rfl⟩ := Int.eq_ofNat_of_zero_le hn
  clear hn
  induction d with
  | zero => rfl
  | succ d ih => exact fs_miss (i := (d : Int)) (by omega) (ih (fun j a b => h j a (by omega))) (h d (by omega) (by omega))
theorem nx {k k' y y' : Int} (hy : 0 ≤ y ∧ y < 16) (hy' : 0 ≤ y' ∧ y' < 16) : k' * 16 + y' = k * 16 + y ↔ k' = k ∧ y' = y := by omega
theorem tko_6 {α : Mem} {k y k' y' : Int} (hk : 0 ≤ k ∧ k < 4) (hk' : 0 ≤ k' ∧ k' < 4) (hy' : 0 ≤ y' ∧ y' < 16) : tko α k y 6 (k' * 16 + y') = if α 4 (k * 16 + y) = 2 ∧ k' = k ∧ α 6 (k * 16 + y) < α 6 (k' * 16 + y') then wr (α 6 (k' * 16 + y') - 1) else α 6 (k' * 16 + y') := by
  unfold tko
  by_cases h : α 4 (k * 16 + y) = 2
  · rw [if_pos h]
    have e : dec6 α (k * 16) (k * 16 + 16) (α 6 (k * 16 + y)) 6 (k' * 16 + y') = if (6 : Nat) = 6 ∧ k * 16 ≤ k' * 16 + y' ∧ k' * 16 + y' < k * 16 + 16 ∧ α 6 (k * 16 + y) < α 6 (k' * 16 + y') then wr (α 6 (k' * 16 + y') - 1) else α 6 (k' * 16 + y') := rfl
    rw [e]
    by_cases g : k' = k ∧ α 6 (k * 16 + y) < α 6 (k' * 16 + y')
    · rw [if_pos ⟨rfl, by omega, by omega, g.2⟩, if_pos ⟨h, g⟩]
    · rw [if_neg (fun q => g ⟨by omega, q.2.2.2⟩), if_neg (fun q => g q.2)]
  · rw [if_neg h, if_neg (fun q => h q.1)]
theorem lot_4 {α : Mem} {k y i : Int} : lot α k y 4 i = if i = k * 16 + y then 2 else α 4 i := by
  unfold lot
  rw [up_o (by decide), up_o (by decide), up_ap]
  by_cases q : i = k * 16 + y
  · rw [if_pos ⟨rfl, q⟩, if_pos q]
  · rw [if_neg (fun z => q z.2), if_neg q]; simp only [inc6]; rw [if_neg (fun z => absurd z.1 (by decide))]
theorem lot_6 {α : Mem} {k y k' y' : Int} (hy : 0 ≤ y ∧ y < 16) (hy' : 0 ≤ y' ∧ y' < 16) : lot α k y 6 (k' * 16 + y') = if k' = k ∧ y' = y then 0 else if k' = k then wr (α 6 (k' * 16 + y') + 1) else α 6 (k' * 16 + y') := by
  unfold lot
  rw [up_o (by decide), up_ap]
  by_cases q : k' = k ∧ y' = y
  · rw [if_pos ⟨rfl, (nx hy hy').mpr q⟩, if_pos q]
  · rw [if_neg (fun z => q ((nx hy hy').mp z.2)), if_neg q]
    have e : inc6 α (k * 16) (k * 16 + 16) 6 (k' * 16 + y') = if (6 : Nat) = 6 ∧ k * 16 ≤ k' * 16 + y' ∧ k' * 16 + y' < k * 16 + 16 then wr (α 6 (k' * 16 + y') + 1) else α 6 (k' * 16 + y') := rfl
    rw [up_o (by decide), e]
    by_cases g : k' = k
    · rw [if_pos ⟨rfl, by omega, by omega⟩, if_pos g]
    · rw [if_neg (fun z => g (by omega)), if_neg g]
theorem lot_7 {α : Mem} {k y i : Int} : lot α k y 7 i = if i = k * 16 + y then α 2 0 else α 7 i := by
  unfold lot
  rw [up_ap]
  by_cases q : i = k * 16 + y
  · rw [if_pos ⟨rfl, q⟩, if_pos q]
  · rw [if_neg (fun z => q z.2), if_neg q, up_o (by decide), up_o (by decide)]; simp only [inc6]; rw [if_neg (fun z => absurd z.1 (by decide))]
theorem lot_o {α : Mem} {k y : Int} {c : Nat} (h4 : c ≠ 4) (h6 : c ≠ 6) (h7 : c ≠ 7) : lot α k y c = α c := by
  unfold lot
  rw [up_o h7, up_o h6, up_o h4]
  funext j; simp only [inc6]; rw [if_neg (fun z => h6 z.1)]
def AM (C : Int → Prop) (r : Int → Int) (a : Int) : Prop := (a = -1 ∧ ∀ y, 0 ≤ y → y < 16 → ¬ C y) ∨ ((0 ≤ a ∧ a < 16) ∧ C a ∧ ∀ y, 0 ≤ y → y < 16 → C y → y ≠ a → r a < r y)
theorem AM.eq {C C' : Int → Prop} {r r' : Int → Int} {a b : Int} (h : AM C r a) (h' : AM C' r' b) (hC : ∀ y, 0 ≤ y → y < 16 → (C y ↔ C' y)) (hr : ∀ y z, (0 ≤ y ∧ y < 16) → (0 ≤ z ∧ z < 16) → C y → C z → r y < r z → r' y < r' z) : a = b := by
  rcases h with ⟨h1, h2⟩ | ⟨h1, h2, h3⟩
  · rcases h' with ⟨g1, g2⟩ | ⟨g1, g2, g3⟩
    · rw [h1, g1]
    · exact absurd ((hC b g1.1 g1.2).mpr g2) (h2 b g1.1 g1.2)
  · rcases h' with ⟨g1, g2⟩ | ⟨g1, g2, g3⟩
    · exact absurd ((hC a h1.1 h1.2).mp h2) (g2 a h1.1 h1.2)
    · by_cases e : a = b
      · exact e
      · exfalso
        have hb := (hC b g1.1 g1.2).mpr g2
        have ha := (hC a h1.1 h1.2).mp h2
        have k1 := hr a b h1 g1 h2 hb (h3 b g1.1 g1.2 hb (fun q => e q.symm))
        have k2 := g3 a h1.1 h1.2 ha e
        omega
theorem AM.pos {C : Int → Prop} {r : Int → Int} {a : Int} (h : AM C r a) (ha : 0 ≤ a) : a < 16 ∧ C a := by
  rcases h with ⟨h1, -⟩ | ⟨h1, h2, -⟩
  · omega
  · exact ⟨h1.2, h2⟩
theorem AM.neg {C : Int → Prop} {r : Int → Int} {a : Int} (h : AM C r a) (ha : a < 0) : ∀ y, 0 ≤ y → y < 16 → ¬ C y := by
  rcases h with ⟨-, h2⟩ | ⟨h1, -⟩
  · exact h2
  · omega
theorem drw_AM {α : Mem} {k r : Int} {t : Nat} (inj : ∀ y z, (0 ≤ y ∧ y < 16) → (0 ≤ z ∧ z < 16) → cbg α k y → cbg α k z → y ≠ z → rk α k y r ≠ rk α k z r) : AM (fun y => t.testBit y.toNat = false ∧ cbg α k y) (fun y => rk α k y r) (drw α k r t) := by
  have key := it_inv (f := dst α k r t) (a := (-1, 0)) (n := 16) (i := 16) (fun i v => (v.1 = -1 ∧ ∀ y, 0 ≤ y → y < i → ¬ (t.testBit y.toNat = false ∧ cbg α k y)) ∨ ((0 ≤ v.1 ∧ v.1 < i) ∧ (t.testBit v.1.toNat = false ∧ cbg α k v.1) ∧ v.2 = rk α k v.1 r ∧ ∀ y, 0 ≤ y → y < i → (t.testBit y.toNat = false ∧ cbg α k y) → y ≠ v.1 → rk α k v.1 r < rk α k y r))
    (Or.inl ⟨rfl, fun y a b => absurd a (by omega)⟩) (fun j v h0 h1 h => ?_) (by decide) (by decide)
  · unfold drw
    rcases key with ⟨a, b⟩ | ⟨a, b, -, d⟩
    · exact Or.inl ⟨a, b⟩
    · exact Or.inr ⟨a, b, d⟩
  · unfold dst
    by_cases hc : t.testBit j.toNat = true ∨ ¬ cbg α k j
    · rw [if_pos hc]
      have hn : ¬ (t.testBit j.toNat = false ∧ cbg α k j) := by
        intro q
        rcases hc with hc | hc
        · rw [hc] at q; exact absurd q.1 (by decide)
        · exact hc q.2
      rcases h with ⟨a, b⟩ | ⟨a, b, c, d⟩
      · refine Or.inl ⟨a, fun y a1 b1 => ?_⟩
        by_cases e : y = j
        · rw [e]; exact hn
        · exact b y a1 (by omega)
      · refine Or.inr ⟨⟨a.1, by omega⟩, b, c, fun y a1 b1 q ne => ?_⟩
        by_cases e : y = j
        · rw [e] at q; exact absurd q hn
        · exact d y a1 (by omega) q ne
    · rw [if_neg hc]
      have hy : t.testBit j.toNat = false ∧ cbg α k j := by
        constructor
        · cases q : t.testBit j.toNat with
          | false => rfl
          | true => exact absurd (Or.inl q) hc
        · by_cases q : cbg α k j
          · exact q
          · exact absurd (Or.inr q) hc
      rcases h with ⟨a, b⟩ | ⟨a, b, c, d⟩
      · rw [if_pos (Or.inl a)]
        refine Or.inr ⟨⟨h0, by show j < j + 1; omega⟩, hy, rfl, fun y a1 b1 q ne => ?_⟩
        exact absurd q (b y a1 (by have : y ≠ j := ne; omega))
      · by_cases hr : rk α k j r < v.2
        · rw [if_pos (Or.inr hr)]
          refine Or.inr ⟨⟨h0, by show j < j + 1; omega⟩, hy, rfl, fun y a1 b1 q ne => ?_⟩
          have ne : y ≠ j := ne
          show rk α k j r < rk α k y r
          by_cases e : y = v.1
          · rw [e, ← c]; exact hr
          · have := d y a1 (by omega) q e
            omega
        · rw [if_neg (by intro q; rcases q with q | q; omega; exact hr q)]
          refine Or.inr ⟨⟨a.1, by omega⟩, b, c, fun y a1 b1 q ne => ?_⟩
          by_cases e : y = j
          · rw [e]
            have := inj j v.1 ⟨h0, h1⟩ ⟨a.1, by omega⟩ hy.2 b.2 (by omega)
            omega
          · exact d y a1 (by omega) q ne
theorem cn_upd {P P' : Int → Prop} [DecidablePred P] [DecidablePred P'] {n y : Int} (h0 : 0 ≤ y) (h1 : y < n) (h : ∀ j, 0 ≤ j → j < n → j ≠ y → (P' j ↔ P j)) : cn P' n = cn P n + bz (P' y) - bz (P y) := by
  obtain ⟨d, rfl⟩ := Int.eq_ofNat_of_zero_le (show 0 ≤ n by omega)
  induction d with
  | zero => exact absurd h1 (by omega)
  | succ d ih =>
    have a1 : cn P' ((d + 1 : Nat) : Int) = cn P' d + bz (P' d) := cn_s (i := (d : Int)) (by omega)
    have a2 : cn P ((d + 1 : Nat) : Int) = cn P d + bz (P d) := cn_s (i := (d : Int)) (by omega)
    rw [a1, a2]
    by_cases e : y = d
    · have a3 : cn P' (d : Int) = cn P d := cn_congr (by omega) (fun j a b => h j a (by omega) (by omega))
      rw [e]
      omega
    · have a4 := ih (by omega) (fun j a b ne => h j a (by omega) ne)
      have a5 : bz (P' (d : Int)) = bz (P d) := bz_congr (h d (by omega) (by omega) (fun q => e q.symm))
      omega
theorem cn_zero {P : Int → Prop} [DecidablePred P] {n : Int} (h : cn P n = 0) : ∀ j, 0 ≤ j → j < n → ¬ P j := by
  intro j h0 h1 hP
  obtain ⟨d, rfl⟩ := Int.eq_ofNat_of_zero_le (show 0 ≤ n by omega)
  induction d with
  | zero => omega
  | succ d ih =>
    have a2 : cn P ((d + 1 : Nat) : Int) = cn P d + bz (P d) := cn_s (i := (d : Int)) (by omega)
    have r := cn_rg (P := P) (i := (d : Int)) (by omega)
    have b := bz_rg (P := P (d : Int))
    by_cases e : j = d
    · rw [e] at hP
      rw [bz_t hP] at a2
      omega
    · exact ih (by omega) (by omega)
theorem cn_ex {P : Int → Prop} [DecidablePred P] {n : Int} (hn : 0 ≤ n) (h : 0 < cn P n) : ∃ j, 0 ≤ j ∧ j < n ∧ P j := by
  by_cases g : ∃ j, 0 ≤ j ∧ j < n ∧ P j
  · exact g
  · have := cn_0f (P := P) hn (fun j a b q => g ⟨j, a, b, q⟩)
    omega
theorem cn_pos {P : Int → Prop} [DecidablePred P] {n j : Int} (h0 : 0 ≤ j) (h1 : j < n) (hP : P j) : 0 < cn P n := by
  have r := cn_rg (P := P) (i := n) (by omega)
  by_cases g : cn P n = 0
  · exact absurd hP (cn_zero g j h0 h1)
  · omega
theorem hm_up {σ τ : Mem} {k y v k' w : Int} (hy : 0 ≤ y ∧ y < 16) (h4 : ∀ i, τ 4 i = if i = k * 16 + y then v else σ 4 i) : hm τ k' w = if k' = k then hm σ k' w + bz (v = w) - bz (σ 4 (k * 16 + y) = w) else hm σ k' w := by
  unfold hm
  by_cases hkk : k' = k
  · subst hkk
    rw [if_pos rfl]
    have e := cn_upd (P := fun j => σ 4 (k' * 16 + j) = w) (P' := fun j => τ 4 (k' * 16 + j) = w) (n := 16) (y := y) hy.1 hy.2 (fun j a b ne => by
      show τ 4 (k' * 16 + j) = w ↔ σ 4 (k' * 16 + j) = w
      rw [h4, if_neg (by omega)])
    rw [e]
    have e2 : bz (τ 4 (k' * 16 + y) = w) = bz (v = w) := bz_congr (by rw [h4, if_pos rfl])
    show _ + bz (τ 4 (k' * 16 + y) = w) - bz (σ 4 (k' * 16 + y) = w) = _
    rw [e2]
  · rw [if_neg hkk]
    refine cn_congr (by decide) (fun j a b => ?_)
    show τ 4 (k' * 16 + j) = w ↔ σ 4 (k' * 16 + j) = w
    rw [h4, if_neg (by omega)]
/-! WHAT ALWAYS HOLDS of a Compost (cells 2 to 14), n calls or fewer behind the start -/
def KI (σ : Mem) (k y : Int) : Prop := (σ 4 (k * 16 + y) = 0 ↔ σ 5 (k * 16 + y) = 0) ∧ (σ 4 (k * 16 + y) = 2 → σ 5 (k * 16 + y) ≤ 8 ∧ 0 ≤ σ 6 (k * 16 + y) ∧ σ 6 (k * 16 + y) < hm σ k 2)
def PI (σ : Mem) (k : Int) : Prop := ∀ y z, (0 ≤ y ∧ y < 16) → (0 ≤ z ∧ z < 16) → σ 4 (k * 16 + y) = 2 → σ 4 (k * 16 + z) = 2 → σ 6 (k * 16 + y) = σ 6 (k * 16 + z) → y = z
def KD (σ : Mem) : Prop := ∀ k, 0 ≤ k ∧ k < 4 → (∀ y, 0 ≤ y ∧ y < 16 → KI σ k y) ∧ PI σ k
def ACk (n : Int) (σ : Mem) (k : Int) : Prop := (0 ≤ σ 9 k ∧ σ 9 k ≤ n) ∧ (0 ≤ σ 10 k ∧ σ 10 k ≤ n) ∧ (0 ≤ σ 11 k ∧ σ 11 k ≤ n) ∧ (0 ≤ σ 13 k ∧ σ 13 k ≤ σ 12 k ∧ σ 12 k ≤ n) ∧ σ 9 k + σ 11 k - σ 10 k = hm σ k 1
def AC (n : Int) (σ : Mem) : Prop := (∀ k, 0 ≤ k ∧ k < 4 → ACk n σ k) ∧ (0 ≤ σ 8 6 ∧ 0 ≤ σ 8 7 ∧ σ 8 6 + σ 8 7 ≤ σ 8 5 ∧ σ 8 5 ≤ n)
def Inv (n : Int) (σ : Mem) : Prop := IS σ ∧ σ 2 0 ≤ 5 * n ∧ KD σ ∧ AC n σ
theorem Inv.up {n n' : Int} {σ : Mem} (h : Inv n σ) (hn : n ≤ n') : Inv n' σ := by
  obtain ⟨h1, h2, h3, h4, h5⟩ := h
  refine ⟨h1, by omega, h3, fun k hk => ?_, by omega⟩
  have g := h4 k hk
  unfold ACk at g ⊢
  omega
/-- other memories with the same -/
theorem Inv.mc {n : Int} {σ τ : Mem} (h : Inv n σ) (ea : ∀ k j, inC k j → τ (k + 1) j = σ (k + 1) j) : Inv n τ := by
  have a2 : τ 2 0 = σ 2 0 := ea 1 0 (Or.inl ⟨rfl, rfl⟩)
  have a3 : ∀ k, 0 ≤ k → k < 4 → τ 3 k = σ 3 k := fun k p q => ea 2 k (Or.inr (Or.inl ⟨rfl, p, q⟩))
  have a4 : ∀ c j, 4 ≤ c → c ≤ 7 → 0 ≤ j → j < 64 → τ c j = σ c j := fun c j p q r s => by
    obtain ⟨k, rfl⟩ : ∃ k, c = k + 1 := ⟨c - 1, by omega⟩
    exact ea k j (Or.inr (Or.inr (Or.inl ⟨by omega, by omega, r, s⟩)))
  have a8 : ∀ j, 5 ≤ j → j ≤ 7 → τ 8 j = σ 8 j := fun j p q => ea 7 j (Or.inr (Or.inr (Or.inr (Or.inl ⟨rfl, p, q⟩))))
  have a9 : ∀ c k, 9 ≤ c → c ≤ 13 → 0 ≤ k ∧ k < 4 → τ c k = σ c k := fun c j p q r => by
    obtain ⟨k, rfl⟩ : ∃ k, c = k + 1 := ⟨c - 1, by omega⟩
    exact ea k j (Or.inr (Or.inr (Or.inr (Or.inr (Or.inl ⟨by omega, by omega, r.1, r.2⟩)))))
  have a14 : ∀ j, 0 ≤ j → j < 3 → τ 14 j = σ 14 j := fun j p q => ea 13 j (Or.inr (Or.inr (Or.inr (Or.inr (Or.inr ⟨rfl, p, q⟩)))))
  have eh : ∀ k w, 0 ≤ k ∧ k < 4 → hm τ k w = hm σ k w := fun k w hk => by
    unfold hm
    refine cn_congr (by decide) (fun j a b => ?_)
    show τ 4 (k * 16 + j) = w ↔ σ 4 (k * 16 + j) = w
    rw [a4 4 _ (by decide) (by decide) (by omega) (by omega)]
  obtain ⟨⟨⟨i1, i2, i3⟩, i4, i5, i6⟩, h2, h3, h4, h5⟩ := h
  refine ⟨⟨⟨by rw [a2]; exact i1, fun k p q => by rw [a3 k p q]; exact i2 k p q, fun i p q => ?_⟩, ?_, ?_, ?_⟩, by rw [a2]; exact h2, fun k hk => ⟨fun y hy => ?_, fun y z hy hz g1 g2 g3 => ?_⟩, fun k hk => ?_, ?_⟩
  · rw [a4 4 _ (by decide) (by decide) p q, a4 5 _ (by decide) (by decide) p q, a4 6 _ (by decide) (by decide) p q, a4 7 _ (by decide) (by decide) p q, a2]; exact i3 i p q
  · rw [a14 0 (by decide) (by decide)]; exact i4
  · rw [a14 1 (by decide) (by decide)]; exact i5
  · rw [a14 2 (by decide) (by decide)]; exact i6
  · have g := (h3 k hk).1 y hy
    unfold KI at g ⊢
    rw [a4 4 _ (by decide) (by decide) (by omega) (by omega), a4 5 _ (by decide) (by decide) (by omega) (by omega), a4 6 _ (by decide) (by decide) (by omega) (by omega), eh k 2 hk]; exact g
  · rw [a4 4 _ (by decide) (by decide) (by omega) (by omega)] at g1 g2
    rw [a4 6 _ (by decide) (by decide) (by omega) (by omega), a4 6 _ (by decide) (by decide) (by omega) (by omega)] at g3
    exact (h3 k hk).2 y z hy hz g1 g2 g3
  · have g := h4 k hk
    unfold ACk at g ⊢
    rw [a9 9 k (by decide) (by decide) hk, a9 10 k (by decide) (by decide) hk, a9 11 k (by decide) (by decide) hk, a9 12 k (by decide) (by decide) hk, a9 13 k (by decide) (by decide) hk, eh k 1 hk]; exact g
  · rw [a8 5 (by decide) (by decide), a8 6 (by decide) (by decide), a8 7 (by decide) (by decide)]; exact h5
theorem Inv.of {n : Int} {σ τ : Mem} (h : Inv n σ) (e : ∀ c, 1 ≤ c → c < 15 → τ c = σ c) : Inv n τ := h.mc (fun k j q => by
  have : 1 ≤ k ∧ k < 14 := by unfold inC at q; omega
  rw [e (k + 1) (by omega) (by omega)])
section INV
variable {n n' : Int} {σ τ : Mem} {k y v : Int}
theorem Inv.is (h : Inv n σ) : IS σ := h.1
theorem Inv.ic (h : Inv n σ) : IC σ := h.1.1
theorem Inv.ki (h : Inv n σ) (hk : 0 ≤ k ∧ k < 4) (hy : 0 ≤ y ∧ y < 16) : KI σ k y := (h.2.2.1 k hk).1 y hy
theorem Inv.pi (h : Inv n σ) (hk : 0 ≤ k ∧ k < 4) : PI σ k := (h.2.2.1 k hk).2
theorem Inv.ac (h : Inv n σ) (hk : 0 ≤ k ∧ k < 4) : ACk n σ k := h.2.2.2.1 k hk
theorem Inv.rg (h : Inv n σ) (hk : 0 ≤ k ∧ k < 4) (hy : 0 ≤ y ∧ y < 16) : (0 ≤ σ 4 (k * 16 + y) ∧ σ 4 (k * 16 + y) ≤ 3) ∧ (0 ≤ σ 5 (k * 16 + y) ∧ σ 5 (k * 16 + y) ≤ 9) ∧ inR (σ 6 (k * 16 + y)) ∧ 0 ≤ σ 7 (k * 16 + y) ∧ σ 7 (k * 16 + y) ≤ σ 2 0 := h.1.1.2.2 (k * 16 + y) (by omega) (by omega)
/-- one key changes -/
theorem Inv.key (h : Inv n σ) (hk : 0 ≤ k ∧ k < 4) (hy : 0 ≤ y ∧ y < 16) (e2 : τ 2 = σ 2) (e3 : τ 3 = σ 3) (e14 : τ 14 = σ 14) (e4 : ∀ i, τ 4 i = if i = k * 16 + y then v else σ 4 i) (hv : 0 ≤ v ∧ v ≤ 3) (e5 : ∀ i, i ≠ k * 16 + y → τ 5 i = σ 5 i) (h5 : 0 ≤ τ 5 (k * 16 + y) ∧ τ 5 (k * 16 + y) ≤ 9 ∧ (v = 0 ↔ τ 5 (k * 16 + y) = 0) ∧ (v = 2 → τ 5 (k * 16 + y) ≤ 8))
    (h6 : ∀ k' y', 0 ≤ k' ∧ k' < 4 → 0 ≤ y' ∧ y' < 16 → inR (τ 6 (k' * 16 + y'))) (h7 : ∀ i, 0 ≤ i → i < 64 → 0 ≤ τ 7 i ∧ τ 7 i ≤ σ 2 0)
    (hp : ∀ k', 0 ≤ k' ∧ k' < 4 → (∀ y', 0 ≤ y' ∧ y' < 16 → τ 4 (k' * 16 + y') = 2 → 0 ≤ τ 6 (k' * 16 + y') ∧ τ 6 (k' * 16 + y') < hm τ k' 2) ∧ PI τ k') (hac : AC n' τ) (hn : n ≤ n') : Inv n' τ := by
  obtain ⟨⟨⟨i1, i2, i3⟩, i4⟩, d1, d2, -⟩ := h
  refine ⟨⟨⟨by rw [e2]; exact i1, by rw [e3]; exact i2, fun i p q => ?_⟩, by rw [e14]; exact i4⟩, by rw [e2]; omega, fun k' hk' => ⟨fun y' hy' => ⟨?_, fun g => ⟨?_, (hp k' hk').1 y' hy' g⟩⟩, (hp k' hk').2⟩, hac⟩
  · have g := i3 i p q
    have g6 := h6 (i / 16) (i % 16) (by omega) (by omega)
    rw [show i / 16 * 16 + i % 16 = i by omega] at g6
    have g7 := h7 i p q
    rw [e2, e4]
    by_cases z : i = k * 16 + y
    · rw [if_pos z]
      subst z
      exact ⟨hv, ⟨h5.1, h5.2.1⟩, g6, g7⟩
    · rw [if_neg z, e5 i z]
      exact ⟨g.1, g.2.1, g6, g7⟩
  · have g := ((d2 k' hk').1 y' hy').1
    rw [e4]
    by_cases z : k' * 16 + y' = k * 16 + y
    · rw [if_pos z, z]; exact h5.2.2.1
    · rw [if_neg z, e5 _ z]; exact g
  · rw [e4] at g
    by_cases z : k' * 16 + y' = k * 16 + y
    · rw [if_pos z] at g
      rw [z]; exact h5.2.2.2 g
    · rw [if_neg z] at g
      rw [e5 _ z]; exact (((d2 k' hk').1 y' hy').2 g).1
/-- the piles when a key goes out of one (or was in none) -/
theorem take_pl (h : Inv n σ) (hk : 0 ≤ k ∧ k < 4) (hy : 0 ≤ y ∧ y < 16) (e4 : ∀ i, τ 4 i = if i = k * 16 + y then v else σ 4 i) (hv : v ≠ 2) (e6 : τ 6 = tko σ k y 6) : ∀ k', 0 ≤ k' ∧ k' < 4 → (∀ y', 0 ≤ y' ∧ y' < 16 → τ 4 (k' * 16 + y') = 2 → 0 ≤ τ 6 (k' * 16 + y') ∧ τ 6 (k' * 16 + y') < hm τ k' 2) ∧ PI τ k' := by
  intro k' hk'
  have eh := hm_up (k' := k') (w := 2) hy e4
  rw [bz_f hv] at eh
  have hr := hm_rg (σ := σ) (k := k') (w := 2)
  have old : ∀ y', 0 ≤ y' ∧ y' < 16 → τ 4 (k' * 16 + y') = 2 → σ 4 (k' * 16 + y') = 2 ∧ ¬ (k' = k ∧ y' = y) := fun y' hy' g => by
    rw [e4] at g
    by_cases z : k' * 16 + y' = k * 16 + y
    · rw [if_pos z] at g; exact absurd g hv
    · rw [if_neg z] at g; exact ⟨g, by omega⟩
  have sh : ∀ y', 0 ≤ y' ∧ y' < 16 → σ 4 (k' * 16 + y') = 2 → ¬ (k' = k ∧ y' = y) → (if k' = k ∧ σ 4 (k * 16 + y) = 2 then (σ 6 (k' * 16 + y') ≠ σ 6 (k * 16 + y) ∧ τ 6 (k' * 16 + y') = (if σ 6 (k * 16 + y) < σ 6 (k' * 16 + y') then σ 6 (k' * 16 + y') - 1 else σ 6 (k' * 16 + y'))) else τ 6 (k' * 16 + y') = σ 6 (k' * 16 + y')) := fun y' hy' g ne => by
    have gp := ((h.ki hk' hy').2 g).2
    rw [e6, tko_6 hk hk' hy']
    by_cases z : k' = k ∧ σ 4 (k * 16 + y) = 2
    · rw [if_pos z]
      refine ⟨fun q => ne ⟨z.1, ?_⟩, ?_⟩
      · have hpi := h.pi hk'
        have z1 := z.1
        rw [← z1] at q z
        exact hpi y' y hy' hy g z.2 q
      · by_cases w : σ 6 (k * 16 + y) < σ 6 (k' * 16 + y')
        · rw [if_pos ⟨z.2, z.1, w⟩, if_pos w]
          exact wr_eq ⟨by omega, by omega⟩
        · rw [if_neg (fun q => w q.2.2), if_neg w]
    · rw [if_neg z, if_neg (fun q => z ⟨q.2.1, q.1⟩)]
  refine ⟨fun y' hy' g => ?_, fun y1 z1 h1 h2 g1 g2 g3 => ?_⟩
  · obtain ⟨g0, ne⟩ := old y' hy' g
    have gp := ((h.ki hk' hy').2 g0).2
    have s := sh y' hy' g0 ne
    by_cases z : k' = k ∧ σ 4 (k * 16 + y) = 2
    · rw [if_pos z] at s
      rw [if_pos z.1, bz_t z.2] at eh
      have gy := ((h.ki hk hy).2 z.2).2
      rw [← z.1] at gy
      rw [s.2, eh]
      have s1 := s.1
      rw [← z.1] at s1
      rw [← z.1]
      split <;> omega
    · rw [if_neg z] at s
      rw [s, eh]
      by_cases w : k' = k
      · rw [if_pos w, bz_f (fun q => z ⟨w, q⟩)]; omega
      · rw [if_neg w]; omega
  · obtain ⟨a1, ne1⟩ := old y1 h1 g1
    obtain ⟨a2, ne2⟩ := old z1 h2 g2
    have s1 := sh y1 h1 a1 ne1
    have s2 := sh z1 h2 a2 ne2
    refine h.pi hk' y1 z1 h1 h2 a1 a2 ?_
    by_cases z : k' = k ∧ σ 4 (k * 16 + y) = 2
    · rw [if_pos z] at s1 s2
      obtain ⟨b1, c1⟩ := s1
      obtain ⟨b2, c2⟩ := s2
      rw [c1, c2] at g3
      split at g3 <;> split at g3 <;> omega
    · rw [if_neg z] at s1 s2
      omega
theorem gvk_e {c : Nat} (h4 : c ≠ 4) (h5 : c ≠ 5) (h6 : c ≠ 6) (h9 : c ≠ 9) : gvk σ k y c = σ c := by unfold gvk; rw [up_o h9, giv_o h6 h5 h4]
theorem gvk_4 {i : Int} : gvk σ k y 4 i = if i = k * 16 + y then 1 else σ 4 i := by
  unfold gvk giv; rw [up_o (by decide), up_ap]; by_cases q : i = k * 16 + y
  · rw [if_pos ⟨rfl, q⟩, if_pos q]
  · rw [if_neg (fun z => q z.2), if_neg q, up_o (by decide), tko_o (by decide)]
theorem gvk_5 {i : Int} : gvk σ k y 5 i = if i = k * 16 + y then σ 5 (k * 16 + y) + 1 else σ 5 i := by
  unfold gvk giv; rw [up_o (by decide), up_o (by decide), up_ap]; by_cases q : i = k * 16 + y
  · rw [if_pos ⟨rfl, q⟩, if_pos q]
  · rw [if_neg (fun z => q z.2), if_neg q, tko_o (by decide)]
theorem gvk_6 : gvk σ k y 6 = tko σ k y 6 := by funext i; unfold gvk giv; rw [up_o (by decide), up_o (by decide), up_o (by decide)]
theorem gvk_9 {i : Int} : gvk σ k y 9 i = if i = k then wr (σ 9 k + 1) else σ 9 i := by
  unfold gvk; rw [up_ap]; by_cases q : i = k
  · rw [if_pos ⟨rfl, q⟩, if_pos q]
  · rw [if_neg (fun z => q z.2), if_neg q, giv_o (by decide) (by decide) (by decide)]
theorem tko_in (h : Inv n σ) (hk : 0 ≤ k ∧ k < 4) : ∀ k' y', 0 ≤ k' ∧ k' < 4 → 0 ≤ y' ∧ y' < 16 → inR (tko σ k y 6 (k' * 16 + y')) := fun k' y' hk' hy' => by
  rw [tko_6 hk hk' hy']
  split
  · exact wr_rg _
  · exact (h.rg hk' hy').2.2.1
theorem Inv_gvk (h : Inv n σ) (hn : n ≤ 1000) (hk : 0 ≤ k ∧ k < 4) (hy : 0 ≤ y ∧ y < 16) (hc : cbg σ k y) : Inv (n + 1) (gvk σ k y) := by
  have g := h.rg hk hy
  have gk := h.ki hk hy
  unfold KI at gk
  have hr : σ 5 (k * 16 + y) ≤ 8 := by
    rcases hc with q | q
    · have := gk.1.mp q; omega
    · exact (gk.2 q.1).1
  have hs : σ 4 (k * 16 + y) ≠ 1 := by
    rcases hc with q | q
    · omega
    · have := q.1; omega
  have e5 : gvk σ k y 5 (k * 16 + y) = σ 5 (k * 16 + y) + 1 := by rw [gvk_5, if_pos rfl]
  have e4 : ∀ i, gvk σ k y 4 i = if i = k * 16 + y then 1 else σ 4 i := fun i => gvk_4
  refine h.key (n' := n + 1) (v := 1) hk hy (gvk_e (by decide) (by decide) (by decide) (by decide)) (gvk_e (by decide) (by decide) (by decide) (by decide)) (gvk_e (by decide) (by decide) (by decide) (by decide)) e4 (by decide) (fun i hi => by rw [gvk_5, if_neg hi]) ⟨by omega, by omega, ⟨fun q => by omega, fun q => by omega⟩, fun q => by omega⟩ (by rw [gvk_6]; exact tko_in h hk) (fun i p q => by rw [gvk_e (by decide) (by decide) (by decide) (by decide)]; exact (h.ic.2.2 i p q).2.2.2) (take_pl h hk hy e4 (by decide) gvk_6) ⟨fun k' hk' => ?_, ?_⟩ (by omega)
  · have a := h.ac hk'
    unfold ACk at a ⊢
    rw [gvk_9, gvk_e (c := 10) (by decide) (by decide) (by decide) (by decide), gvk_e (c := 11) (by decide) (by decide) (by decide) (by decide), gvk_e (c := 12) (by decide) (by decide) (by decide) (by decide), gvk_e (c := 13) (by decide) (by decide) (by decide) (by decide), hm_up (k' := k') (w := 1) hy e4, bz_t (show (1 : Int) = 1 from rfl), bz_f hs]
    by_cases z : k' = k
    · rw [if_pos z, if_pos z, ← z, wr_eq ⟨by omega, by omega⟩]; omega
    · rw [if_neg z, if_neg z]; omega
  · have a := h.2.2.2.2
    rw [gvk_e (c := 8) (by decide) (by decide) (by decide) (by decide)]; omega
/-- only counters change -/
theorem Inv.cnt (h : Inv n σ) (e : ∀ c, (2 ≤ c ∧ c < 8) ∨ c = 14 → τ c = σ c) (hac : AC n' τ) (hn : n ≤ n') : Inv n' τ := by
  obtain ⟨i1, d1, d2, -⟩ := h
  have eh : ∀ k w, hm τ k w = hm σ k w := fun k w => by unfold hm; rw [e 4 (by decide)]
  refine ⟨?_, by rw [e 2 (by decide)]; omega, fun k hk => ?_, hac⟩
  · unfold IS IC at *
    rw [e 2 (by decide), e 3 (by decide), e 4 (by decide), e 5 (by decide), e 6 (by decide), e 7 (by decide), e 14 (by decide)]
    exact i1
  · have g := d2 k hk
    unfold KI PI at *
    rw [e 4 (by decide), e 5 (by decide), e 6 (by decide), eh]
    exact g
theorem nwo_12 {q i : Int} : nwo σ k q 12 i = if i = k then wr (σ 12 k + 1) else σ 12 i := by
  unfold nwo
  have e : up σ 12 k (wr (σ 12 k + 1)) 12 i = if i = k then wr (σ 12 k + 1) else σ 12 i := by
    rw [up_ap]; by_cases z : i = k
    · rw [if_pos ⟨rfl, z⟩, if_pos z]
    · rw [if_neg (fun w => z w.2), if_neg z]
  split
  · rw [up_o (by decide), e]
  · exact e
theorem nwo_13 {q i : Int} : nwo σ k q 13 i = if (q = 2 ∨ q = 5) ∧ i = k then wr (σ 13 k + 1) else σ 13 i := by
  unfold nwo
  by_cases g : q = 2 ∨ q = 5
  · rw [if_pos g, up_ap]; by_cases z : i = k
    · rw [if_pos ⟨rfl, z⟩, if_pos ⟨g, z⟩]
    · rw [if_neg (fun w => z w.2), if_neg (fun w => z w.2), up_o (by decide)]
  · rw [if_neg g, if_neg (fun w => g w.1), up_o (by decide)]
theorem Inv_nwo {q : Int} (h : Inv n σ) (hn : n ≤ 1000) : Inv (n + 1) (nwo σ k q) := by
  have o : ∀ c, c ≠ 12 → c ≠ 13 → nwo σ k q c = σ c := fun c a b => nwo_o a b
  have eh : ∀ k' w, hm (nwo σ k q) k' w = hm σ k' w := fun k' w => by unfold hm; rw [o 4 (by decide) (by decide)]
  refine h.cnt (fun c hc => o c (by omega) (by omega)) ⟨fun k' hk' => ?_, ?_⟩ (by omega)
  · have a := h.ac hk'
    unfold ACk at a ⊢
    rw [nwo_12, nwo_13, o 9 (by decide) (by decide), o 10 (by decide) (by decide), o 11 (by decide) (by decide), eh]
    have e1 : wr (σ 12 k' + 1) = σ 12 k' + 1 := wr_eq ⟨by omega, by omega⟩
    have e2 : wr (σ 13 k' + 1) = σ 13 k' + 1 := wr_eq ⟨by omega, by omega⟩
    by_cases z : k' = k
    · subst z
      rw [if_pos rfl, e1, e2]
      split <;> omega
    · rw [if_neg z, if_neg (fun w => z w.2)]; omega
  · have a := h.2.2.2.2
    rw [o 8 (by decide) (by decide)]; omega
theorem nfo_e {q : Int} {c : Nat} (h : c ≠ 8) : nfo σ q c = σ c := by funext j; simp only [nfo]; rw [if_neg (fun z => h z.1), if_neg (fun z => h z.1), if_neg (fun z => h z.1)]
theorem Inv_nfo {q : Int} (h : Inv n σ) (hn : n ≤ 1000) : Inv (n + 1) (nfo σ q) := by
  have eh : ∀ k' w, hm (nfo σ q) k' w = hm σ k' w := fun k' w => by unfold hm; rw [nfo_e (by decide)]
  have a := h.2.2.2.2
  have n5 : nfo σ q 8 5 = wr (σ 8 5 + 1) := by simp [nfo]
  have n6 : nfo σ q 8 6 = if q = 2 then wr (σ 8 6 + 1) else σ 8 6 := by simp [nfo]
  have n7 : nfo σ q 8 7 = if q = 1 then wr (σ 8 7 + 1) else σ 8 7 := by simp [nfo]
  rw [wr_eq ⟨by omega, by omega⟩] at n5 n6 n7
  refine h.cnt (fun c hc => nfo_e (by omega)) ⟨fun k' hk' => ?_, ?_⟩ (by omega)
  · have a := h.ac hk'
    unfold ACk at a ⊢
    rw [nfo_e (c := 9) (by decide), nfo_e (c := 10) (by decide), nfo_e (c := 11) (by decide), nfo_e (c := 12) (by decide), nfo_e (c := 13) (by decide), eh]; omega
  · rw [n5, n6, n7]
    by_cases q2 : q = 2
    · rw [if_pos q2, if_neg (by omega)]; omega
    · rw [if_neg q2]; split <;> omega
/-- a row deleted -/
theorem d10_o {c : Nat} (h : c ≠ 10) : del10 σ k c = σ c := up_o h
theorem d10_10 {i : Int} : del10 σ k 10 i = if i = k then wr (σ 10 k + 1) else σ 10 i := by
  unfold del10; rw [up_ap]; by_cases q : i = k
  · rw [if_pos ⟨rfl, q⟩, if_pos q]
  · rw [if_neg (fun z => q z.2), if_neg q]
theorem wor_4 {i : Int} : up (del10 σ k) 4 (k * 16 + y) 3 4 i = if i = k * 16 + y then 3 else σ 4 i := by
  rw [up_ap]; by_cases q : i = k * 16 + y
  · rw [if_pos ⟨rfl, q⟩, if_pos q]
  · rw [if_neg (fun z => q z.2), if_neg q, d10_o (by decide)]
theorem dl_ac (h : Inv n σ) (hn : n ≤ 1000) (hk : 0 ≤ k ∧ k < 4) (hy : 0 ≤ y ∧ y < 16) (h1 : σ 4 (k * 16 + y) = 1) (hv : v ≠ 1) (e4 : ∀ i, τ 4 i = if i = k * 16 + y then v else σ 4 i) (e : ∀ c, (8 ≤ c ∧ c < 14) → τ c = del10 σ k c) : AC (n + 1) τ := by
  refine ⟨fun k' hk' => ?_, ?_⟩
  · have a := h.ac hk'
    unfold ACk at a ⊢
    rw [e 9 (by decide), e 10 (by decide), e 11 (by decide), e 12 (by decide), e 13 (by decide), d10_10, d10_o (c := 9) (by decide), d10_o (c := 11) (by decide), d10_o (c := 12) (by decide), d10_o (c := 13) (by decide), hm_up (k' := k') (w := 1) hy e4, bz_t h1, bz_f hv]
    by_cases z : k' = k
    · rw [if_pos z, if_pos z, ← z, wr_eq ⟨by omega, by omega⟩]; omega
    · rw [if_neg z, if_neg z]; omega
  · have a := h.2.2.2.2
    rw [e 8 (by decide), d10_o (by decide)]; omega
theorem Inv_wor (h : Inv n σ) (hn : n ≤ 1000) (hk : 0 ≤ k ∧ k < 4) (hy : 0 ≤ y ∧ y < 16) (h1 : σ 4 (k * 16 + y) = 1) : Inv (n + 1) (up (del10 σ k) 4 (k * 16 + y) 3) := by
  have o : ∀ c, c ≠ 4 → c ≠ 10 → up (del10 σ k) 4 (k * 16 + y) 3 c = σ c := fun c a b => by rw [up_o a, d10_o b]
  have g := h.rg hk hy
  have gk := h.ki hk hy
  unfold KI at gk
  have e4 : ∀ i, up (del10 σ k) 4 (k * 16 + y) 3 4 i = if i = k * 16 + y then 3 else σ 4 i := fun i => wor_4
  have e6 : up (del10 σ k) 4 (k * 16 + y) 3 6 = tko σ k y 6 := by
    rw [o 6 (by decide) (by decide)]; unfold tko; rw [if_neg (by omega)]
  refine h.key (n' := n + 1) (v := 3) hk hy (o 2 (by decide) (by decide)) (o 3 (by decide) (by decide)) (o 14 (by decide) (by decide)) e4 (by decide) (fun i _ => by rw [o 5 (by decide) (by decide)]) ?_ (by rw [e6]; exact tko_in h hk) (fun i p q => by rw [o 7 (by decide) (by decide)]; exact (h.ic.2.2 i p q).2.2.2) (take_pl h hk hy e4 (by decide) e6) (dl_ac h hn hk hy h1 (by decide) e4 (fun c hc => up_o (by omega))) (by omega)
  rw [o 5 (by decide) (by decide)]
  exact ⟨g.2.1.1, g.2.1.2, ⟨fun q => by omega, fun q => by have := gk.1.mpr q; omega⟩, fun q => by omega⟩
theorem Inv_lot (h : Inv n σ) (hn : n ≤ 1000) (hk : 0 ≤ k ∧ k < 4) (hy : 0 ≤ y ∧ y < 16) (h1 : σ 4 (k * 16 + y) = 1) (h8 : σ 5 (k * 16 + y) ≤ 8) : Inv (n + 1) (lot (del10 σ k) k y) := by
  have o : ∀ c, c ≠ 4 → c ≠ 6 → c ≠ 7 → c ≠ 10 → lot (del10 σ k) k y c = σ c := fun c a b d e => by rw [lot_o a b d, d10_o e]
  have g := h.rg hk hy
  have gk := h.ki hk hy
  unfold KI at gk
  have e4 : ∀ i, lot (del10 σ k) k y 4 i = if i = k * 16 + y then 2 else σ 4 i := fun i => by rw [lot_4, d10_o (by decide)]
  have e6 : ∀ k' y', 0 ≤ y' ∧ y' < 16 → lot (del10 σ k) k y 6 (k' * 16 + y') = if k' = k ∧ y' = y then 0 else if k' = k then wr (σ 6 (k' * 16 + y') + 1) else σ 6 (k' * 16 + y') := fun k' y' hy' => by rw [lot_6 hy hy', d10_o (by decide)]
  have e7 : ∀ i, lot (del10 σ k) k y 7 i = if i = k * 16 + y then σ 2 0 else σ 7 i := fun i => by rw [lot_7, d10_o (by decide), d10_o (by decide)]
  have hd := h.ic.1
  have old : ∀ k' y', 0 ≤ y' ∧ y' < 16 → ¬ (k' = k ∧ y' = y) → lot (del10 σ k) k y 4 (k' * 16 + y') = σ 4 (k' * 16 + y') := fun k' y' hy' ne => by rw [e4, if_neg (by omega)]
  have pl : ∀ k' y', 0 ≤ k' ∧ k' < 4 → 0 ≤ y' ∧ y' < 16 → ¬ (k' = k ∧ y' = y) → σ 4 (k' * 16 + y') = 2 → 0 ≤ σ 6 (k' * 16 + y') ∧ σ 6 (k' * 16 + y') < hm σ k' 2 ∧ lot (del10 σ k) k y 6 (k' * 16 + y') = if k' = k then σ 6 (k' * 16 + y') + 1 else σ 6 (k' * 16 + y') := fun k' y' hk' hy' ne q => by
    have p := ((h.ki hk' hy').2 q).2
    have hr := hm_rg (σ := σ) (k := k') (w := 2)
    refine ⟨p.1, p.2, ?_⟩
    rw [e6 k' y' hy', if_neg ne, wr_eq ⟨by omega, by omega⟩]
  refine h.key (n' := n + 1) (v := 2) hk hy (o 2 (by decide) (by decide) (by decide) (by decide)) (o 3 (by decide) (by decide) (by decide) (by decide)) (o 14 (by decide) (by decide) (by decide) (by decide)) e4 (by decide) (fun i _ => by rw [o 5 (by decide) (by decide) (by decide) (by decide)]) ?_ (fun k' y' hk' hy' => ?_) (fun i p q => ?_) (fun k' hk' => ⟨fun y' hy' q => ?_, fun y1 z1 hy1 hz1 q1 q2 q3 => ?_⟩) (dl_ac h hn hk hy h1 (by decide) e4 (fun c hc => lot_o (by omega) (by omega) (by omega))) (by omega)
  · rw [o 5 (by decide) (by decide) (by decide) (by decide)]
    exact ⟨g.2.1.1, g.2.1.2, ⟨fun q => by omega, fun q => by have := gk.1.mpr q; omega⟩, fun _ => h8⟩
  · rw [e6 k' y' hy']
    split
    · decide
    · split
      · exact wr_rg _
      · exact (h.rg hk' hy').2.2.1
  · rw [e7]
    split
    · omega
    · exact (h.ic.2.2 i p q).2.2.2
  · rw [hm_up (k' := k') (w := 2) hy e4, bz_t (show (2 : Int) = 2 from rfl), bz_f (show ¬ σ 4 (k * 16 + y) = 2 by omega)]
    have hr := hm_rg (σ := σ) (k := k') (w := 2)
    by_cases z : k' = k ∧ y' = y
    · rw [e6 k' y' hy', if_pos z, if_pos z.1]; omega
    · rw [old k' y' hy' z] at q
      have p := pl k' y' hk' hy' z q
      rw [p.2.2]
      by_cases w : k' = k
      · rw [if_pos w, if_pos w]; omega
      · rw [if_neg w, if_neg w]; omega
  · by_cases z1' : k' = k ∧ y1 = y
    · by_cases z2' : k' = k ∧ z1 = y
      · omega
      · rw [old k' z1 hz1 z2'] at q2
        have p := pl k' z1 hk' hz1 z2' q2
        rw [p.2.2, e6 k' y1 hy1, if_pos z1', if_pos z1'.1] at q3
        omega
    · rw [old k' y1 hy1 z1'] at q1
      have p := pl k' y1 hk' hy1 z1' q1
      by_cases z2' : k' = k ∧ z1 = y
      · rw [p.2.2, e6 k' z1 hz1, if_pos z2', if_pos z2'.1] at q3
        omega
      · rw [old k' z1 hz1 z2'] at q2
        have p2 := pl k' z1 hk' hz1 z2' q2
        rw [p.2.2, p2.2.2] at q3
        refine h.pi hk' y1 z1 hy1 hz1 q1 q2 ?_
        by_cases w : k' = k
        · rw [if_pos w, if_pos w] at q3; omega
        · rw [if_neg w, if_neg w] at q3; exact q3
theorem Inv_dlr (h : Inv n σ) (hn : n ≤ 1000) (hk : 0 ≤ k ∧ k < 4) (hy : 0 ≤ y ∧ y < 16) (h1 : σ 4 (k * 16 + y) = 1) : Inv (n + 1) (dlr σ k y) := by
  have hs := h.1.2.2
  unfold dlr
  split
  · exact Inv_wor h hn hk hy h1
  · exact Inv_lot h hn hk hy h1 (by omega)
/-- a row brought back -/
theorem brb_e {c : Nat} (h4 : c ≠ 4) (h6 : c ≠ 6) (h11 : c ≠ 11) : brb σ k y c = σ c := by unfold brb; rw [up_o h11, rev_o h6 h4]
theorem brb_4 {i : Int} : brb σ k y 4 i = if i = k * 16 + y then 1 else σ 4 i := by
  unfold brb rev; rw [up_o (by decide), up_ap]; by_cases q : i = k * 16 + y
  · rw [if_pos ⟨rfl, q⟩, if_pos q]
  · rw [if_neg (fun z => q z.2), if_neg q, tko_o (by decide)]
theorem brb_6 : brb σ k y 6 = tko σ k y 6 := by unfold brb rev; rw [up_o (by decide), up_o (by decide)]
theorem brb_11 {i : Int} : brb σ k y 11 i = if i = k then wr (σ 11 k + 1) else σ 11 i := by
  unfold brb; rw [up_ap]; by_cases q : i = k
  · rw [if_pos ⟨rfl, q⟩, if_pos q]
  · rw [if_neg (fun z => q z.2), if_neg q, rev_o (by decide) (by decide)]
theorem Inv_brb (h : Inv n σ) (hn : n ≤ 1000) (hk : 0 ≤ k ∧ k < 4) (hy : 0 ≤ y ∧ y < 16) (h2 : σ 4 (k * 16 + y) = 2) : Inv (n + 1) (brb σ k y) := by
  have g := h.rg hk hy
  have gk := h.ki hk hy
  unfold KI at gk
  have e4 : ∀ i, brb σ k y 4 i = if i = k * 16 + y then 1 else σ 4 i := fun i => brb_4
  refine h.key (n' := n + 1) (v := 1) hk hy (brb_e (by decide) (by decide) (by decide)) (brb_e (by decide) (by decide) (by decide)) (brb_e (by decide) (by decide) (by decide)) e4 (by decide) (fun i _ => by rw [brb_e (by decide) (by decide) (by decide)]) ?_ (by rw [brb_6]; exact tko_in h hk) (fun i p q => by rw [brb_e (by decide) (by decide) (by decide)]; exact (h.ic.2.2 i p q).2.2.2) (take_pl h hk hy e4 (by decide) brb_6) ⟨fun k' hk' => ?_, ?_⟩ (by omega)
  · rw [brb_e (by decide) (by decide) (by decide)]
    exact ⟨g.2.1.1, g.2.1.2, ⟨fun q => by omega, fun q => by have := gk.1.mpr q; omega⟩, fun q => by omega⟩
  · have a := h.ac hk'
    unfold ACk at a ⊢
    rw [brb_11, brb_e (c := 9) (by decide) (by decide) (by decide), brb_e (c := 10) (by decide) (by decide) (by decide), brb_e (c := 12) (by decide) (by decide) (by decide), brb_e (c := 13) (by decide) (by decide) (by decide), hm_up (k' := k') (w := 1) hy e4, bz_t (show (1 : Int) = 1 from rfl), bz_f (show ¬ σ 4 (k * 16 + y) = 1 by omega)]
    by_cases z : k' = k
    · rw [if_pos z, if_pos z, ← z, wr_eq ⟨by omega, by omega⟩]; omega
    · rw [if_neg z, if_neg z]; omega
  · have a := h.2.2.2.2
    rw [brb_e (c := 8) (by decide) (by decide) (by decide)]; omega
/-- a pile turned -/
theorem tup_6 {k' y' : Int} (hy' : 0 ≤ y' ∧ y' < 16) : tup σ k 6 (k' * 16 + y') = if k' = k then wr (hm σ k 2 - 1 - σ 6 (k' * 16 + y')) else σ 6 (k' * 16 + y') := by
  have e : tup σ k 6 (k' * 16 + y') = if (6 : Nat) = 6 ∧ k * 16 ≤ k' * 16 + y' ∧ k' * 16 + y' < k * 16 + 16 then wr (hm σ k 2 - 1 - σ 6 (k' * 16 + y')) else σ 6 (k' * 16 + y') := rfl
  rw [e]
  by_cases w : k' = k
  · rw [if_pos ⟨rfl, by omega, by omega⟩, if_pos w]
  · rw [if_neg (fun z => w (by omega)), if_neg w]
theorem Inv_tup (h : Inv n σ) (hk : 0 ≤ k ∧ k < 4) : Inv n (tup σ k) := by
  have o : ∀ c, c ≠ 6 → tup σ k c = σ c := fun c hc => tup_o hc
  have eh : ∀ k' w, hm (tup σ k) k' w = hm σ k' w := fun k' w => by unfold hm; rw [o 4 (by decide)]
  have pl : ∀ k' y', 0 ≤ k' ∧ k' < 4 → 0 ≤ y' ∧ y' < 16 → σ 4 (k' * 16 + y') = 2 → 0 ≤ σ 6 (k' * 16 + y') ∧ σ 6 (k' * 16 + y') < hm σ k' 2 ∧ tup σ k 6 (k' * 16 + y') = if k' = k then hm σ k' 2 - 1 - σ 6 (k' * 16 + y') else σ 6 (k' * 16 + y') := fun k' y' hk' hy' q => by
    have p := ((h.ki hk' hy').2 q).2
    have hr := hm_rg (σ := σ) (k := k') (w := 2)
    refine ⟨p.1, p.2, ?_⟩
    rw [tup_6 hy']
    by_cases w : k' = k
    · rw [if_pos w, if_pos w, ← w, wr_eq ⟨by omega, by omega⟩]
    · rw [if_neg w, if_neg w]
  have a := h.2.2.2.2
  refine h.key (n' := n) (v := σ 4 (0 * 16 + 0)) (k := 0) (y := 0) (by decide) (by decide) (o 2 (by decide)) (o 3 (by decide)) (o 14 (by decide)) (fun i => ?_) (h.rg (k := 0) (y := 0) (by decide) (by decide)).1 (fun i _ => by rw [o 5 (by decide)]) ?_ (fun k' y' hk' hy' => ?_) (fun i p q => by rw [o 7 (by decide)]; exact (h.ic.2.2 i p q).2.2.2) (fun k' hk' => ⟨fun y' hy' q => ?_, fun y1 z1 hy1 hz1 q1 q2 q3 => ?_⟩) ⟨fun k' hk' => ?_, by rw [o 8 (by decide)]; exact a⟩ (by omega)
  · rw [o 4 (by decide)]
    split
    · rename_i z; rw [z]
    · rfl
  · rw [o 5 (by decide)]
    have g := h.rg (k := 0) (y := 0) (by decide) (by decide)
    have g2 := h.ki (k := 0) (y := 0) (by decide) (by decide)
    exact ⟨g.2.1.1, g.2.1.2, g2.1, fun q => (g2.2 q).1⟩
  · rw [tup_6 hy']
    split
    · exact wr_rg _
    · exact (h.rg hk' hy').2.2.1
  · rw [o 4 (by decide)] at q
    have p := pl k' y' hk' hy' q
    rw [p.2.2, eh]
    split <;> omega
  · rw [o 4 (by decide)] at q1 q2
    have p1 := pl k' y1 hk' hy1 q1
    have p2 := pl k' z1 hk' hz1 q2
    rw [p1.2.2, p2.2.2] at q3
    refine h.pi hk' y1 z1 hy1 hz1 q1 q2 ?_
    by_cases w : k' = k
    · rw [if_pos w, if_pos w] at q3; omega
    · rw [if_neg w, if_neg w] at q3; exact q3
  · have a := h.ac hk'
    unfold ACk at a ⊢
    rw [o 9 (by decide), o 10 (by decide), o 11 (by decide), o 12 (by decide), o 13 (by decide), eh]; exact a
/-- days, seasons, settings -/
theorem Inv_day {d : Int} (h : Inv n σ) (h0 : 0 ≤ d ∧ d ≤ 5) (hn : n ≤ 1000) : Inv (n + 1) (up σ 2 0 (σ 2 0 + d)) := by
  have o : ∀ c, c ≠ 2 → up σ 2 0 (σ 2 0 + d) c = σ c := fun c hc => up_o hc
  have eh : ∀ k' w, hm (up σ 2 0 (σ 2 0 + d)) k' w = hm σ k' w := fun k' w => by unfold hm; rw [o 4 (by decide)]
  have e2 : up σ 2 0 (σ 2 0 + d) 2 0 = σ 2 0 + d := by simp [up_ap]
  obtain ⟨i1, d1, d2, d3, d4⟩ := h
  have ic := i1.1
  have is := i1.2
  refine ⟨⟨ic.day h0.1 (by omega), by rw [o 14 (by decide)]; exact is⟩, by rw [e2]; omega, fun k hk => ?_, fun k' hk' => ?_, by rw [o 8 (by decide)]; omega⟩
  · have g := d2 k hk
    unfold KI PI at *
    rw [o 4 (by decide), o 5 (by decide), o 6 (by decide), eh]; exact g
  · have a := d3 k' hk'
    unfold ACk at a ⊢
    rw [o 9 (by decide), o 10 (by decide), o 11 (by decide), o 12 (by decide), o 13 (by decide), eh]; omega
theorem Inv_sea {d : Int} (h : Inv n σ) (h0 : 0 ≤ d ∧ d ≤ 99) : Inv n (up σ 3 k d) := by
  have o : ∀ c, c ≠ 3 → up σ 3 k d c = σ c := fun c hc => up_o hc
  have eh : ∀ k' w, hm (up σ 3 k d) k' w = hm σ k' w := fun k' w => by unfold hm; rw [o 4 (by decide)]
  obtain ⟨⟨⟨i1, i2, i3⟩, is⟩, d1, d2, d3, d4⟩ := h
  refine ⟨⟨⟨by rw [o 2 (by decide)]; exact i1, fun q a b => ?_, by rw [o 4 (by decide), o 5 (by decide), o 6 (by decide), o 7 (by decide), o 2 (by decide)]; exact i3⟩, by rw [o 14 (by decide)]; exact is⟩, by rw [o 2 (by decide)]; exact d1, fun k hk => ?_, fun k' hk' => ?_, by rw [o 8 (by decide)]; exact d4⟩
  · rw [up_ap]
    split
    · exact h0
    · exact i2 q a b
  · have g := d2 k hk
    unfold KI PI at *
    rw [o 4 (by decide), o 5 (by decide), o 6 (by decide), eh]; exact g
  · have a := d3 k' hk'
    unfold ACk at a ⊢
    rw [o 9 (by decide), o 10 (by decide), o 11 (by decide), o 12 (by decide), o 13 (by decide), eh]; exact a
theorem Inv_set {d : Int} (h : Inv n σ) (h0 : (k = 0 → 0 ≤ d ∧ d ≤ 3) ∧ (k = 1 → 1 ≤ d ∧ d ≤ 9) ∧ (k = 2 → 0 ≤ d ∧ d ≤ 20)) : Inv n (up σ 14 k d) := by
  have o : ∀ c, c ≠ 14 → up σ 14 k d c = σ c := fun c hc => up_o hc
  have e : ∀ i, up σ 14 k d 14 i = if k = i then d else σ 14 i := fun i => by
    rw [up_ap]; by_cases q : k = i
    · rw [if_pos ⟨rfl, q.symm⟩, if_pos q]
    · rw [if_neg (fun z => q z.2.symm), if_neg q]
  have eh : ∀ k' w, hm (up σ 14 k d) k' w = hm σ k' w := fun k' w => by unfold hm; rw [o 4 (by decide)]
  obtain ⟨⟨i1, s0, s1, s2⟩, d1, d2, d3, d4⟩ := h
  refine ⟨⟨?_, ?_, ?_, ?_⟩, by rw [o 2 (by decide)]; exact d1, fun k hk => ?_, fun k' hk' => ?_, by rw [o 8 (by decide)]; exact d4⟩
  · unfold IC at *
    rw [o 2 (by decide), o 3 (by decide), o 4 (by decide), o 5 (by decide), o 6 (by decide), o 7 (by decide)]; exact i1
  · rw [e]; split
    · rename_i q; exact h0.1 q
    · exact s0
  · rw [e]; split
    · rename_i q; exact h0.2.1 q
    · exact s1
  · rw [e]; split
    · rename_i q; exact h0.2.2 q
    · exact s2
  · have g := d2 k hk
    unfold KI PI at *
    rw [o 4 (by decide), o 5 (by decide), o 6 (by decide), eh]; exact g
  · have a := d3 k' hk'
    unfold ACk at a ⊢
    rw [o 9 (by decide), o 10 (by decide), o 11 (by decide), o 12 (by decide), o 13 (by decide), eh]; exact a
end INV
