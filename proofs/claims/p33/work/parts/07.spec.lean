/-! WHAT THE METHODS DO, in whole numbers: the Keys and Accounts of the Compost now (cells 2 to 14) -/
/-- a loop over 0 .. i - 1 -/
def it {S : Type} (f : Int → S → S) (a : S) (i : Int) : S := Nat.rec a (fun j v => f (j : Int) v) i.toNat
theorem it_0 {S : Type} {f : Int → S → S} {a : S} : it f a 0 = a := rfl
theorem it_s {S : Type} {f : Int → S → S} {a : S} {i : Int} (h : 0 ≤ i) : it f a (i + 1) = f i (it f a i) := by
  obtain ⟨n, rfl⟩ := Int.eq_ofNat_of_zero_le h
  rfl
/-- how many of 0 .. i - 1 -/
def cn (P : Int → Prop) [DecidablePred P] (i : Int) : Int := it (fun j v => v + bz (P j)) 0 i
theorem cn_0 {P : Int → Prop} [DecidablePred P] : cn P 0 = 0 := rfl
theorem cn_s {P : Int → Prop} [DecidablePred P] {i : Int} (h : 0 ≤ i) : cn P (i + 1) = cn P i + bz (P i) := it_s h
theorem cn_t {P : Int → Prop} [DecidablePred P] {i v : Int} (h : 0 ≤ i) (hv : v = cn P i) (hP : P i) : v + 1 = cn P (i + 1) := by rw [cn_s h, bz_t hP, hv]
theorem cn_f {P : Int → Prop} [DecidablePred P] {i v : Int} (h : 0 ≤ i) (hv : v = cn P i) (hP : ¬ P i) : v = cn P (i + 1) := by rw [cn_s h, bz_f hP, hv]; omega
theorem cn_rg {P : Int → Prop} [DecidablePred P] {i : Int} (h : 0 ≤ i) : 0 ≤ cn P i ∧ cn P i ≤ i := by
  obtain ⟨n, rfl⟩ := Int.eq_ofNat_of_zero_le h
  induction n with
  | zero => exact ⟨Int.le_refl _, Int.le_refl _⟩
  | succ n ih =>
    have h1 := ih (by omega)
    have h2 : cn P ((n + 1 : Nat) : Int) = cn P n + bz (P n) := cn_s (i := (n : Int)) (by omega)
    have h3 := bz_rg (P := P n)
    rw [h2]
    omega
/-- the first of 0 .. i - 1; -1 if there is none -/
def fs (P : Int → Prop) [DecidablePred P] (i : Int) : Int := it (fun j v => if v = -1 then (if P j then j else -1) else v) (-1) i
theorem fs_s {P : Int → Prop} [DecidablePred P] {i : Int} (h : 0 ≤ i) : fs P (i + 1) = if fs P i = -1 then (if P i then i else -1) else fs P i := it_s h
theorem fs_stay {P : Int → Prop} [DecidablePred P] {i j v : Int} (h : 0 ≤ i) (hij : i ≤ j) (hv : fs P i = v) (hne : v ≠ -1) : fs P j = v := by
  obtain ⟨d, rfl⟩ : ∃ d : Nat, j = i + d := ⟨(j - i).toNat, by omega⟩
  clear hij
  induction d with
  | zero => simpa using hv
  | succ d ih =>
    have e : i + ((d + 1 : Nat) : Int) = (i + d) + 1 := by omega
    rw [e, fs_s (by omega), ih, if_neg hne]
theorem fs_hit {P : Int → Prop} [DecidablePred P] {i j : Int} (h : 0 ≤ i) (hij : i < j) (hn : fs P i = -1) (hP : P i) : i = fs P j := by
  refine (fs_stay (i := i + 1) (by omega) (by omega) ?_ (by omega)).symm
  rw [fs_s h, if_pos hn, if_pos hP]
theorem fs_miss {P : Int → Prop} [DecidablePred P] {i : Int} (h : 0 ≤ i) (hn : fs P i = -1) (hP : ¬ P i) : fs P (i + 1) = -1 := by
  rw [fs_s h, if_pos hn, if_neg hP]
/-- ranges of what the Keys hold -/
def IC (σ : Mem) : Prop := (0 ≤ σ 2 0 ∧ σ 2 0 ≤ 9999) ∧ (∀ k, 0 ≤ k → k < 4 → 0 ≤ σ 3 k ∧ σ 3 k ≤ 99) ∧ (∀ i, 0 ≤ i → i < 64 → (0 ≤ σ 4 i ∧ σ 4 i ≤ 3) ∧ (0 ≤ σ 5 i ∧ σ 5 i ≤ 9) ∧ inR (σ 6 i) ∧ 0 ≤ σ 7 i ∧ σ 7 i ≤ σ 2 0)
/-- ripe; that can be given; days until it is ripe -/
abbrev ripe (σ : Mem) (k y : Int) : Prop := σ 4 (k * 16 + y) = 2 ∧ σ 3 k ≤ σ 2 0 - σ 7 (k * 16 + y)
abbrev cbg (σ : Mem) (k y : Int) : Prop := σ 4 (k * 16 + y) = 0 ∨ ripe σ k y
def dtr (σ : Mem) (k y : Int) : Int := if 0 < σ 3 k - (σ 2 0 - σ 7 (k * 16 + y)) then σ 3 k - (σ 2 0 - σ 7 (k * 16 + y)) else 0
/-- the places of a pile's keys, from a to b, one more; one less above a place; turned -/
def inc6 (σ : Mem) (a b : Int) : Mem := fun c j => if c = 6 ∧ a ≤ j ∧ j < b then wr (σ 6 j + 1) else σ c j
def dec6 (σ : Mem) (a b q : Int) : Mem := fun c j => if c = 6 ∧ a ≤ j ∧ j < b ∧ q < σ 6 j then wr (σ 6 j - 1) else σ c j
def flip6 (σ : Mem) (a b q : Int) : Mem := fun c j => if c = 6 ∧ a ≤ j ∧ j < b then wr (q - σ 6 j) else σ c j
theorem inc6_0 {σ : Mem} {a : Int} : inc6 σ a a = σ := by
  funext c j; simp only [inc6]; rw [if_neg (by omega)]
theorem dec6_0 {σ : Mem} {a q : Int} : dec6 σ a a q = σ := by
  funext c j; simp only [dec6]; rw [if_neg (by omega)]
theorem flip6_0 {σ : Mem} {a q : Int} : flip6 σ a a q = σ := by
  funext c j; simp only [flip6]; rw [if_neg (by omega)]
theorem inc6_at {σ : Mem} {a b j : Int} (h : b ≤ j) : inc6 σ a b 6 j = σ 6 j := by simp only [inc6]; rw [if_neg (by omega)]
theorem dec6_at {σ : Mem} {a b q j : Int} (h : b ≤ j) : dec6 σ a b q 6 j = σ 6 j := by simp only [dec6]; rw [if_neg (by omega)]
theorem dec6_own {σ : Mem} {a b j : Int} : dec6 σ a b (σ 6 j) 6 j = σ 6 j := by simp only [dec6]; rw [if_neg (by omega)]
theorem flip6_at {σ : Mem} {a b q j : Int} (h : b ≤ j) : flip6 σ a b q 6 j = σ 6 j := by simp only [flip6]; rw [if_neg (by omega)]
theorem inc6_s {σ : Mem} {a b : Int} (h : a ≤ b) : up (inc6 σ a b) 6 b (wr (σ 6 b + 1)) = inc6 σ a (b + 1) := by
  funext c j
  rw [up_ap]
  simp only [inc6]
  by_cases h1 : c = 6 ∧ j = b
  · rw [if_pos h1, if_pos (by omega), h1.2]
  · rw [if_neg h1]
    by_cases h2 : c = 6 ∧ a ≤ j ∧ j < b
    · rw [if_pos h2, if_pos (by omega)]
    · rw [if_neg h2, if_neg (by omega)]
theorem flip6_s {σ : Mem} {a b q : Int} (h : a ≤ b) : up (flip6 σ a b q) 6 b (wr (q - σ 6 b)) = flip6 σ a (b + 1) q := by
  funext c j
  rw [up_ap]
  simp only [flip6]
  by_cases h1 : c = 6 ∧ j = b
  · rw [if_pos h1, if_pos (by omega), h1.2]
  · rw [if_neg h1]
    by_cases h2 : c = 6 ∧ a ≤ j ∧ j < b
    · rw [if_pos h2, if_pos (by omega)]
    · rw [if_neg h2, if_neg (by omega)]
theorem dec6_s {σ : Mem} {a b q : Int} (h : a ≤ b) (hq : q < σ 6 b) : up (dec6 σ a b q) 6 b (wr (σ 6 b - 1)) = dec6 σ a (b + 1) q := by
  funext c j
  rw [up_ap]
  simp only [dec6]
  by_cases h1 : c = 6 ∧ j = b
  · obtain ⟨rfl, rfl⟩ := h1
    rw [if_pos ⟨rfl, rfl⟩, if_pos (by omega)]
  · rw [if_neg h1]
    by_cases h2 : c = 6 ∧ a ≤ j ∧ j < b ∧ q < σ 6 j
    · rw [if_pos h2, if_pos (by omega)]
    · rw [if_neg h2, if_neg (by omega)]
theorem dec6_n {σ : Mem} {a b q : Int} (hq : ¬ q < σ 6 b) : dec6 σ a b q = dec6 σ a (b + 1) q := by
  funext c j
  simp only [dec6]
  by_cases h1 : j = b
  · subst h1
    rw [if_neg (by omega), if_neg (by omega)]
  · by_cases h2 : c = 6 ∧ a ≤ j ∧ j < b ∧ q < σ 6 j
    · rw [if_pos h2, if_pos (by omega)]
    · rw [if_neg h2, if_neg (by omega)]
def tko (σ : Mem) (k y : Int) : Mem := if σ 4 (k * 16 + y) = 2 then dec6 σ (k * 16) (k * 16 + 16) (σ 6 (k * 16 + y)) else σ
theorem tko_o {σ : Mem} {k y : Int} {c : Nat} (h : c ≠ 6) : tko σ k y c = σ c := by
  funext j; unfold tko; split
  · simp only [dec6]; rw [if_neg (fun q => h q.1)]
  · rfl
def giv (σ : Mem) (k y : Int) : Mem := up (up (tko σ k y) 5 (k * 16 + y) (σ 5 (k * 16 + y) + 1)) 4 (k * 16 + y) 1
def rev (σ : Mem) (k y : Int) : Mem := up (tko σ k y) 4 (k * 16 + y) 1
def lot (σ : Mem) (k y : Int) : Mem := up (up (up (inc6 σ (k * 16) (k * 16 + 16)) 4 (k * 16 + y) 2) 6 (k * 16 + y) 0) 7 (k * 16 + y) (σ 2 0)
/-- how many keys are in a state; ripe ones -/
def hm (σ : Mem) (k w : Int) : Int := cn (fun y => σ 4 (k * 16 + y) = w) 16
def hrp (σ : Mem) (k : Int) : Int := cn (fun y => ripe σ k y) 16
def tup (σ : Mem) (k : Int) : Mem := flip6 σ (k * 16) (k * 16 + 16) (hm σ k 2 - 1)
def kat (σ : Mem) (k q : Int) : Int := fs (fun y => σ 4 (k * 16 + y) = 2 ∧ σ 6 (k * 16 + y) = q) 16
def hma (σ : Mem) (w : Int) : Int := it (fun k v => v + hm σ k w) 0 4
def hra (σ : Mem) : Int := it (fun k v => v + hrp σ k) 0 4
theorem up_self {σ : Mem} {c : Nat} {i : Int} : up σ c i (σ c i) = σ := by
  funext c' i'; rw [up_ap]; split
  · rename_i h; rw [h.1, h.2]
  · rfl
/-- the rank of a key by a rule -/
def rk (σ : Mem) (k y r : Int) : Int := if r = 0 then (if σ 4 (k * 16 + y) = 0 then y else wr (16 + σ 6 (k * 16 + y))) else if r = 1 then (if σ 4 (k * 16 + y) = 0 then 16 + y else σ 6 (k * 16 + y)) else if r = 2 then y else σ 5 (k * 16 + y) * 16 + y
theorem rk_rg {σ : Mem} {k y r : Int} (hI : IC σ) (hk : 0 ≤ k ∧ k < 4) (hy : 0 ≤ y ∧ y < 16) : inR (rk σ k y r) := by
  have hi := hI.2.2 (k * 16 + y) (by omega) (by omega)
  have hw := wr_rg (16 + σ 6 (k * 16 + y))
  unfold rk
  (repeat' split) <;> constructor <;> omega
def dst (σ : Mem) (k r : Int) (t : Nat) (j : Int) (v : Int × Int) : Int × Int := if t.testBit j.toNat = true ∨ ¬ cbg σ k j then v else if v.1 = -1 ∨ rk σ k j r < v.2 then (j, rk σ k j r) else v
def drw (σ : Mem) (k r : Int) (t : Nat) : Int := (it (dst σ k r t) (-1, 0) 16).1
theorem dst_skip {σ : Mem} {k r i dr le : Int} {t : Nat} (h0 : 0 ≤ i) (hv : (dr, le) = it (dst σ k r t) (-1, 0) i) (h : t.testBit i.toNat = true ∨ ¬ cbg σ k i) : (dr, le) = it (dst σ k r t) (-1, 0) (i + 1) := by
  rw [it_s h0, ← hv]; unfold dst; rw [if_pos h]
theorem dst_keep {σ : Mem} {k r i dr le : Int} {t : Nat} (h0 : 0 ≤ i) (hv : (dr, le) = it (dst σ k r t) (-1, 0) i) (h1 : t.testBit i.toNat = false) (h2 : cbg σ k i) (h3 : ¬ dr = -1) (h4 : le ≤ rk σ k i r) : (dr, le) = it (dst σ k r t) (-1, 0) (i + 1) := by
  rw [it_s h0, ← hv]; unfold dst
  rw [if_neg (by rw [h1]; intro h; rcases h with h | h; cases h; exact h h2), if_neg (by intro h; rcases h with h | h; exact h3 h; have : rk σ k i r < le := h; omega)]
theorem dst_take {σ : Mem} {k r i dr le : Int} {t : Nat} (h0 : 0 ≤ i) (hv : (dr, le) = it (dst σ k r t) (-1, 0) i) (h1 : t.testBit i.toNat = false) (h2 : cbg σ k i) (h3 : dr = -1 ∨ rk σ k i r < le) : (i, rk σ k i r) = it (dst σ k r t) (-1, 0) (i + 1) := by
  rw [it_s h0, ← hv]; unfold dst
  rw [if_neg (by rw [h1]; intro h; rcases h with h | h; cases h; exact h h2), if_pos h3]
/-- what a reference is -/
def jud (σ : Mem) (k y q : Int) : Int := if σ 4 (k * 16 + y) ≠ 1 ∨ σ 5 (k * 16 + y) < q then 1 else if q < σ 5 (k * 16 + y) then 2 else 0
def gro (σ : Mem) : Int := it (fun j v => if v < σ 5 j then σ 5 j else v) 0 64
def pok (σ : Mem) (k y w : Int) : Int := if w = 0 then σ 4 (k * 16 + y) else if w = 1 then σ 5 (k * 16 + y) else if σ 4 (k * 16 + y) ≠ 2 then -1 else if w = 2 then σ 6 (k * 16 + y) else if w = 3 then σ 2 0 - σ 7 (k * 16 + y) else dtr σ k y
theorem dtr_rg {σ : Mem} {k y : Int} (hI : IC σ) (hk : 0 ≤ k ∧ k < 4) (hy : 0 ≤ y ∧ y < 16) : 0 ≤ dtr σ k y ∧ dtr σ k y ≤ 99 := by
  have hi := hI.2.2 (k * 16 + y) (by omega) (by omega)
  have hs := hI.2.1 k hk.1 hk.2
  unfold dtr
  split <;> constructor <;> omega
theorem hm_rg {σ : Mem} {k w : Int} : 0 ≤ hm σ k w ∧ hm σ k w ≤ 16 := cn_rg (by omega)
theorem hrp_rg {σ : Mem} {k : Int} : 0 ≤ hrp σ k ∧ hrp σ k ≤ 16 := cn_rg (by omega)
def dtkF (σ : Mem) (k y v : Int) : Int := if σ 4 (k * 16 + y) = 2 then (if v = -1 ∨ dtr σ k y < v then dtr σ k y else v) else v
def dtk (σ : Mem) (k : Int) : Int := if 0 < hm σ k 0 then 0 else it (dtkF σ k) (-1) 16
def lgsF (σ : Mem) (k y v : Int) : Int := if σ 4 (k * 16 + y) = 2 then (if v < σ 2 0 - σ 7 (k * 16 + y) then σ 2 0 - σ 7 (k * 16 + y) else v) else v
def lgs (σ : Mem) (k : Int) : Int := if 0 < hm σ k 0 then 99 else if 99 < it (lgsF σ k) (-1) 16 then 99 else it (lgsF σ k) (-1) 16
def sczF (σ : Mem) (k : Int) (v : Int × Int) : Int × Int := if hm σ k 0 + hrp σ k < v.2 then (k, hm σ k 0 + hrp σ k) else v
def scz (σ : Mem) : Int := (it (sczF σ) (0, 17) 4).1
/-- accounts -/
def nwo (σ : Mem) (k q : Int) : Mem := if q = 2 ∨ q = 5 then up (up σ 12 k (wr (σ 12 k + 1))) 13 k (wr (σ 13 k + 1)) else up σ 12 k (wr (σ 12 k + 1))
def nfo (σ : Mem) (q : Int) : Mem := fun c j => if c = 8 ∧ j = 5 then wr (σ 8 5 + 1) else if c = 8 ∧ j = 6 ∧ q = 2 then wr (σ 8 6 + 1) else if c = 8 ∧ j = 7 ∧ q = 1 then wr (σ 8 7 + 1) else σ c j
def aba (σ : Mem) : Int := it (fun k v => v + (σ 9 k + σ 11 k - σ 10 k)) 0 4
