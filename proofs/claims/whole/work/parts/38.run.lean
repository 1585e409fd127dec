/-! orders of the text: class and reference do alike -/
section RUNR
variable {α β μ : Mem}
theorem R1.svx (h : R1 α β) {k : Int} (hk : 0 ≤ k ∧ k < 4) : R1 (svr α k) (masM β k) := by
  have ea := h.atx hk
  have hd := mdr_rg h.g hk
  have hr : rsn β k = 1 ∨ rsn β k = 2 := by unfold rsn; split <;> omega
  have em : mas β k = if mdr β 0 k < 0 then 100 + rsn β k else mdr β 0 k := rfl
  unfold svr masM
  by_cases q : mdr β 0 k < 0
  · rw [if_pos q] at em
    rw [if_pos (by omega), if_pos q, ea, em, show 100 + rsn β k - 100 = rsn β k by omega]
    exact h.wo hk
  · rw [if_neg q] at em
    rw [if_neg (by omega), if_neg q, ea, em]
    have am := mdr_AM h.g hk
    rcases am with ⟨a, _⟩ | ⟨a, c, _⟩
    · omega
    · exact h.gvx hk a c
theorem R1.rg (h : R1 α β) {k y : Int} (hk : 0 ≤ k ∧ k < 4) (hy : 0 ≤ y ∧ y < 16) : rag α k y = if mcg β 0 k y then 0 else mwq β k y := by
  have g := (h.ky hk hy).1
  have c := h.cg hk hy
  have b := (h.g.ky hk hy).1
  unfold rag mwq
  by_cases q : mcg β 0 k y
  · have q2 : mS β 0 k y = 0 ∨ mS β 0 k y = 2 := by rcases q with q | q; exact Or.inl q; exact Or.inr q.1
    rw [if_neg (by omega), if_neg (by omega), if_pos (c.mpr q), if_pos q]
  · rw [if_neg q]
    by_cases b1 : mS β 0 k y = 1
    · rw [if_pos (by omega), if_pos b1]
    · by_cases b3 : mS β 0 k y = 3
      · rw [if_neg (by omega), if_pos (by omega), if_neg b1, if_pos b3]
      · rw [if_neg (by omega), if_neg (by omega), if_neg (show ¬ cbg α k y from fun w => q (c.mp w)), if_neg b1, if_neg b3]
theorem R1.svy (h : R1 α β) {k y : Int} (hk : 0 ≤ k ∧ k < 4) (hy : 0 ≤ y ∧ y < 16) : R1 (svw α k y) (mwaM β k y) ∧ svwR α k y = mwa β k y := by
  have e := h.rg hk hy
  have g5 := (h.ky hk hy).2.1
  have hq : mwq β k y ≠ 0 := by unfold mwq; (repeat' split) <;> omega
  unfold svw mwaM svwR mwa
  by_cases q : mcg β 0 k y
  · rw [if_pos q] at e
    rw [if_pos e, if_pos q, if_pos e, if_pos q, g5]
    exact ⟨h.gvx hk hy q, rfl⟩
  · rw [if_neg q] at e
    rw [if_neg (by omega), if_neg q, if_neg (by omega), if_neg q, e]
    exact ⟨h.wo hk, rfl⟩
theorem R1.cb (h : R1 α β) {k y : Int} (hk : 0 ≤ k ∧ k < 4) (hy : 0 ≤ y ∧ y < 16) : cbb α k y ↔ mcb β k y := by
  have g := h.ky hk hy
  have hx := h.x.2.2
  have hd := h.d
  unfold RK at g
  unfold cbb mcb
  rw [g.1]
  constructor
  · intro q; have g7 := (g.2.2.2.2.1 q.1).1; exact ⟨q.1, by omega⟩
  · intro q; have g7 := (g.2.2.2.2.1 q.1).1; exact ⟨q.1, by omega⟩
/-- what an order changes -/
theorem masM_4 {N k j : Int} (hG : SG μ 0 N) (hk : 0 ≤ k ∧ k < 4) (hj : 291 ≤ j) : masM μ k 134 j = μ 134 j := by
  have hd := mdr_rg hG hk
  unfold masM; split
  · exact mwo_o hk (by omega)
  · exact mgiv_o hG hk ⟨by omega, by omega⟩ (by omega)
theorem mwaM_4 {N k y j : Int} (hG : SG μ 0 N) (hk : 0 ≤ k ∧ k < 4) (hy : 0 ≤ y ∧ y < 16) (hj : 291 ≤ j) : mwaM μ k y 134 j = μ 134 j := by
  unfold mwaM; split
  · exact mgiv_o hG hk hy (by omega)
  · exact mwo_o hk (by omega)
theorem SG.l15 {N k y : Int} (hG : SG μ 0 N) (hk : 0 ≤ k ∧ k < 4) (hy : 0 ≤ y ∧ y < 16) (h1 : mS μ 0 k y = 1) : 0 ≤ mL μ 0 k ∧ mL μ 0 k ≤ 15 := ⟨(hG.kd hk).2.1, SG.not2 hG hk hy (by omega)⟩
theorem doM_4 {N l j : Int} (hG : SG μ 0 N) (hO : OV μ l) (hj : 291 ≤ j) : doM μ l 134 j = μ 134 j := by
  obtain ⟨h0, h1, h2, h3⟩ := hO
  unfold doM
  split
  · exact masM_4 hG (h1 (by omega)) hj
  · split
    · split
      · exact mdl_o (h1 (by omega)) (h2 (by omega)) (hG.l15 (h1 (by omega)) (h2 (by omega)) (by assumption)) (by have := h1 (by omega); have := h2 (by omega); omega) (by have := h1 (by omega); omega)
      · rfl
    · split
      · split
        · rename_i h; exact mbk_o hG (h1 (by omega)) (h2 (by omega)) h.1 (by have := h1 (by omega); have := h2 (by omega); omega) (by have := h1 (by omega); omega)
        · rfl
      · split
        · exact mtu_o (h1 (by omega)) (hG.kd (h1 (by omega))).2 (by have := h1 (by omega); omega)
        · split
          · unfold mpa; rw [up_ap, if_neg (by omega)]
          · rfl
/-- one order -/
theorem R1.od (h : R1 α μ) {v a b l p : Int} (hO : OV μ l) (h7 : μ 133 7 = a) (h8 : isP2 l → μ 133 8 = b) (hc : cat α p = l) (n1 : num α (p + 1) = a) (n3 : isP2 l → num α (p + 3) = b) : (dorR α p ↔ doR μ l) ∧ R1 (dorM α p) (doM μ l) := by
  obtain ⟨o0, o1, o2, o3⟩ := hO
  have hd : α 2 0 = μ 134 3 := h.d
  by_cases c1 : l = 97
  · have hk : 0 ≤ a ∧ a < 4 := by rw [← h7]; exact o1 (by omega)
    have hm := mdr_rg h.g hk
    rw [dorR_a (by omega), dorM_a (by omega), n1, if_pos (show isK a by omega), h.atx hk]
    unfold doR doM
    rw [if_pos c1, if_pos c1, h7]
    exact ⟨⟨fun q => q.2, fun q => ⟨by omega, q⟩⟩, h.svx hk⟩
  · by_cases c2 : l = 112
    · have hk : 0 ≤ a ∧ a < 4 := by rw [← h7]; exact o1 (by omega)
      rw [dorR_p (by omega), dorM_p (by omega), n1, if_pos (show isK a by omega)]
      unfold doR doM
      rw [if_neg (by omega), if_neg (by omega), if_neg (by omega), if_pos c2, if_neg (by omega), if_neg (by omega), if_neg (by omega), if_pos c2, h7]
      exact ⟨⟨fun _ => trivial, fun _ => by omega⟩, h.tu hk⟩
    · by_cases c3 : l = 116
      · have hk : 1 ≤ a ∧ a ≤ 99 := by rw [← h7]; exact o3 c3
        rw [dorR_t (by omega), dorM_t (by omega), n1, hd]
        have eR : doR μ l ↔ μ 134 3 ≤ 9999 - a := by unfold doR; rw [if_neg c1, if_neg (by omega), if_neg (by omega), if_neg c2, h7]
        have eM : doM μ l = if μ 134 3 ≤ 9999 - a then mpa μ a else μ := by unfold doM; rw [if_neg c1, if_neg (by omega), if_neg (by omega), if_neg c2, h7]
        rw [eM, eR]
        by_cases q : a ≤ 9999 - μ 134 3
        · have q2 : μ 134 3 ≤ 9999 - a := by omega
          rw [if_pos q, if_pos q2, ← hd]
          exact ⟨by omega, h.pa (by omega) (by omega)⟩
        · have q2 : ¬ μ 134 3 ≤ 9999 - a := by omega
          rw [if_neg q, if_neg q2]
          exact ⟨by omega, h⟩
      · have hP : isP2 l := by omega
        have hk : 0 ≤ a ∧ a < 4 := by rw [← h7]; exact o1 (by omega)
        have hy : 0 ≤ b ∧ b < 16 := by rw [← h8 hP]; exact o2 hP
        have g := (h.ky hk hy).1
        have cb := h.cb hk hy
        rw [dorR_r (by omega) (by omega) (by omega), dorM_r (by omega) (by omega) (by omega), hc, n1, n3 hP]
        unfold doR doM
        rw [h7, h8 hP]
        by_cases c4 : l = 100
        · rw [if_neg c1, if_pos c4, if_neg c1, if_pos c4]
          by_cases q : mS μ 0 a b = 1
          · rw [if_pos q, rowM_d ⟨by omega, c4, by omega⟩]
            exact ⟨⟨fun _ => q, fun _ => ⟨by omega, Or.inl ⟨c4, by omega⟩⟩⟩, h.dl hk hy q⟩
          · have nr : ¬ rowR α l a b := fun w => by rcases w.2 with w | w; exact q (by omega); omega
            rw [if_neg q, rowM_n nr]
            exact ⟨⟨fun w => absurd w nr, fun w => absurd w q⟩, h⟩
        · have c5 : l = 98 := by omega
          rw [if_neg c1, if_neg c4, if_pos c5, if_neg c1, if_neg c4, if_pos c5]
          by_cases q : mcb μ a b
          · rw [if_pos q, rowM_b ⟨by omega, c5, cb.mpr q⟩]
            exact ⟨⟨fun _ => q, fun _ => ⟨by omega, Or.inr ⟨c5, cb.mpr q⟩⟩⟩, h.bk hk hy q.1⟩
          · have nr : ¬ rowR α l a b := fun w => by rcases w.2 with w | w; omega; exact q (cb.mp w.2)
            rw [if_neg q, rowM_n nr]
            exact ⟨⟨fun w => absurd w nr, fun w => absurd w q⟩, h⟩
theorem num_0 {q : Int} (h : ¬ isd (cat α q)) : num α q = 0 := by
  have e0 : ((0 : Int), (1 : Int)) = it (numF α q) (0, 1) 0 := rfl
  exact (num_stop (by decide) (by decide) e0 (by rw [Int.add_zero]; exact h)).symm
theorem ast_m {σ τ : Mem} (h1 : τ 131 = σ 131) (h2 : τ 132 = σ 132) : ast τ = ast σ := by funext q; unfold ast; rw [cat_m h1 h2]
/-- along a run: before the place i -/
def PR (σ β : Mem) (i : Int) : Prop := ∃ (α μ : Mem) (v n : Int), (0 ≤ n ∧ n ≤ i) ∧ RG α μ ∧ α 131 = σ 131 ∧ α 132 = σ 132 ∧ μ 133 5 = β 133 5 ∧ μ 133 3 = 0 ∧
  ((rnI β n = (μ, v, 1) ∧ crI σ i = (α, v, 1) ∧ i ≤ μ 133 6 ∧ μ 133 6 ≤ β 133 5 + 1 ∧ (∀ j, i ≤ j → j < μ 133 6 → ¬ bgn σ j) ∧ (μ 133 6 ≤ β 133 5 → bgn σ (μ 133 6) ∧ ast σ (μ 133 6) = 0)) ∨ (rnI β n = (μ, v, 0) ∧ crI σ i = (α, v, 0)))
theorem PR_s {σ β : Mem} {i : Int} (hN : β 133 5 = σ 131 1) (h5 : mayE (ast σ (β 133 5))) (h0 : 0 ≤ i) (h1 : i < β 133 5) (h : PR σ β i) : PR σ β (i + 1) ∧ ((crI σ i).2.2 = 1 → IS (crI σ i).1 ∧ (bgn σ i → inR (num σ (i + 1)) ∧ inR (num σ (i + 3)))) := by
  obtain ⟨α, μ, v, n, hn, hR, e1, e2, e5, e3, h⟩ := h
  have ec := cat_m e1 e2
  have en := num_m e1 e2
  have ea := ast_m e1 e2
  have hT := hR.2.2.2
  rcases h with ⟨r, c, k1, k2, k3, k4⟩ | ⟨r, c⟩
  · have hIS : IS (crI σ i).1 := by rw [c]; exact hR.1.is
    by_cases hi : i < μ 133 6
    · have nb := k3 i (Int.le_refl _) hi
      refine ⟨⟨α, μ, v, n, by omega, hR, e1, e2, e5, e3, Or.inl ⟨r, (cr_skip h0 c.symm nb).symm, by omega, k2, fun j a b => k3 j (by omega) b, k4⟩⟩, fun _ => ⟨hIS, fun w => absurd w nb⟩⟩
    · have ei : μ 133 6 = i := by omega
      have hb := k4 (by omega)
      rw [ei] at hb
      have a0 : ast α i = 0 := by rw [ea]; exact hb.2
      rcases ord_cl hT ei h0 (by omega) a0 with ⟨hr, g1, g2, g3, g4, g5, g6, g7, g8, g9⟩ | ⟨hr, g1, g2, g3, g4, g5⟩
      · have hend : ordM μ 133 6 = μ 133 5 ∨ cat α (ordM μ 133 6) = 59 := by
          by_cases w : ordM μ 133 6 = μ 133 5
          · exact Or.inl w
          · right
            by_cases z : cat α (ordM μ 133 6) = 59
            · exact z
            · exfalso
              have a9 := ast_9 (j := μ 133 5) (by omega) (g6 (by omega) z) (by omega)
              rw [ea, e5] at a9
              omega
        have hnum := g8 hend
        have hov := ord_ov hr
        rw [g7] at hov
        have n7 : inR (ordM μ 133 7) := by
          by_cases w : cat α i = 116
          · have := hov.2.2.2 w; constructor <;> omega
          · have := hov.2.1 w; constructor <;> omega
        have n8 : inR (num σ (i + 3)) := by
          rw [← en]
          by_cases w : isP2 (cat α i)
          · have := hov.2.2.1 w; have := hnum.2 w; constructor <;> omega
          · have q1 : ¬ isd (cat α (ordM μ 133 6)) := by
              rcases hend with z | z
              · rw [hT.no (by omega)]; omega
              · rw [z]; omega
            have q2 : ¬ isd (cat α (ordM μ 133 6 + 1)) := by
              rcases hend with z | z
              · rw [hT.no (by omega)]; omega
              · intro w2
                have l2 := hT.lt (j := ordM μ 133 6 + 1) (by omega)
                have b0 : ast α (ordM μ 133 6 + 1) = 0 := by rw [ast_n (by omega) rfl, z]; unfold sb; rw [if_pos ⟨rfl, g4⟩]
                have b1 : ast α (ordM μ 133 6 + 1 + 1) = 9 := by rw [ast_n (by omega) b0, sb_0]; unfold sbv; rw [if_neg (by omega), if_neg (by omega), if_neg (by omega)]
                have a9 := ast_9 (j := μ 133 5) (by omega) b1 (by omega)
                rw [ea, e5] at a9
                omega
            have q3 : ¬ isd (cat α (i + 3)) := by
              rcases g9 with z | z | z
              · exact absurd z w
              · rw [show i + 3 = ordM μ 133 6 + 1 by omega]; exact q2
              · rw [← z]; exact q1
            rw [num_0 q3]; constructor <;> omega
        have hOR : RG α (ordM μ) := hR.m (fun _ _ _ => rfl) (fun j _ => ordM_o (by omega)) (ordM_o (by omega)) (ordM_o (by omega)) (fun _ => ordM_o (by omega)) (fun _ => ordM_o (by omega))
        have od := hOR.1.od (p := i) (v := v) hov rfl (fun _ => rfl) rfl hnum.1 hnum.2
        rw [← g7] at od
        have hG := hOR.1.g
        have hov2 : OV (ordM μ) (ordR μ) := by rw [g7]; exact hov
        have hR2 : RG (dorM α i) (adv (doM (ordM μ) (ordR μ))) := by
          have ad : ∀ (ν : Mem) (c : Nat) (j : Int), (c ≠ 133 ∨ j ≠ 6) → adv ν c j = ν c j := fun ν c j w => by unfold adv; rw [up_ap, if_neg (by omega)]
          refine hOR.op (od.2.m (fun _ _ _ => rfl) (fun j _ _ => ad _ _ _ (by omega))) (fun c a _ => dorM_o a) (fun j a _ => ?_) ?_ ?_ (fun j => ?_) (fun j => ?_)
          · rw [ad _ _ _ (by omega), doM_4 hG hov2 a]
          · rw [ad _ _ _ (by omega), doM_o (by decide)]
          · rw [ad _ _ _ (by omega), doM_o (by decide)]
          · rw [ad _ _ _ (by omega), doM_o (by decide)]
          · rw [ad _ _ _ (by omega), doM_o (by decide)]
        have m6 : adv (doM (ordM μ) (ordR μ)) 133 6 = ordM μ 133 6 + 1 := by rw [adv6, doM_o (by decide)]
        have m5 : adv (doM (ordM μ) (ordR μ)) 133 5 = β 133 5 := by rw [adv5, doM_o (by decide), ordM_o (by omega)]; exact e5
        have m3 : adv (doM (ordM μ) (ordR μ)) 133 3 = 0 := by unfold adv; rw [up_ap, if_neg (by omega), doM_o (by decide), ordM_o (by omega)]; exact e3
        have rn : rnI β (n + 1) = (adv (doM (ordM μ) (ordR μ)), v + bz (doR (ordM μ) (ordR μ)), bz (doR (ordM μ) (ordR μ))) := by
          rw [rnI_s hn.1, r]
          unfold rnF
          rw [if_neg (show ¬ ((μ, v, (1 : Int)).2.2 = 0 ∨ ¬ (μ, v, (1 : Int)).1 133 6 < (μ, v, (1 : Int)).1 133 5) from fun w => by
            rcases w with w | w
            · exact absurd w (show ¬ (1 : Int) = 0 by decide)
            · exact w (show μ 133 6 < μ 133 5 by omega))]
        have cr := (cr_do h0 c.symm hb.1).symm
        have eb : bz (dorR α i) = bz (doR (ordM μ) (ordR μ)) := bz_congr od.1
        rw [eb] at cr
        refine ⟨⟨dorM α i, adv (doM (ordM μ) (ordR μ)), v + bz (doR (ordM μ) (ordR μ)), n + 1, by omega, hR2, by rw [dorM_o (by decide)]; exact e1, by rw [dorM_o (by decide)]; exact e2, m5, m3, ?_⟩, fun _ => ⟨hIS, fun _ => ⟨by rw [← en, hnum.1]; exact n7, n8⟩⟩⟩
        by_cases w : doR (ordM μ) (ordR μ)
        · rw [bz_t w] at rn cr
          left
          refine ⟨by rw [rn, bz_t w], by rw [cr, bz_t w], by rw [m6]; omega, by rw [m6]; omega, fun j a b => ?_, fun z => ?_⟩
          · rw [m6] at b
            intro q
            rcases q with q | q
            · omega
            · rw [← ec] at q; exact g5 (j - 1) (by omega) (by omega) q
          · rw [m6] at z ⊢
            have h59 : cat α (ordM μ 133 6) = 59 := by rcases hend with q | q; omega; exact q
            refine ⟨Or.inr (by rw [show ordM μ 133 6 + 1 - 1 = ordM μ 133 6 by omega, ← ec]; exact h59), ?_⟩
            rw [← ea, ast_n (by omega) rfl, h59]
            unfold sb; rw [if_pos ⟨rfl, g4⟩]
        · rw [bz_f w] at rn cr
          right
          exact ⟨by rw [rn, bz_f w], by rw [cr, bz_f w]⟩
      · exfalso
        by_cases w : ordM μ 133 6 = μ 133 5
        · have := g5 w; rw [w, e5, ea] at this; exact this h5
        · have a9 := ast_9 (j := μ 133 5) (by omega) (g4 (by omega)) (by omega)
          rw [ea, e5] at a9
          omega
  · refine ⟨⟨α, μ, v, n, by omega, hR, e1, e2, e5, e3, Or.inr ⟨r, ?_⟩⟩, fun q => ?_⟩
    · rw [cr_stay h0 (by omega) (by rw [c]), c]
    · rw [c] at q; exact absurd q (show ¬ (0 : Int) = 1 by decide)
theorem PR_0 {σ β : Mem} (h : RG σ β) (hE : erR β < 0) : PR σ β 0 := by
  have eo : ∀ (c : Nat) (j : Int), (c ≠ 133 ∨ (j ≠ 6 ∧ j ≠ 7 ∧ j ≠ 8)) → erM β c j = β c j := fun c j w => er_o (by decide) w
  have h1 : RG σ (erM β) := h.m (fun _ _ _ => rfl) (fun j _ => eo _ _ (by omega)) (eo _ _ (by omega)) (eo _ _ (by omega)) (fun j => eo _ _ (by omega)) (fun j => eo _ _ (by omega))
  have x := h.xc
  have h2 := h1.push
  have hs := h1.2.1.2.1
  have hN := h.2.2.2.2.1
  have g3 : goM (erM β) 133 3 = 0 := by
    by_cases q : erM β 133 1 = 6
    · rw [goM_6 q, sgc_c (by decide), up_ap, if_neg (by omega)]; simp only [shfc]; rw [if_neg (by omega), up_ap, if_pos ⟨rfl, rfl⟩]
    · rw [goM_lt q, sgc_c (by decide), up_ap, if_neg (by omega), up_ap, if_pos ⟨rfl, rfl⟩]
  have e6 : up (goM (erM β)) 133 6 0 133 6 = 0 := by rw [up_ap, if_pos ⟨rfl, rfl⟩]
  refine ⟨pus σ, up (goM (erM β)) 133 6 0, 0, 0, by decide, h2.m (fun _ _ _ => rfl) (fun j _ => by rw [up_ap, if_neg (by omega)]) (by rw [up_ap, if_neg (by omega)]) (by rw [up_ap, if_neg (by omega)]) (fun j => by rw [up_ap, if_neg (by omega)]) (fun j => by rw [up_ap, if_neg (by omega)]), pus_o x.1 x.2 (Or.inr (by decide)), pus_o x.1 x.2 (Or.inr (by decide)), by rw [up_ap, if_neg (by omega), goM_o (by decide) (by omega)]; exact eo _ _ (by omega), by rw [up_ap, if_neg (by omega)]; exact g3, Or.inl ⟨rfl, rfl, by rw [e6]; decide, by rw [e6]; omega, fun j a b => by rw [e6] at b; omega, fun _ => by rw [e6]; exact ⟨Or.inl rfl, rfl⟩⟩⟩
theorem PR_all {σ β : Mem} (h : RG σ β) (hE : erR β < 0) (d : Nat) (hd : (d : Int) ≤ β 133 5) : PR σ β d := by
  have er := er_cl h.2.2.2
  induction d with
  | zero => exact PR_0 h hE
  | succ d ih => exact (PR_s h.2.2.2.1.symm (er.1.mp hE) (by omega) (by omega) (ih (by omega))).1
theorem RG.hR0 {σ β : Mem} (h : RG σ β) (hm : mayE (ast σ (σ 131 1))) : ∀ i, 0 ≤ i → i < σ 131 1 → (crI σ i).2.2 = 1 → IS (crI σ i).1 ∧ (bgn σ i → inR (num σ (i + 1)) ∧ inR (num σ (i + 3))) := by
  intro i a b
  have er := er_cl h.2.2.2
  have hN := h.2.2.2.1
  rw [hN] at hm b
  have p := PR_all h (er.1.mpr hm) i.toNat (by omega)
  rw [show ((i.toNat : Nat) : Int) = i by omega] at p
  exact (PR_s hN.symm hm a b p).2
theorem RG.run {σ β : Mem} (h : RG σ β) (hE : erR β < 0) : (crI σ (σ 131 1)).2.1 = (rnI β 61).2.1 ∧ RG (up (crI σ (σ 131 1)).1 131 1 0) (up (rnI β 61).1 133 5 0) ∧ (rnI β 61).1 133 3 = 0 := by
  have er := er_cl h.2.2.2
  have hm := er.1.mp hE
  have hN := h.2.2.2.1
  have hb := h.2.2.2.2.1
  have p := PR_all h hE (β 133 5).toNat (by omega)
  rw [show (((β 133 5).toNat : Nat) : Int) = β 133 5 by omega] at p
  obtain ⟨α, μ, v, n, hn, hR, e1, e2, e5, e3, h⟩ := p
  rw [hN]
  rcases h with ⟨r, c, k1, k2, k3, k4⟩ | ⟨r, c⟩
  · have e6 : μ 133 6 = β 133 5 + 1 := by
      by_cases w : μ 133 6 ≤ β 133 5
      · have a0 := (k4 w).2
        rw [show μ 133 6 = β 133 5 by omega] at a0
        omega
      · omega
    have st : rnI β 61 = (μ, v, 1) := by rw [rn_stay hn.1 (by omega) (Or.inr (by rw [r]; show ¬ μ 133 6 < μ 133 5; omega)), r]
    rw [st, c]
    exact ⟨rfl, hR.clr, e3⟩
  · have st : rnI β 61 = (μ, v, 0) := by rw [rn_stay hn.1 (by omega) (Or.inl (by rw [r])), r]
    rw [st, c]
    exact ⟨rfl, hR.clr, e3⟩
end RUNR
