/-! what the launch gives -/
section ENV
variable {s : State} {args : Array Value}
theorem srow_of {n : String} {f : Nat → Int} {v0 v1 v2 : Int32} {z : Nat} {T : Nat → ClassId} (hl : (Cond.laysStatic "CompostKeys" n "[I").before args s = true) (hini : (Cond.initialized "CompostKeys").before args s = true) (harr : (Cond.arrayOf (.static "CompostKeys" n "[I") .int).before args s = true) (hlen : (Cond.eq (.length (.static "CompostKeys" n "[I")) (.int 3)).before args s = true) (h0 : (Cond.eq (.elem (.static "CompostKeys" n "[I") (.int 0)) (.int v0)).before args s = true) (h1 : (Cond.eq (.elem (.static "CompostKeys" n "[I") (.int 1)) (.int v1)).before args s = true) (h2 : (Cond.eq (.elem (.static "CompostKeys" n "[I") (.int 2)) (.int v2)).before args s = true) (hf : kI (f 0) = v0 ∧ kI (f 1) = v1 ∧ kI (f 2) = v2) (hA : ∀ a : Nat, a < s.heap.size → ¬ Own T z a) : sRow T n 3 f z s s.heap := by
  obtain ⟨t, ht, hT⟩ := va_Tof (f := fun j => .int (kI (f j))) (A := Own T z) (N := 3) (by decide) harr (va_eqt hlen) (fun j hj => by
    rcases (by omega : j = 0 ∨ j = 1 ∨ j = 2) with rfl | rfl | rfl
    · rw [hf.1]; exact va_eqt h0
    · rw [hf.2.1]; exact va_eqt h1
    · rw [hf.2.2]; exact va_eqt h2) hA
  exact ⟨t, va_Zof hl hini ht hA, hT⟩
theorem mem_US : Cond.laysStatic Bundle.tN "UNASSIGNED_STACK" Bundle.steD ∈ lw_tbl := by decide +kernel
theorem mem_SS : Cond.laysStatic Bundle.tN "SUPPRESSED_SENTINEL" Bundle.listD ∈ lw_tbl := by decide +kernel
theorem mem_S1 : Cond.laysStatic "CompostKeys" "SETTING_AT_FIRST" "[I" ∈ lw_tbl := by decide +kernel
theorem mem_S2 : Cond.laysStatic "CompostKeys" "SETTING_LEAST" "[I" ∈ lw_tbl := by decide +kernel
theorem mem_S3 : Cond.laysStatic "CompostKeys" "SETTING_MOST" "[I" ∈ lw_tbl := by decide +kernel
theorem mem_AO : Cond.arrayOver (.object RX1) ∈ lw_tbl := by decide +kernel
theorem mem_NF : NF ∈ lw_tbl := by decide +kernel
theorem mem_vxB : ∀ w ∈ vxB, w ∈ lw_tbl := by decide +kernel
theorem mem_xStr : ∀ q ∈ xStr, Cond.stringRef RX5 q.1 q.2 ∈ lw_tbl := by decide +kernel
abbrev gv : Cond := .and given_1 narrow_1
theorem mem_x1 : ∀ q ∈ xNc, Cond.not (.castable q.1 q.2) ∈ flatC gv := by decide +kernel
theorem mem_e1 : ∀ w ∈ [Cond.isRef (.static Bundle.tN "UNASSIGNED_STACK" Bundle.steD), .isRef (.static Bundle.tN "SUPPRESSED_SENTINEL" Bundle.listD)], w ∈ flatC gv := by decide +kernel
def sWords (n : String) (v0 v1 v2 : Int32) : List Cond := [.arrayOf (.static "CompostKeys" n "[I") .int, .eq (.length (.static "CompostKeys" n "[I")) (.int 3), .eq (.elem (.static "CompostKeys" n "[I") (.int 0)) (.int v0), .eq (.elem (.static "CompostKeys" n "[I") (.int 1)) (.int v1), .eq (.elem (.static "CompostKeys" n "[I") (.int 2)) (.int v2)]
theorem mem_w1 : ∀ w ∈ sWords "SETTING_AT_FIRST" 0 4 3, w ∈ flatC gv := by decide +kernel
theorem mem_w2 : ∀ w ∈ sWords "SETTING_LEAST" 0 1 0, w ∈ flatC gv := by decide +kernel
theorem mem_w3 : ∀ w ∈ sWords "SETTING_MOST" 3 9 20, w ∈ flatC gv := by decide +kernel
theorem srow_w {n : String} {f : Nat → Int} {v0 v1 v2 : Int32} {z : Nat} {T : Nat → ClassId} (hl : (Cond.laysStatic "CompostKeys" n "[I").before args s = true) (hini : (Cond.initialized "CompostKeys").before args s = true) (hg : gv.before args s = true) (hw : ∀ w ∈ sWords n v0 v1 v2, w ∈ flatC gv) (hf : kI (f 0) = v0 ∧ kI (f 1) = v1 ∧ kI (f 2) = v2) (hA : ∀ a : Nat, a < s.heap.size → ¬ Own T z a) : sRow T n 3 f z s s.heap := by
  have hs := flat_of_before _ hg
  have w0 := hs _ (hw _ (List.mem_of_getElem? (i := 0) rfl))
  have w1 := hs _ (hw _ (List.mem_of_getElem? (i := 1) rfl))
  have w2 := hs _ (hw _ (List.mem_of_getElem? (i := 2) rfl))
  have w3 := hs _ (hw _ (List.mem_of_getElem? (i := 3) rfl))
  have w4 := hs _ (hw _ (List.mem_of_getElem? (i := 4) rfl))
  exact srow_of hl hini w0 w1 w2 w3 w4 hf hA
theorem env_Ev {T : Nat → ClassId} (hts : ∀ w ∈ lw_tbl, w.before args s = true) (hg : gv.before args s = true) : Ev T s.heap.size s s.heap := by
  have hs := flat_of_before _ hg
  have hA : ∀ a : Nat, a < s.heap.size → ¬ Own T s.heap.size a := fun a h q => absurd q.1 (Nat.not_le.mpr h)
  have hT := hts _ (Gw_tbl qN_Throwable)
  have h5 := hts _ (Gw_tbl qN_X5)
  exact ⟨vx_Zqof (hts _ mem_US) hT (hs _ (mem_e1 _ (List.mem_of_getElem? (i := 0) rfl))) hA, vx_Zqof (hts _ mem_SS) hT (hs _ (mem_e1 _ (List.mem_of_getElem? (i := 1) rfl))) hA, srow_w (hts _ mem_S1) h5 hg mem_w1 ⟨rfl, rfl, rfl⟩ hA, srow_w (hts _ mem_S2) h5 hg mem_w2 ⟨rfl, rfl, rfl⟩ hA, srow_w (hts _ mem_S3) h5 hg mem_w3 ⟨rfl, rfl, rfl⟩ hA⟩
theorem env_XG (hts : ∀ w ∈ lw_tbl, w.before args s = true) : XG s := ⟨va_AO.of (hts _ mem_AO), va_Nw.of rfl (hts _ mem_NF)⟩
theorem env_Xv (hts : ∀ w ∈ lw_tbl, w.before args s = true) (hg : gv.before args s = true) {cur : ClassId} (hcur : s.vm.findClass RX5 = some cur) : Xv s := by
  have hs := flat_of_before _ hg
  refine ⟨fun w hw => va_tabs (List.all_eq_true.mp vxB_ot w hw) rfl (hts _ (mem_vxB w hw)), fun q hq => ?_, fun q hq => va_Nc.of (hs _ (mem_x1 q hq))⟩
  have h1 := hts _ (mem_xStr q hq)
  obtain ⟨k, cf, i, a, -, -, -, -, -, h2⟩ := Cond.stringRef_spec (args := args) (first := s) (o := none) (s := s) (idx := []) hcur h1
  exact ⟨a, vk_R.of h1 h2⟩
theorem env_ar (hts : ∀ w ∈ Gw, w.before args s = true) {ty : FieldType} (h : Cond.arrayClass ty ∈ Gw) : ∃ t : ClassId, ArrOfT s t ty ∧ s.vm.findClass ("[" ++ ty.toString) = some t := by
  obtain ⟨t, k, comp, f1, f2, f3⟩ := Cond.arrayClass_spec (hts _ h)
  exact ⟨t, fun n z => ⟨fun q hq => (by cases hq), k, f2, comp, f3⟩, f1⟩
theorem env_K (hts : ∀ w ∈ Gw, w.before args s = true) (hxg : XG s) : ∃ (D : va_G) (T : Nat → ClassId), hol T = 0 ∧ va_K D vwCl (tysOf T) s := by
  obtain ⟨c0, i0, k0⟩ := u_known (C := RX0) (T := TX0) (N := 8) hts uX0 (hts _ qB_X0)
  obtain ⟨c1, i1, k1⟩ := u_known (C := RX1) (T := TX1) (N := 3) hts uX1 (hts _ qB_X1)
  obtain ⟨c2, i2, k2⟩ := u_known (C := RX2) (T := TX2) (N := 2) hts uX2 (hts _ qB_X2)
  obtain ⟨c3, i3, k3⟩ := u_known (C := RX3) (T := TX3) (N := 6) hts uX3 (hts _ qB_X3)
  obtain ⟨c4, i4, k4⟩ := u_known (C := RX4) (T := TX4) (N := 2) hts uX4 (hts _ qB_X4)
  obtain ⟨c5, i5, k5⟩ := u_known (C := RX5) (T := TX5) (N := 5) hts uX5 (hts _ qB_X5)
  obtain ⟨t0, a0, b0⟩ := env_ar hts qA_int
  obtain ⟨t1, a1, b1⟩ := env_ar hts qA_boolean
  obtain ⟨comp, t5, k5', g1, -, g3, g4, g5⟩ := Cond.arrayOver_spec hxg.1
  have a5 : ArrOfT s t5 (.object RX1) := fun n z => ⟨fun q hq => (by cases hq), k5', g3, comp, g4⟩
  refine ⟨(fun k => if k = 0 then c0 else if k = 1 then c1 else if k = 2 then c2 else if k = 3 then c3 else if k = 4 then c4 else c5, fun k => if k = 0 then i0 else if k = 1 then i1 else if k = 2 then i2 else if k = 3 then i3 else if k = 4 then i4 else i5), fun k => if k = 0 then t0 else if k = 1 then t1 else if k = 9 then 0 else t5, rfl, fun k q hq => ?_, fun k q hq => ?_⟩
  · match k, hq with
    | 0, hq => cases hq; exact k0
    | 1, hq => cases hq; exact k1
    | 2, hq => cases hq; exact k2
    | 3, hq => cases hq; exact k3
    | 4, hq => cases hq; exact k4
    | 5, hq => cases hq; exact k5
    | k + 6, hq => simp at hq
  · match k, hq with
    | 0, hq => cases hq; exact ⟨a0, b0⟩
    | 1, hq => cases hq; exact ⟨a1, b1⟩
    | 2, hq => cases hq; exact ⟨a0, b0⟩
    | 3, hq => cases hq; exact ⟨a0, b0⟩
    | 4, hq => cases hq; exact ⟨a0, b0⟩
    | 5, hq => cases hq; exact ⟨a5, k5', comp, g3, g4, g1, g5⟩
    | k + 6, hq => simp [tysOf] at hq
end ENV
