/-! THE LAW'S acts: one theorem for each way through it -/
set_option maxRecDepth 100000 in
set_option maxHeartbeats 4000000 in
theorem k_L_acts_sea (l : Launch) (hst0 : l.stackTraces = false) {σ : Mem} {n y u : Int} (hG : GI n σ) (hn : n ≤ 900) (hy : 0 ≤ y ∧ y ≤ 2147483647) (hu : u = y / 16) (hw : y % 16 = 0)  : CtK l yL_acts (Cond.code yL_acts cL_acts 3 (some .int)) 9 150 2 12 (fun z => [.ref (z + 0), .int (kI y)]) σ ((pus σ) 3 (u % 2)) (up (pus σ) 3 (u % 2) (u / 4 % 12)) := by
  intro D T z hT
  refine CtK_of (by decide) (Nat.le_of_ble_eq_true rfl) ?_
  intro p e s m below meth c ls hx hb hml hr hts hown hlk G hl hv
  have hown : s.vm.findClass RL = some m.cls := hown
  have hl : lv_has ls 3 [(0, .ref (z + 0)), (1, .int (kI y))] := hl
  have hC : ∀ {a b : Nat}, a ≤ 2 → b ≤ 12 → a ≤ (rmX 9 150 2 12).cells ∧ b ≤ (rmX 9 150 2 12).slots := fun h1 h2 => ⟨h1, h2⟩
  have hu0 : 0 ≤ u ∧ u ≤ 134217727 := by omega
  have hday := hG.i.2.1
  refine lv_iload_n hx hb dL_acts_0 rfl (lv_at hl 1 rfl) ?_
  refine r_bipush hx hb dL_acts_1 (by decide +kernel) ?_
  refine r_idiv hx hb dL_acts_3 (by omega) (by omega) (by omega) (by omega) ?_
  refine r_top (b := u) (hu.symm) ?_
  refine lv_istore_n (lv' := [(2, .int (kI u)), (0, .ref (z + 0)), (1, .int (kI y))]) hx hb dL_acts_4 rfl hl (by decide) rfl (fun ls hl => ?_)
  refine lv_iload_n hx hb dL_acts_5 rfl (lv_at hl 2 rfl) ?_
  refine r_bipush hx hb dL_acts_6 (by decide +kernel) ?_
  refine r_irem hx hb dL_acts_8 (by omega) (by omega) (by omega) (by omega) ?_
  refine r_top (b := 0) (hw) ?_
  refine r_tabIn (j := 0) (tgt := 72) hx hb dL_acts_9 (by decide) (by decide) ⟨by decide, by decide⟩ rfl (by decide) ?_
  refine lv_aload_n hx hb dL_acts_72 rfl (lv_at hl 1 rfl) ?_
  refine lv_iload_n hx hb dL_acts_73 rfl (lv_at hl 0 rfl) ?_
  refine r_iconst hx hb dL_acts_74 ?_
  refine r_irem hx hb dL_acts_75 (by omega) (by omega) (by omega) (by omega) ?_
  refine lv_iload_n hx hb dL_acts_76 rfl (lv_at hl 0 rfl) ?_
  refine r_iconst hx hb dL_acts_77 ?_
  refine r_idiv hx hb dL_acts_78 (by omega) (by omega) (by omega) (by omega) ?_
  refine r_bipush hx hb dL_acts_79 (by decide +kernel) ?_
  refine r_irem hx hb dL_acts_81 (by omega) (by omega) (by omega) (by omega) ?_
  refine r_callW (na := 3) (own := RL) ⟨hx, hb, hml, hown, hts⟩ G hv (k_L_season_y l hst0 (σ := σ) (k := u % 2) (d := u / 4 % 12) ⟨by omega, by omega⟩ ⟨by omega, by omega⟩ (hG.xc) (hG.z) (hG.s) ⟨by omega, by omega⟩ (by omega)) qC_L_season qM_L_95 qS_L_season qN_L (by decide +kernel) ⟨Nat.le_of_ble_eq_true rfl, Nat.le_of_ble_eq_true rfl⟩ rfl rfl hl.1 rfl (Nat.le_of_ble_eq_true rfl) dL_acts_82 (hC (by omega) (by omega)) (fun H locs G => ?_)
  exact r_kret hx hb hr hlk G ⟨by omega, by omega⟩ (rfl) rfl dL_acts_85
set_option maxRecDepth 100000 in
set_option maxHeartbeats 4000000 in
theorem k_L_acts_set0 (l : Launch) (hst0 : l.stackTraces = false) {σ : Mem} {n y u : Int} (hG : GI n σ) (hn : n ≤ 900) (hy : 0 ≤ y ∧ y ≤ 2147483647) (hu : u = y / 16) (hw : y % 16 = 1) (h3 : u % 3 = 0) : CtK l yL_acts (Cond.code yL_acts cL_acts 3 (some .int)) 9 150 2 12 (fun z => [.ref (z + 0), .int (kI y)]) σ ((pus σ) 14 (u % 3)) (up (pus σ) 14 (u % 3) (u / 4 % 4)) := by
  intro D T z hT
  refine CtK_of (by decide) (Nat.le_of_ble_eq_true rfl) ?_
  intro p e s m below meth c ls hx hb hml hr hts hown hlk G hl hv
  have hown : s.vm.findClass RL = some m.cls := hown
  have hl : lv_has ls 3 [(0, .ref (z + 0)), (1, .int (kI y))] := hl
  have hC : ∀ {a b : Nat}, a ≤ 2 → b ≤ 12 → a ≤ (rmX 9 150 2 12).cells ∧ b ≤ (rmX 9 150 2 12).slots := fun h1 h2 => ⟨h1, h2⟩
  have hu0 : 0 ≤ u ∧ u ≤ 134217727 := by omega
  have hday := hG.i.2.1
  refine lv_iload_n hx hb dL_acts_0 rfl (lv_at hl 1 rfl) ?_
  refine r_bipush hx hb dL_acts_1 (by decide +kernel) ?_
  refine r_idiv hx hb dL_acts_3 (by omega) (by omega) (by omega) (by omega) ?_
  refine r_top (b := u) (hu.symm) ?_
  refine lv_istore_n (lv' := [(2, .int (kI u)), (0, .ref (z + 0)), (1, .int (kI y))]) hx hb dL_acts_4 rfl hl (by decide) rfl (fun ls hl => ?_)
  refine lv_iload_n hx hb dL_acts_5 rfl (lv_at hl 2 rfl) ?_
  refine r_bipush hx hb dL_acts_6 (by decide +kernel) ?_
  refine r_irem hx hb dL_acts_8 (by omega) (by omega) (by omega) (by omega) ?_
  refine r_top (b := 1) (hw) ?_
  refine r_tabIn (j := 1) (tgt := 86) hx hb dL_acts_9 (by decide) (by decide) ⟨by decide, by decide⟩ rfl (by decide) ?_
  refine lv_aload_n hx hb dL_acts_86 rfl (lv_at hl 1 rfl) ?_
  refine lv_iload_n hx hb dL_acts_87 rfl (lv_at hl 0 rfl) ?_
  refine r_iconst hx hb dL_acts_88 ?_
  refine r_irem hx hb dL_acts_89 (by omega) (by omega) (by omega) (by omega) ?_
  refine lv_iload_n hx hb dL_acts_90 rfl (lv_at hl 0 rfl) ?_
  refine r_iconst hx hb dL_acts_91 ?_
  refine r_irem hx hb dL_acts_92 (by omega) (by omega) (by omega) (by omega) ?_
  refine r_if_ne (tgt := 104) hx hb ⟨by omega, by omega⟩ dL_acts_93 (by decide) (fun h_1 => absurd h_1 (by omega)) (fun h_1 => ?_)
  refine lv_iload_n hx hb dL_acts_96 rfl (lv_at hl 0 rfl) ?_
  refine r_iconst hx hb dL_acts_97 ?_
  refine r_idiv hx hb dL_acts_98 (by omega) (by omega) (by omega) (by omega) ?_
  refine r_iconst hx hb dL_acts_99 ?_
  refine r_irem hx hb dL_acts_100 (by omega) (by omega) (by omega) (by omega) ?_
  refine lv_goto (tgt := 127) hx hb dL_acts_101 (by decide) ?_
  refine r_callW (na := 3) (own := RL) ⟨hx, hb, hml, hown, hts⟩ G hv (k_L_set_y l hst0 (σ := σ) (k := u % 3) (d := u / 4 % 4) ⟨by omega, by omega⟩ ⟨by omega, by omega⟩ (hG.xc) (hG.z) (hG.s) (by omega) (by constructor <;> (repeat' split) <;> omega)) qC_L_set qM_L_100 qS_L_set qN_L (by decide +kernel) ⟨Nat.le_of_ble_eq_true rfl, Nat.le_of_ble_eq_true rfl⟩ rfl rfl hl.1 rfl (Nat.le_of_ble_eq_true rfl) dL_acts_127 (hC (by omega) (by omega)) (fun H locs G => ?_)
  exact r_kret hx hb hr hlk G ⟨by omega, by omega⟩ (rfl) rfl dL_acts_130
set_option maxRecDepth 100000 in
set_option maxHeartbeats 4000000 in
theorem k_L_acts_set1 (l : Launch) (hst0 : l.stackTraces = false) {σ : Mem} {n y u : Int} (hG : GI n σ) (hn : n ≤ 900) (hy : 0 ≤ y ∧ y ≤ 2147483647) (hu : u = y / 16) (hw : y % 16 = 1) (h3 : u % 3 = 1) : CtK l yL_acts (Cond.code yL_acts cL_acts 3 (some .int)) 9 150 2 12 (fun z => [.ref (z + 0), .int (kI y)]) σ ((pus σ) 14 (u % 3)) (up (pus σ) 14 (u % 3) (1 + u / 4 % 4)) := by
  intro D T z hT
  refine CtK_of (by decide) (Nat.le_of_ble_eq_true rfl) ?_
  intro p e s m below meth c ls hx hb hml hr hts hown hlk G hl hv
  have hown : s.vm.findClass RL = some m.cls := hown
  have hl : lv_has ls 3 [(0, .ref (z + 0)), (1, .int (kI y))] := hl
  have hC : ∀ {a b : Nat}, a ≤ 2 → b ≤ 12 → a ≤ (rmX 9 150 2 12).cells ∧ b ≤ (rmX 9 150 2 12).slots := fun h1 h2 => ⟨h1, h2⟩
  have hu0 : 0 ≤ u ∧ u ≤ 134217727 := by omega
  have hday := hG.i.2.1
  refine lv_iload_n hx hb dL_acts_0 rfl (lv_at hl 1 rfl) ?_
  refine r_bipush hx hb dL_acts_1 (by decide +kernel) ?_
  refine r_idiv hx hb dL_acts_3 (by omega) (by omega) (by omega) (by omega) ?_
  refine r_top (b := u) (hu.symm) ?_
  refine lv_istore_n (lv' := [(2, .int (kI u)), (0, .ref (z + 0)), (1, .int (kI y))]) hx hb dL_acts_4 rfl hl (by decide) rfl (fun ls hl => ?_)
  refine lv_iload_n hx hb dL_acts_5 rfl (lv_at hl 2 rfl) ?_
  refine r_bipush hx hb dL_acts_6 (by decide +kernel) ?_
  refine r_irem hx hb dL_acts_8 (by omega) (by omega) (by omega) (by omega) ?_
  refine r_top (b := 1) (hw) ?_
  refine r_tabIn (j := 1) (tgt := 86) hx hb dL_acts_9 (by decide) (by decide) ⟨by decide, by decide⟩ rfl (by decide) ?_
  refine lv_aload_n hx hb dL_acts_86 rfl (lv_at hl 1 rfl) ?_
  refine lv_iload_n hx hb dL_acts_87 rfl (lv_at hl 0 rfl) ?_
  refine r_iconst hx hb dL_acts_88 ?_
  refine r_irem hx hb dL_acts_89 (by omega) (by omega) (by omega) (by omega) ?_
  refine lv_iload_n hx hb dL_acts_90 rfl (lv_at hl 0 rfl) ?_
  refine r_iconst hx hb dL_acts_91 ?_
  refine r_irem hx hb dL_acts_92 (by omega) (by omega) (by omega) (by omega) ?_
  refine r_if_ne (tgt := 104) hx hb ⟨by omega, by omega⟩ dL_acts_93 (by decide) (fun h_1 => ?_) (fun h_1 => absurd h_1 (by omega))
  refine lv_iload_n hx hb dL_acts_104 rfl (lv_at hl 0 rfl) ?_
  refine r_iconst hx hb dL_acts_105 ?_
  refine r_irem hx hb dL_acts_106 (by omega) (by omega) (by omega) (by omega) ?_
  refine r_iconst hx hb dL_acts_107 ?_
  refine r_icmp_ne (tgt := 121) hx hb ⟨by omega, by omega⟩ ⟨by decide, by decide⟩ dL_acts_108 (by decide) (fun h_2 => absurd h_2 (by omega)) (fun h_2 => ?_)
  refine r_iconst hx hb dL_acts_111 ?_
  refine lv_iload_n hx hb dL_acts_112 rfl (lv_at hl 0 rfl) ?_
  refine r_iconst hx hb dL_acts_113 ?_
  refine r_idiv hx hb dL_acts_114 (by omega) (by omega) (by omega) (by omega) ?_
  refine r_iconst hx hb dL_acts_115 ?_
  refine r_irem hx hb dL_acts_116 (by omega) (by omega) (by omega) (by omega) ?_
  refine r_iadd hx hb dL_acts_117 ?_
  refine lv_goto (tgt := 127) hx hb dL_acts_118 (by decide) ?_
  refine r_callW (na := 3) (own := RL) ⟨hx, hb, hml, hown, hts⟩ G hv (k_L_set_y l hst0 (σ := σ) (k := u % 3) (d := 1 + u / 4 % 4) ⟨by omega, by omega⟩ ⟨by omega, by omega⟩ (hG.xc) (hG.z) (hG.s) (by omega) (by constructor <;> (repeat' split) <;> omega)) qC_L_set qM_L_100 qS_L_set qN_L (by decide +kernel) ⟨Nat.le_of_ble_eq_true rfl, Nat.le_of_ble_eq_true rfl⟩ rfl rfl hl.1 rfl (Nat.le_of_ble_eq_true rfl) dL_acts_127 (hC (by omega) (by omega)) (fun H locs G => ?_)
  exact r_kret hx hb hr hlk G ⟨by omega, by omega⟩ (rfl) rfl dL_acts_130
set_option maxRecDepth 100000 in
set_option maxHeartbeats 4000000 in
theorem k_L_acts_set2 (l : Launch) (hst0 : l.stackTraces = false) {σ : Mem} {n y u : Int} (hG : GI n σ) (hn : n ≤ 900) (hy : 0 ≤ y ∧ y ≤ 2147483647) (hu : u = y / 16) (hw : y % 16 = 1) (h3 : u % 3 = 2) : CtK l yL_acts (Cond.code yL_acts cL_acts 3 (some .int)) 9 150 2 12 (fun z => [.ref (z + 0), .int (kI y)]) σ ((pus σ) 14 (u % 3)) (up (pus σ) 14 (u % 3) (u / 4 % 8)) := by
  intro D T z hT
  refine CtK_of (by decide) (Nat.le_of_ble_eq_true rfl) ?_
  intro p e s m below meth c ls hx hb hml hr hts hown hlk G hl hv
  have hown : s.vm.findClass RL = some m.cls := hown
  have hl : lv_has ls 3 [(0, .ref (z + 0)), (1, .int (kI y))] := hl
  have hC : ∀ {a b : Nat}, a ≤ 2 → b ≤ 12 → a ≤ (rmX 9 150 2 12).cells ∧ b ≤ (rmX 9 150 2 12).slots := fun h1 h2 => ⟨h1, h2⟩
  have hu0 : 0 ≤ u ∧ u ≤ 134217727 := by omega
  have hday := hG.i.2.1
  refine lv_iload_n hx hb dL_acts_0 rfl (lv_at hl 1 rfl) ?_
  refine r_bipush hx hb dL_acts_1 (by decide +kernel) ?_
  refine r_idiv hx hb dL_acts_3 (by omega) (by omega) (by omega) (by omega) ?_
  refine r_top (b := u) (hu.symm) ?_
  refine lv_istore_n (lv' := [(2, .int (kI u)), (0, .ref (z + 0)), (1, .int (kI y))]) hx hb dL_acts_4 rfl hl (by decide) rfl (fun ls hl => ?_)
  refine lv_iload_n hx hb dL_acts_5 rfl (lv_at hl 2 rfl) ?_
  refine r_bipush hx hb dL_acts_6 (by decide +kernel) ?_
  refine r_irem hx hb dL_acts_8 (by omega) (by omega) (by omega) (by omega) ?_
  refine r_top (b := 1) (hw) ?_
  refine r_tabIn (j := 1) (tgt := 86) hx hb dL_acts_9 (by decide) (by decide) ⟨by decide, by decide⟩ rfl (by decide) ?_
  refine lv_aload_n hx hb dL_acts_86 rfl (lv_at hl 1 rfl) ?_
  refine lv_iload_n hx hb dL_acts_87 rfl (lv_at hl 0 rfl) ?_
  refine r_iconst hx hb dL_acts_88 ?_
  refine r_irem hx hb dL_acts_89 (by omega) (by omega) (by omega) (by omega) ?_
  refine lv_iload_n hx hb dL_acts_90 rfl (lv_at hl 0 rfl) ?_
  refine r_iconst hx hb dL_acts_91 ?_
  refine r_irem hx hb dL_acts_92 (by omega) (by omega) (by omega) (by omega) ?_
  refine r_if_ne (tgt := 104) hx hb ⟨by omega, by omega⟩ dL_acts_93 (by decide) (fun h_1 => ?_) (fun h_1 => absurd h_1 (by omega))
  refine lv_iload_n hx hb dL_acts_104 rfl (lv_at hl 0 rfl) ?_
  refine r_iconst hx hb dL_acts_105 ?_
  refine r_irem hx hb dL_acts_106 (by omega) (by omega) (by omega) (by omega) ?_
  refine r_iconst hx hb dL_acts_107 ?_
  refine r_icmp_ne (tgt := 121) hx hb ⟨by omega, by omega⟩ ⟨by decide, by decide⟩ dL_acts_108 (by decide) (fun h_2 => ?_) (fun h_2 => absurd h_2 (by omega))
  refine lv_iload_n hx hb dL_acts_121 rfl (lv_at hl 0 rfl) ?_
  refine r_iconst hx hb dL_acts_122 ?_
  refine r_idiv hx hb dL_acts_123 (by omega) (by omega) (by omega) (by omega) ?_
  refine r_bipush hx hb dL_acts_124 (by decide +kernel) ?_
  refine r_irem hx hb dL_acts_126 (by omega) (by omega) (by omega) (by omega) ?_
  refine r_callW (na := 3) (own := RL) ⟨hx, hb, hml, hown, hts⟩ G hv (k_L_set_y l hst0 (σ := σ) (k := u % 3) (d := u / 4 % 8) ⟨by omega, by omega⟩ ⟨by omega, by omega⟩ (hG.xc) (hG.z) (hG.s) (by omega) (by constructor <;> (repeat' split) <;> omega)) qC_L_set qM_L_100 qS_L_set qN_L (by decide +kernel) ⟨Nat.le_of_ble_eq_true rfl, Nat.le_of_ble_eq_true rfl⟩ rfl rfl hl.1 rfl (Nat.le_of_ble_eq_true rfl) dL_acts_127 (hC (by omega) (by omega)) (fun H locs G => ?_)
  exact r_kret hx hb hr hlk G ⟨by omega, by omega⟩ (rfl) rfl dL_acts_130
set_option maxRecDepth 100000 in
set_option maxHeartbeats 4000000 in
theorem k_L_acts_trn (l : Launch) (hst0 : l.stackTraces = false) {σ : Mem} {n y u : Int} (hG : GI n σ) (hn : n ≤ 900) (hy : 0 ≤ y ∧ y ≤ 2147483647) (hu : u = y / 16) (hw : y % 16 = 2) (h3 : u % 3 = 0) : CtK l yL_acts (Cond.code yL_acts cL_acts 3 (some .int)) 9 145 2 12 (fun z => [.ref (z + 0), .int (kI y)]) σ (kat (tup (pus σ) (u / 3 % 2)) (u / 3 % 2) 0) (tup (pus σ) (u / 3 % 2)) := by
  intro D T z hT
  refine CtK_of (by decide) (Nat.le_of_ble_eq_true rfl) ?_
  intro p e s m below meth c ls hx hb hml hr hts hown hlk G hl hv
  have hown : s.vm.findClass RL = some m.cls := hown
  have hl : lv_has ls 3 [(0, .ref (z + 0)), (1, .int (kI y))] := hl
  have hC : ∀ {a b : Nat}, a ≤ 2 → b ≤ 12 → a ≤ (rmX 9 145 2 12).cells ∧ b ≤ (rmX 9 145 2 12).slots := fun h1 h2 => ⟨h1, h2⟩
  have hu0 : 0 ≤ u ∧ u ≤ 134217727 := by omega
  have hday := hG.i.2.1
  refine lv_iload_n hx hb dL_acts_0 rfl (lv_at hl 1 rfl) ?_
  refine r_bipush hx hb dL_acts_1 (by decide +kernel) ?_
  refine r_idiv hx hb dL_acts_3 (by omega) (by omega) (by omega) (by omega) ?_
  refine r_top (b := u) (hu.symm) ?_
  refine lv_istore_n (lv' := [(2, .int (kI u)), (0, .ref (z + 0)), (1, .int (kI y))]) hx hb dL_acts_4 rfl hl (by decide) rfl (fun ls hl => ?_)
  refine lv_iload_n hx hb dL_acts_5 rfl (lv_at hl 2 rfl) ?_
  refine r_bipush hx hb dL_acts_6 (by decide +kernel) ?_
  refine r_irem hx hb dL_acts_8 (by omega) (by omega) (by omega) (by omega) ?_
  refine r_top (b := 2) (hw) ?_
  refine r_tabIn (j := 2) (tgt := 131) hx hb dL_acts_9 (by decide) (by decide) ⟨by decide, by decide⟩ rfl (by decide) ?_
  refine lv_iload_n hx hb dL_acts_131 rfl (lv_at hl 0 rfl) ?_
  refine r_iconst hx hb dL_acts_132 ?_
  refine r_irem hx hb dL_acts_133 (by omega) (by omega) (by omega) (by omega) ?_
  refine r_if_ne (tgt := 149) hx hb ⟨by omega, by omega⟩ dL_acts_134 (by decide) (fun h_1 => absurd h_1 (by omega)) (fun h_1 => ?_)
  refine lv_aload_n hx hb dL_acts_137 rfl (lv_at hl 1 rfl) ?_
  refine lv_iload_n hx hb dL_acts_138 rfl (lv_at hl 0 rfl) ?_
  refine r_iconst hx hb dL_acts_139 ?_
  refine r_idiv hx hb dL_acts_140 (by omega) (by omega) (by omega) (by omega) ?_
  refine r_iconst hx hb dL_acts_141 ?_
  refine r_irem hx hb dL_acts_142 (by omega) (by omega) (by omega) (by omega) ?_
  refine r_callW (na := 2) (own := RL) ⟨hx, hb, hml, hown, hts⟩ G hv (k_L_turn_y l hst0 (σ := σ) (k := u / 3 % 2) ⟨by omega, by omega⟩ (hG.xc) (hG.z) (hG.s) ⟨by omega, by omega⟩) qC_L_turn qM_L_102 qS_L_turn qN_L (by decide +kernel) ⟨Nat.le_of_ble_eq_true rfl, Nat.le_of_ble_eq_true rfl⟩ rfl rfl hl.1 rfl (Nat.le_of_ble_eq_true rfl) dL_acts_143 (hC (by omega) (by omega)) (fun H locs G => ?_)
  refine lv_goto (tgt := 177) hx hb dL_acts_146 (by decide) ?_
  exact r_kret hx hb hr hlk G ⟨by omega, by omega⟩ (rfl) rfl dL_acts_177
set_option maxRecDepth 100000 in
set_option maxHeartbeats 4000000 in
theorem k_L_acts_goby (l : Launch) (hst0 : l.stackTraces = false) {σ : Mem} {n y u : Int} (hG : GI n σ) (hn : n ≤ 900) (hy : 0 ≤ y ∧ y ≤ 2147483647) (hu : u = y / 16) (hw : y % 16 = 2) (h3 : u % 3 = 1) (hc : σ 130 (u / 3 % 2) = 1) : CtK l yL_acts (Cond.code yL_acts cL_acts 3 (some .int)) 9 147 2 12 (fun z => [.ref (z + 0), .int (kI y)]) σ ((pus σ) (102 + 14 * (u / 3 % 2).toNat + 1) 0) (csp (pus σ) (102 + 14 * (u / 3 % 2).toNat) 1) := by
  intro D T z hT
  refine CtK_of (by decide) (Nat.le_of_ble_eq_true rfl) ?_
  intro p e s m below meth c ls hx hb hml hr hts hown hlk G hl hv
  have hown : s.vm.findClass RL = some m.cls := hown
  have hl : lv_has ls 3 [(0, .ref (z + 0)), (1, .int (kI y))] := hl
  have hC : ∀ {a b : Nat}, a ≤ 2 → b ≤ 12 → a ≤ (rmX 9 147 2 12).cells ∧ b ≤ (rmX 9 147 2 12).slots := fun h1 h2 => ⟨h1, h2⟩
  have hu0 : 0 ≤ u ∧ u ≤ 134217727 := by omega
  have hday := hG.i.2.1
  refine lv_iload_n hx hb dL_acts_0 rfl (lv_at hl 1 rfl) ?_
  refine r_bipush hx hb dL_acts_1 (by decide +kernel) ?_
  refine r_idiv hx hb dL_acts_3 (by omega) (by omega) (by omega) (by omega) ?_
  refine r_top (b := u) (hu.symm) ?_
  refine lv_istore_n (lv' := [(2, .int (kI u)), (0, .ref (z + 0)), (1, .int (kI y))]) hx hb dL_acts_4 rfl hl (by decide) rfl (fun ls hl => ?_)
  refine lv_iload_n hx hb dL_acts_5 rfl (lv_at hl 2 rfl) ?_
  refine r_bipush hx hb dL_acts_6 (by decide +kernel) ?_
  refine r_irem hx hb dL_acts_8 (by omega) (by omega) (by omega) (by omega) ?_
  refine r_top (b := 2) (hw) ?_
  refine r_tabIn (j := 2) (tgt := 131) hx hb dL_acts_9 (by decide) (by decide) ⟨by decide, by decide⟩ rfl (by decide) ?_
  refine lv_iload_n hx hb dL_acts_131 rfl (lv_at hl 0 rfl) ?_
  refine r_iconst hx hb dL_acts_132 ?_
  refine r_irem hx hb dL_acts_133 (by omega) (by omega) (by omega) (by omega) ?_
  refine r_if_ne (tgt := 149) hx hb ⟨by omega, by omega⟩ dL_acts_134 (by decide) (fun h_1 => ?_) (fun h_1 => absurd h_1 (by omega))
  refine lv_iload_n hx hb dL_acts_149 rfl (lv_at hl 0 rfl) ?_
  refine r_iconst hx hb dL_acts_150 ?_
  refine r_irem hx hb dL_acts_151 (by omega) (by omega) (by omega) (by omega) ?_
  refine r_iconst hx hb dL_acts_152 ?_
  refine r_icmp_ne (tgt := 168) hx hb ⟨by omega, by omega⟩ ⟨by decide, by decide⟩ dL_acts_153 (by decide) (fun h_2 => absurd h_2 (by omega)) (fun h_2 => ?_)
  refine lv_aload_n hx hb dL_acts_156 rfl (lv_at hl 1 rfl) ?_
  refine lv_iload_n hx hb dL_acts_157 rfl (lv_at hl 0 rfl) ?_
  refine r_iconst hx hb dL_acts_158 ?_
  refine r_idiv hx hb dL_acts_159 (by omega) (by omega) (by omega) (by omega) ?_
  refine r_iconst hx hb dL_acts_160 ?_
  refine r_irem hx hb dL_acts_161 (by omega) (by omega) (by omega) (by omega) ?_
  refine r_callW (na := 2) (own := RL) ⟨hx, hb, hml, hown, hts⟩ G hv (k_L_goBack_y l hst0 (σ := σ) (q := u / 3 % 2) ⟨by omega, by omega⟩ (hG.kc) (hG.xc) (hG.z) (hG.s) (by omega) (hc)) qC_L_goBack qM_L_105 qS_L_goBack qN_L (by decide +kernel) ⟨Nat.le_of_ble_eq_true rfl, Nat.le_of_ble_eq_true rfl⟩ rfl rfl hl.1 rfl (Nat.le_of_ble_eq_true rfl) dL_acts_162 (hC (by omega) (by omega)) (fun H locs G => ?_)
  refine lv_goto (tgt := 177) hx hb dL_acts_165 (by decide) ?_
  exact r_kret hx hb hr hlk G ⟨by omega, by omega⟩ (rfl) rfl dL_acts_177
set_option maxRecDepth 100000 in
set_option maxHeartbeats 4000000 in
theorem k_L_acts_gobn (l : Launch) (hst0 : l.stackTraces = false) {σ : Mem} {n y u : Int} (hG : GI n σ) (hn : n ≤ 900) (hy : 0 ≤ y ∧ y ≤ 2147483647) (hu : u = y / 16) (hw : y % 16 = 2) (h3 : u % 3 = 1) (hc : ¬ σ 130 (u / 3 % 2) = 1) : CtK l yL_acts (Cond.code yL_acts cL_acts 3 (some .int)) 9 147 2 12 (fun z => [.ref (z + 0), .int (kI y)]) σ ((-2000002)) (σ) := by
  intro D T z hT
  refine CtK_of (by decide) (Nat.le_of_ble_eq_true rfl) ?_
  intro p e s m below meth c ls hx hb hml hr hts hown hlk G hl hv
  have hown : s.vm.findClass RL = some m.cls := hown
  have hl : lv_has ls 3 [(0, .ref (z + 0)), (1, .int (kI y))] := hl
  have hC : ∀ {a b : Nat}, a ≤ 2 → b ≤ 12 → a ≤ (rmX 9 147 2 12).cells ∧ b ≤ (rmX 9 147 2 12).slots := fun h1 h2 => ⟨h1, h2⟩
  have hu0 : 0 ≤ u ∧ u ≤ 134217727 := by omega
  have hday := hG.i.2.1
  refine lv_iload_n hx hb dL_acts_0 rfl (lv_at hl 1 rfl) ?_
  refine r_bipush hx hb dL_acts_1 (by decide +kernel) ?_
  refine r_idiv hx hb dL_acts_3 (by omega) (by omega) (by omega) (by omega) ?_
  refine r_top (b := u) (hu.symm) ?_
  refine lv_istore_n (lv' := [(2, .int (kI u)), (0, .ref (z + 0)), (1, .int (kI y))]) hx hb dL_acts_4 rfl hl (by decide) rfl (fun ls hl => ?_)
  refine lv_iload_n hx hb dL_acts_5 rfl (lv_at hl 2 rfl) ?_
  refine r_bipush hx hb dL_acts_6 (by decide +kernel) ?_
  refine r_irem hx hb dL_acts_8 (by omega) (by omega) (by omega) (by omega) ?_
  refine r_top (b := 2) (hw) ?_
  refine r_tabIn (j := 2) (tgt := 131) hx hb dL_acts_9 (by decide) (by decide) ⟨by decide, by decide⟩ rfl (by decide) ?_
  refine lv_iload_n hx hb dL_acts_131 rfl (lv_at hl 0 rfl) ?_
  refine r_iconst hx hb dL_acts_132 ?_
  refine r_irem hx hb dL_acts_133 (by omega) (by omega) (by omega) (by omega) ?_
  refine r_if_ne (tgt := 149) hx hb ⟨by omega, by omega⟩ dL_acts_134 (by decide) (fun h_1 => ?_) (fun h_1 => absurd h_1 (by omega))
  refine lv_iload_n hx hb dL_acts_149 rfl (lv_at hl 0 rfl) ?_
  refine r_iconst hx hb dL_acts_150 ?_
  refine r_irem hx hb dL_acts_151 (by omega) (by omega) (by omega) (by omega) ?_
  refine r_iconst hx hb dL_acts_152 ?_
  refine r_icmp_ne (tgt := 168) hx hb ⟨by omega, by omega⟩ ⟨by decide, by decide⟩ dL_acts_153 (by decide) (fun h_2 => absurd h_2 (by omega)) (fun h_2 => ?_)
  refine lv_aload_n hx hb dL_acts_156 rfl (lv_at hl 1 rfl) ?_
  refine lv_iload_n hx hb dL_acts_157 rfl (lv_at hl 0 rfl) ?_
  refine r_iconst hx hb dL_acts_158 ?_
  refine r_idiv hx hb dL_acts_159 (by omega) (by omega) (by omega) (by omega) ?_
  refine r_iconst hx hb dL_acts_160 ?_
  refine r_irem hx hb dL_acts_161 (by omega) (by omega) (by omega) (by omega) ?_
  refine r_callW (na := 2) (own := RL) ⟨hx, hb, hml, hown, hts⟩ G hv (k_L_goBack_2 l hst0 (σ := σ) (q := u / 3 % 2) ⟨by omega, by omega⟩ (hG.kc) (hG.xc) (hG.z) (hG.s) (by omega) (hc)) qC_L_goBack qM_L_105 qS_L_goBack qN_L (by decide +kernel) ⟨Nat.le_of_ble_eq_true rfl, Nat.le_of_ble_eq_true rfl⟩ rfl rfl hl.1 rfl (Nat.le_of_ble_eq_true rfl) dL_acts_162 (hC (by omega) (by omega)) (fun H locs G => ?_)
  refine lv_goto (tgt := 177) hx hb dL_acts_165 (by decide) ?_
  exact r_kret hx hb hr hlk G ⟨by omega, by omega⟩ (rfl) rfl dL_acts_177
set_option maxRecDepth 100000 in
set_option maxHeartbeats 4000000 in
theorem k_L_acts_kee (l : Launch) (hst0 : l.stackTraces = false) {σ : Mem} {n y u : Int} (hG : GI n σ) (hn : n ≤ 900) (hy : 0 ≤ y ∧ y ≤ 2147483647) (hu : u = y / 16) (hw : y % 16 = 2) (h3 : u % 3 = 2) : CtK l yL_acts (Cond.code yL_acts cL_acts 3 (some .int)) 9 147 2 12 (fun z => [.ref (z + 0), .int (kI y)]) σ (σ 2 0) (up (csp σ 1 (102 + 14 * (u / 3 % 2).toNat)) 130 (u / 3 % 2) 1) := by
  intro D T z hT
  refine CtK_of (by decide) (Nat.le_of_ble_eq_true rfl) ?_
  intro p e s m below meth c ls hx hb hml hr hts hown hlk G hl hv
  have hown : s.vm.findClass RL = some m.cls := hown
  have hl : lv_has ls 3 [(0, .ref (z + 0)), (1, .int (kI y))] := hl
  have hC : ∀ {a b : Nat}, a ≤ 2 → b ≤ 12 → a ≤ (rmX 9 147 2 12).cells ∧ b ≤ (rmX 9 147 2 12).slots := fun h1 h2 => ⟨h1, h2⟩
  have hu0 : 0 ≤ u ∧ u ≤ 134217727 := by omega
  have hday := hG.i.2.1
  refine lv_iload_n hx hb dL_acts_0 rfl (lv_at hl 1 rfl) ?_
  refine r_bipush hx hb dL_acts_1 (by decide +kernel) ?_
  refine r_idiv hx hb dL_acts_3 (by omega) (by omega) (by omega) (by omega) ?_
  refine r_top (b := u) (hu.symm) ?_
  refine lv_istore_n (lv' := [(2, .int (kI u)), (0, .ref (z + 0)), (1, .int (kI y))]) hx hb dL_acts_4 rfl hl (by decide) rfl (fun ls hl => ?_)
  refine lv_iload_n hx hb dL_acts_5 rfl (lv_at hl 2 rfl) ?_
  refine r_bipush hx hb dL_acts_6 (by decide +kernel) ?_
  refine r_irem hx hb dL_acts_8 (by omega) (by omega) (by omega) (by omega) ?_
  refine r_top (b := 2) (hw) ?_
  refine r_tabIn (j := 2) (tgt := 131) hx hb dL_acts_9 (by decide) (by decide) ⟨by decide, by decide⟩ rfl (by decide) ?_
  refine lv_iload_n hx hb dL_acts_131 rfl (lv_at hl 0 rfl) ?_
  refine r_iconst hx hb dL_acts_132 ?_
  refine r_irem hx hb dL_acts_133 (by omega) (by omega) (by omega) (by omega) ?_
  refine r_if_ne (tgt := 149) hx hb ⟨by omega, by omega⟩ dL_acts_134 (by decide) (fun h_1 => ?_) (fun h_1 => absurd h_1 (by omega))
  refine lv_iload_n hx hb dL_acts_149 rfl (lv_at hl 0 rfl) ?_
  refine r_iconst hx hb dL_acts_150 ?_
  refine r_irem hx hb dL_acts_151 (by omega) (by omega) (by omega) (by omega) ?_
  refine r_iconst hx hb dL_acts_152 ?_
  refine r_icmp_ne (tgt := 168) hx hb ⟨by omega, by omega⟩ ⟨by decide, by decide⟩ dL_acts_153 (by decide) (fun h_2 => ?_) (fun h_2 => absurd h_2 (by omega))
  refine lv_aload_n hx hb dL_acts_168 rfl (lv_at hl 1 rfl) ?_
  refine lv_iload_n hx hb dL_acts_169 rfl (lv_at hl 0 rfl) ?_
  refine r_iconst hx hb dL_acts_170 ?_
  refine r_idiv hx hb dL_acts_171 (by omega) (by omega) (by omega) (by omega) ?_
  refine r_iconst hx hb dL_acts_172 ?_
  refine r_irem hx hb dL_acts_173 (by omega) (by omega) (by omega) (by omega) ?_
  refine r_callW (na := 2) (own := RL) ⟨hx, hb, hml, hown, hts⟩ G hv (k_L_keep_y l hst0 (σ := σ) (q := u / 3 % 2) ⟨by omega, by omega⟩ (by omega)) qC_L_keep qM_L_107 qS_L_keep qN_L (by decide +kernel) ⟨Nat.le_of_ble_eq_true rfl, Nat.le_of_ble_eq_true rfl⟩ rfl rfl hl.1 rfl (Nat.le_of_ble_eq_true rfl) dL_acts_174 (hC (by omega) (by omega)) (fun H locs G => ?_)
  exact r_kret hx hb hr hlk G ⟨by omega, by omega⟩ (rfl) rfl dL_acts_177
set_option maxRecDepth 100000 in
set_option maxHeartbeats 4000000 in
theorem k_L_acts_wan (l : Launch) (hst0 : l.stackTraces = false) {σ : Mem} {n y u : Int} (hG : GI n σ) (hn : n ≤ 900) (hy : 0 ≤ y ∧ y ≤ 2147483647) (hu : u = y / 16) (hw : y % 16 = 3)  : CtK l yL_acts (Cond.code yL_acts cL_acts 3 (some .int)) 9 148 2 12 (fun z => [.ref (z + 0), .int (kI y)]) σ (svwR (pus σ) (u % 2) (u / 4 % 16)) (svw (pus σ) (u % 2) (u / 4 % 16)) := by
  intro D T z hT
  refine CtK_of (by decide) (Nat.le_of_ble_eq_true rfl) ?_
  intro p e s m below meth c ls hx hb hml hr hts hown hlk G hl hv
  have hown : s.vm.findClass RL = some m.cls := hown
  have hl : lv_has ls 3 [(0, .ref (z + 0)), (1, .int (kI y))] := hl
  have hC : ∀ {a b : Nat}, a ≤ 2 → b ≤ 12 → a ≤ (rmX 9 148 2 12).cells ∧ b ≤ (rmX 9 148 2 12).slots := fun h1 h2 => ⟨h1, h2⟩
  have hu0 : 0 ≤ u ∧ u ≤ 134217727 := by omega
  have hday := hG.i.2.1
  refine lv_iload_n hx hb dL_acts_0 rfl (lv_at hl 1 rfl) ?_
  refine r_bipush hx hb dL_acts_1 (by decide +kernel) ?_
  refine r_idiv hx hb dL_acts_3 (by omega) (by omega) (by omega) (by omega) ?_
  refine r_top (b := u) (hu.symm) ?_
  refine lv_istore_n (lv' := [(2, .int (kI u)), (0, .ref (z + 0)), (1, .int (kI y))]) hx hb dL_acts_4 rfl hl (by decide) rfl (fun ls hl => ?_)
  refine lv_iload_n hx hb dL_acts_5 rfl (lv_at hl 2 rfl) ?_
  refine r_bipush hx hb dL_acts_6 (by decide +kernel) ?_
  refine r_irem hx hb dL_acts_8 (by omega) (by omega) (by omega) (by omega) ?_
  refine r_top (b := 3) (hw) ?_
  refine r_tabIn (j := 3) (tgt := 178) hx hb dL_acts_9 (by decide) (by decide) ⟨by decide, by decide⟩ rfl (by decide) ?_
  refine lv_aload_n hx hb dL_acts_178 rfl (lv_at hl 1 rfl) ?_
  refine lv_iload_n hx hb dL_acts_179 rfl (lv_at hl 0 rfl) ?_
  refine r_iconst hx hb dL_acts_180 ?_
  refine r_irem hx hb dL_acts_181 (by omega) (by omega) (by omega) (by omega) ?_
  refine lv_iload_n hx hb dL_acts_182 rfl (lv_at hl 0 rfl) ?_
  refine r_iconst hx hb dL_acts_183 ?_
  refine r_idiv hx hb dL_acts_184 (by omega) (by omega) (by omega) (by omega) ?_
  refine r_bipush hx hb dL_acts_185 (by decide +kernel) ?_
  refine r_irem hx hb dL_acts_187 (by omega) (by omega) (by omega) (by omega) ?_
  refine r_callW (na := 3) (own := RL) ⟨hx, hb, hml, hown, hts⟩ G hv (k_L_want_y l hst0 (σ := σ) (k := u % 2) (y := u / 4 % 16) ⟨by omega, by omega⟩ ⟨by omega, by omega⟩ (hG.xc) (hG.z) (hG.s) ⟨⟨by omega, by omega⟩, by omega, by omega⟩) qC_L_want qM_L_109 qS_L_want qN_L (by decide +kernel) ⟨Nat.le_of_ble_eq_true rfl, Nat.le_of_ble_eq_true rfl⟩ rfl rfl hl.1 rfl (Nat.le_of_ble_eq_true rfl) dL_acts_188 (hC (by omega) (by omega)) (fun H locs G => ?_)
  exact r_kret hx hb hr hlk G ⟨by omega, by omega⟩ (rfl) rfl dL_acts_191
set_option maxRecDepth 100000 in
set_option maxHeartbeats 4000000 in
theorem k_L_acts_brby (l : Launch) (hst0 : l.stackTraces = false) {σ : Mem} {n y u : Int} (hG : GI n σ) (hn : n ≤ 900) (hy : 0 ≤ y ∧ y ≤ 2147483647) (hu : u = y / 16) (hw : y % 16 = 4) (hc : cbb σ (u % 2) (u / 4 % 8)) : CtK l yL_acts (Cond.code yL_acts cL_acts 3 (some .int)) 9 148 2 12 (fun z => [.ref (z + 0), .int (kI y)]) σ ((pus σ) 5 ((u % 2) * 16 + (u / 4 % 8))) (brb (pus σ) (u % 2) (u / 4 % 8)) := by
  intro D T z hT
  refine CtK_of (by decide) (Nat.le_of_ble_eq_true rfl) ?_
  intro p e s m below meth c ls hx hb hml hr hts hown hlk G hl hv
  have hown : s.vm.findClass RL = some m.cls := hown
  have hl : lv_has ls 3 [(0, .ref (z + 0)), (1, .int (kI y))] := hl
  have hC : ∀ {a b : Nat}, a ≤ 2 → b ≤ 12 → a ≤ (rmX 9 148 2 12).cells ∧ b ≤ (rmX 9 148 2 12).slots := fun h1 h2 => ⟨h1, h2⟩
  have hu0 : 0 ≤ u ∧ u ≤ 134217727 := by omega
  have hday := hG.i.2.1
  refine lv_iload_n hx hb dL_acts_0 rfl (lv_at hl 1 rfl) ?_
  refine r_bipush hx hb dL_acts_1 (by decide +kernel) ?_
  refine r_idiv hx hb dL_acts_3 (by omega) (by omega) (by omega) (by omega) ?_
  refine r_top (b := u) (hu.symm) ?_
  refine lv_istore_n (lv' := [(2, .int (kI u)), (0, .ref (z + 0)), (1, .int (kI y))]) hx hb dL_acts_4 rfl hl (by decide) rfl (fun ls hl => ?_)
  refine lv_iload_n hx hb dL_acts_5 rfl (lv_at hl 2 rfl) ?_
  refine r_bipush hx hb dL_acts_6 (by decide +kernel) ?_
  refine r_irem hx hb dL_acts_8 (by omega) (by omega) (by omega) (by omega) ?_
  refine r_top (b := 4) (hw) ?_
  refine r_tabIn (j := 4) (tgt := 192) hx hb dL_acts_9 (by decide) (by decide) ⟨by decide, by decide⟩ rfl (by decide) ?_
  refine lv_aload_n hx hb dL_acts_192 rfl (lv_at hl 1 rfl) ?_
  refine lv_iload_n hx hb dL_acts_193 rfl (lv_at hl 0 rfl) ?_
  refine r_iconst hx hb dL_acts_194 ?_
  refine r_irem hx hb dL_acts_195 (by omega) (by omega) (by omega) (by omega) ?_
  refine lv_iload_n hx hb dL_acts_196 rfl (lv_at hl 0 rfl) ?_
  refine r_iconst hx hb dL_acts_197 ?_
  refine r_idiv hx hb dL_acts_198 (by omega) (by omega) (by omega) (by omega) ?_
  refine r_bipush hx hb dL_acts_199 (by decide +kernel) ?_
  refine r_irem hx hb dL_acts_201 (by omega) (by omega) (by omega) (by omega) ?_
  refine r_callW (na := 3) (own := RL) ⟨hx, hb, hml, hown, hts⟩ G hv (k_L_bringBack_y l hst0 (σ := σ) (k := u % 2) (y := u / 4 % 8) ⟨by omega, by omega⟩ ⟨by omega, by omega⟩ (hG.xc) (hG.z) (hG.s) ⟨⟨by omega, by omega⟩, by omega, by omega⟩ (hc)) qC_L_bringBack qM_L_111 qS_L_bringBack qN_L (by decide +kernel) ⟨Nat.le_of_ble_eq_true rfl, Nat.le_of_ble_eq_true rfl⟩ rfl rfl hl.1 rfl (Nat.le_of_ble_eq_true rfl) dL_acts_202 (hC (by omega) (by omega)) (fun H locs G => ?_)
  exact r_kret hx hb hr hlk G ⟨by omega, by omega⟩ (rfl) rfl dL_acts_205
set_option maxRecDepth 100000 in
set_option maxHeartbeats 4000000 in
theorem k_L_acts_brbn (l : Launch) (hst0 : l.stackTraces = false) {σ : Mem} {n y u : Int} (hG : GI n σ) (hn : n ≤ 900) (hy : 0 ≤ y ∧ y ≤ 2147483647) (hu : u = y / 16) (hw : y % 16 = 4) (hc : ¬ cbb σ (u % 2) (u / 4 % 8)) : CtK l yL_acts (Cond.code yL_acts cL_acts 3 (some .int)) 9 148 2 12 (fun z => [.ref (z + 0), .int (kI y)]) σ ((-2000002)) (σ) := by
  intro D T z hT
  refine CtK_of (by decide) (Nat.le_of_ble_eq_true rfl) ?_
  intro p e s m below meth c ls hx hb hml hr hts hown hlk G hl hv
  have hown : s.vm.findClass RL = some m.cls := hown
  have hl : lv_has ls 3 [(0, .ref (z + 0)), (1, .int (kI y))] := hl
  have hC : ∀ {a b : Nat}, a ≤ 2 → b ≤ 12 → a ≤ (rmX 9 148 2 12).cells ∧ b ≤ (rmX 9 148 2 12).slots := fun h1 h2 => ⟨h1, h2⟩
  have hu0 : 0 ≤ u ∧ u ≤ 134217727 := by omega
  have hday := hG.i.2.1
  refine lv_iload_n hx hb dL_acts_0 rfl (lv_at hl 1 rfl) ?_
  refine r_bipush hx hb dL_acts_1 (by decide +kernel) ?_
  refine r_idiv hx hb dL_acts_3 (by omega) (by omega) (by omega) (by omega) ?_
  refine r_top (b := u) (hu.symm) ?_
  refine lv_istore_n (lv' := [(2, .int (kI u)), (0, .ref (z + 0)), (1, .int (kI y))]) hx hb dL_acts_4 rfl hl (by decide) rfl (fun ls hl => ?_)
  refine lv_iload_n hx hb dL_acts_5 rfl (lv_at hl 2 rfl) ?_
  refine r_bipush hx hb dL_acts_6 (by decide +kernel) ?_
  refine r_irem hx hb dL_acts_8 (by omega) (by omega) (by omega) (by omega) ?_
  refine r_top (b := 4) (hw) ?_
  refine r_tabIn (j := 4) (tgt := 192) hx hb dL_acts_9 (by decide) (by decide) ⟨by decide, by decide⟩ rfl (by decide) ?_
  refine lv_aload_n hx hb dL_acts_192 rfl (lv_at hl 1 rfl) ?_
  refine lv_iload_n hx hb dL_acts_193 rfl (lv_at hl 0 rfl) ?_
  refine r_iconst hx hb dL_acts_194 ?_
  refine r_irem hx hb dL_acts_195 (by omega) (by omega) (by omega) (by omega) ?_
  refine lv_iload_n hx hb dL_acts_196 rfl (lv_at hl 0 rfl) ?_
  refine r_iconst hx hb dL_acts_197 ?_
  refine r_idiv hx hb dL_acts_198 (by omega) (by omega) (by omega) (by omega) ?_
  refine r_bipush hx hb dL_acts_199 (by decide +kernel) ?_
  refine r_irem hx hb dL_acts_201 (by omega) (by omega) (by omega) (by omega) ?_
  refine r_callW (na := 3) (own := RL) ⟨hx, hb, hml, hown, hts⟩ G hv (k_L_bringBack_2 l hst0 (σ := σ) (k := u % 2) (y := u / 4 % 8) ⟨by omega, by omega⟩ ⟨by omega, by omega⟩ (hG.xc) (hG.z) (hG.s) ⟨⟨by omega, by omega⟩, by omega, by omega⟩ (hc)) qC_L_bringBack qM_L_111 qS_L_bringBack qN_L (by decide +kernel) ⟨Nat.le_of_ble_eq_true rfl, Nat.le_of_ble_eq_true rfl⟩ rfl rfl hl.1 rfl (Nat.le_of_ble_eq_true rfl) dL_acts_202 (hC (by omega) (by omega)) (fun H locs G => ?_)
  exact r_kret hx hb hr hlk G ⟨by omega, by omega⟩ (rfl) rfl dL_acts_205
set_option maxRecDepth 100000 in
set_option maxHeartbeats 4000000 in
theorem k_L_acts_pas5 (l : Launch) (hst0 : l.stackTraces = false) {σ : Mem} {n y u : Int} (hG : GI n σ) (hn : n ≤ 900) (hy : 0 ≤ y ∧ y ≤ 2147483647) (hu : u = y / 16) (hw : y % 16 = 5)  : CtK l yL_acts (Cond.code yL_acts cL_acts 3 (some .int)) 9 147 2 12 (fun z => [.ref (z + 0), .int (kI y)]) σ (hra (up (pus σ) 2 0 ((pus σ) 2 0 + (1 + u % 5)))) (up (pus σ) 2 0 ((pus σ) 2 0 + (1 + u % 5))) := by
  intro D T z hT
  refine CtK_of (by decide) (Nat.le_of_ble_eq_true rfl) ?_
  intro p e s m below meth c ls hx hb hml hr hts hown hlk G hl hv
  have hown : s.vm.findClass RL = some m.cls := hown
  have hl : lv_has ls 3 [(0, .ref (z + 0)), (1, .int (kI y))] := hl
  have hC : ∀ {a b : Nat}, a ≤ 2 → b ≤ 12 → a ≤ (rmX 9 147 2 12).cells ∧ b ≤ (rmX 9 147 2 12).slots := fun h1 h2 => ⟨h1, h2⟩
  have hu0 : 0 ≤ u ∧ u ≤ 134217727 := by omega
  have hday := hG.i.2.1
  refine lv_iload_n hx hb dL_acts_0 rfl (lv_at hl 1 rfl) ?_
  refine r_bipush hx hb dL_acts_1 (by decide +kernel) ?_
  refine r_idiv hx hb dL_acts_3 (by omega) (by omega) (by omega) (by omega) ?_
  refine r_top (b := u) (hu.symm) ?_
  refine lv_istore_n (lv' := [(2, .int (kI u)), (0, .ref (z + 0)), (1, .int (kI y))]) hx hb dL_acts_4 rfl hl (by decide) rfl (fun ls hl => ?_)
  refine lv_iload_n hx hb dL_acts_5 rfl (lv_at hl 2 rfl) ?_
  refine r_bipush hx hb dL_acts_6 (by decide +kernel) ?_
  refine r_irem hx hb dL_acts_8 (by omega) (by omega) (by omega) (by omega) ?_
  refine r_top (b := 5) (hw) ?_
  refine r_tabIn (j := 5) (tgt := 206) hx hb dL_acts_9 (by decide) (by decide) ⟨by decide, by decide⟩ rfl (by decide) ?_
  refine lv_aload_n hx hb dL_acts_206 rfl (lv_at hl 1 rfl) ?_
  refine r_iconst hx hb dL_acts_207 ?_
  refine lv_iload_n hx hb dL_acts_208 rfl (lv_at hl 0 rfl) ?_
  refine r_iconst hx hb dL_acts_209 ?_
  refine r_irem hx hb dL_acts_210 (by omega) (by omega) (by omega) (by omega) ?_
  refine r_iadd hx hb dL_acts_211 ?_
  refine r_callW (na := 2) (own := RL) ⟨hx, hb, hml, hown, hts⟩ G hv (k_L_pass_y l hst0 (σ := σ) (d := 1 + u % 5) ⟨by omega, by omega⟩ (hG.xc) (hG.z) (hG.s) (by omega) (by omega)) qC_L_pass qM_L_113 qS_L_pass qN_L (by decide +kernel) ⟨Nat.le_of_ble_eq_true rfl, Nat.le_of_ble_eq_true rfl⟩ rfl rfl hl.1 rfl (Nat.le_of_ble_eq_true rfl) dL_acts_212 (hC (by omega) (by omega)) (fun H locs G => ?_)
  exact r_kret hx hb hr hlk G ⟨by omega, by omega⟩ (rfl) rfl dL_acts_215
set_option maxRecDepth 100000 in
set_option maxHeartbeats 4000000 in
theorem k_L_acts_pas6 (l : Launch) (hst0 : l.stackTraces = false) {σ : Mem} {n y u : Int} (hG : GI n σ) (hn : n ≤ 900) (hy : 0 ≤ y ∧ y ≤ 2147483647) (hu : u = y / 16) (hw : y % 16 = 6)  : CtK l yL_acts (Cond.code yL_acts cL_acts 3 (some .int)) 9 147 2 12 (fun z => [.ref (z + 0), .int (kI y)]) σ (hra (up (pus σ) 2 0 ((pus σ) 2 0 + (1 + u % 5)))) (up (pus σ) 2 0 ((pus σ) 2 0 + (1 + u % 5))) := by
  intro D T z hT
  refine CtK_of (by decide) (Nat.le_of_ble_eq_true rfl) ?_
  intro p e s m below meth c ls hx hb hml hr hts hown hlk G hl hv
  have hown : s.vm.findClass RL = some m.cls := hown
  have hl : lv_has ls 3 [(0, .ref (z + 0)), (1, .int (kI y))] := hl
  have hC : ∀ {a b : Nat}, a ≤ 2 → b ≤ 12 → a ≤ (rmX 9 147 2 12).cells ∧ b ≤ (rmX 9 147 2 12).slots := fun h1 h2 => ⟨h1, h2⟩
  have hu0 : 0 ≤ u ∧ u ≤ 134217727 := by omega
  have hday := hG.i.2.1
  refine lv_iload_n hx hb dL_acts_0 rfl (lv_at hl 1 rfl) ?_
  refine r_bipush hx hb dL_acts_1 (by decide +kernel) ?_
  refine r_idiv hx hb dL_acts_3 (by omega) (by omega) (by omega) (by omega) ?_
  refine r_top (b := u) (hu.symm) ?_
  refine lv_istore_n (lv' := [(2, .int (kI u)), (0, .ref (z + 0)), (1, .int (kI y))]) hx hb dL_acts_4 rfl hl (by decide) rfl (fun ls hl => ?_)
  refine lv_iload_n hx hb dL_acts_5 rfl (lv_at hl 2 rfl) ?_
  refine r_bipush hx hb dL_acts_6 (by decide +kernel) ?_
  refine r_irem hx hb dL_acts_8 (by omega) (by omega) (by omega) (by omega) ?_
  refine r_top (b := 6) (hw) ?_
  refine r_tabIn (j := 6) (tgt := 206) hx hb dL_acts_9 (by decide) (by decide) ⟨by decide, by decide⟩ rfl (by decide) ?_
  refine lv_aload_n hx hb dL_acts_206 rfl (lv_at hl 1 rfl) ?_
  refine r_iconst hx hb dL_acts_207 ?_
  refine lv_iload_n hx hb dL_acts_208 rfl (lv_at hl 0 rfl) ?_
  refine r_iconst hx hb dL_acts_209 ?_
  refine r_irem hx hb dL_acts_210 (by omega) (by omega) (by omega) (by omega) ?_
  refine r_iadd hx hb dL_acts_211 ?_
  refine r_callW (na := 2) (own := RL) ⟨hx, hb, hml, hown, hts⟩ G hv (k_L_pass_y l hst0 (σ := σ) (d := 1 + u % 5) ⟨by omega, by omega⟩ (hG.xc) (hG.z) (hG.s) (by omega) (by omega)) qC_L_pass qM_L_113 qS_L_pass qN_L (by decide +kernel) ⟨Nat.le_of_ble_eq_true rfl, Nat.le_of_ble_eq_true rfl⟩ rfl rfl hl.1 rfl (Nat.le_of_ble_eq_true rfl) dL_acts_212 (hC (by omega) (by omega)) (fun H locs G => ?_)
  exact r_kret hx hb hr hlk G ⟨by omega, by omega⟩ (rfl) rfl dL_acts_215
theorem k_L_acts_pas (l : Launch) (hst0 : l.stackTraces = false) {σ : Mem} {n y u : Int} (hG : GI n σ) (hn : n ≤ 900) (hy : 0 ≤ y ∧ y ≤ 2147483647) (hu : u = y / 16) (hw : 5 ≤ y % 16 ∧ y % 16 ≤ 6)  : CtK l yL_acts (Cond.code yL_acts cL_acts 3 (some .int)) 9 147 2 12 (fun z => [.ref (z + 0), .int (kI y)]) σ (hra (up (pus σ) 2 0 ((pus σ) 2 0 + (1 + u % 5)))) (up (pus σ) 2 0 ((pus σ) 2 0 + (1 + u % 5))) := by
  rcases (by omega : y % 16 = 5 ∨ y % 16 = 6) with h | h
  · exact k_L_acts_pas5 l hst0 hG hn hy hu h 
  · exact k_L_acts_pas6 l hst0 hG hn hy hu h 
set_option maxRecDepth 100000 in
set_option maxHeartbeats 4000000 in
theorem k_L_acts_fol (l : Launch) (hst0 : l.stackTraces = false) {σ : Mem} {n y u : Int} (hG : GI n σ) (hn : n ≤ 900) (hy : 0 ≤ y ∧ y ≤ 2147483647) (hu : u = y / 16) (hw : y % 16 = 7)  : CtK l yL_acts (Cond.code yL_acts cL_acts 3 (some .int)) 9 150 2 12 (fun z => [.ref (z + 0), .int (kI y)]) σ (jud (pus σ) (u % 2) (u / 4 % 8) (1 + u / 32 % 4)) (nfo (pus σ) (jud (pus σ) (u % 2) (u / 4 % 8) (1 + u / 32 % 4))) := by
  intro D T z hT
  refine CtK_of (by decide) (Nat.le_of_ble_eq_true rfl) ?_
  intro p e s m below meth c ls hx hb hml hr hts hown hlk G hl hv
  have hown : s.vm.findClass RL = some m.cls := hown
  have hl : lv_has ls 3 [(0, .ref (z + 0)), (1, .int (kI y))] := hl
  have hC : ∀ {a b : Nat}, a ≤ 2 → b ≤ 12 → a ≤ (rmX 9 150 2 12).cells ∧ b ≤ (rmX 9 150 2 12).slots := fun h1 h2 => ⟨h1, h2⟩
  have hu0 : 0 ≤ u ∧ u ≤ 134217727 := by omega
  have hday := hG.i.2.1
  refine lv_iload_n hx hb dL_acts_0 rfl (lv_at hl 1 rfl) ?_
  refine r_bipush hx hb dL_acts_1 (by decide +kernel) ?_
  refine r_idiv hx hb dL_acts_3 (by omega) (by omega) (by omega) (by omega) ?_
  refine r_top (b := u) (hu.symm) ?_
  refine lv_istore_n (lv' := [(2, .int (kI u)), (0, .ref (z + 0)), (1, .int (kI y))]) hx hb dL_acts_4 rfl hl (by decide) rfl (fun ls hl => ?_)
  refine lv_iload_n hx hb dL_acts_5 rfl (lv_at hl 2 rfl) ?_
  refine r_bipush hx hb dL_acts_6 (by decide +kernel) ?_
  refine r_irem hx hb dL_acts_8 (by omega) (by omega) (by omega) (by omega) ?_
  refine r_top (b := 7) (hw) ?_
  refine r_tabIn (j := 7) (tgt := 216) hx hb dL_acts_9 (by decide) (by decide) ⟨by decide, by decide⟩ rfl (by decide) ?_
  refine lv_aload_n hx hb dL_acts_216 rfl (lv_at hl 1 rfl) ?_
  refine lv_iload_n hx hb dL_acts_217 rfl (lv_at hl 0 rfl) ?_
  refine r_iconst hx hb dL_acts_218 ?_
  refine r_irem hx hb dL_acts_219 (by omega) (by omega) (by omega) (by omega) ?_
  refine lv_iload_n hx hb dL_acts_220 rfl (lv_at hl 0 rfl) ?_
  refine r_iconst hx hb dL_acts_221 ?_
  refine r_idiv hx hb dL_acts_222 (by omega) (by omega) (by omega) (by omega) ?_
  refine r_bipush hx hb dL_acts_223 (by decide +kernel) ?_
  refine r_irem hx hb dL_acts_225 (by omega) (by omega) (by omega) (by omega) ?_
  refine r_iconst hx hb dL_acts_226 ?_
  refine lv_iload_n hx hb dL_acts_227 rfl (lv_at hl 0 rfl) ?_
  refine r_bipush hx hb dL_acts_228 (by decide +kernel) ?_
  refine r_idiv hx hb dL_acts_230 (by omega) (by omega) (by omega) (by omega) ?_
  refine r_iconst hx hb dL_acts_231 ?_
  refine r_irem hx hb dL_acts_232 (by omega) (by omega) (by omega) (by omega) ?_
  refine r_iadd hx hb dL_acts_233 ?_
  refine r_callW (na := 4) (own := RL) ⟨hx, hb, hml, hown, hts⟩ G hv (k_L_follow_y l hst0 (σ := σ) (k := u % 2) (y := u / 4 % 8) (q := 1 + u / 32 % 4) ⟨by omega, by omega⟩ ⟨by omega, by omega⟩ ⟨by omega, by omega⟩ (hG.xc) (hG.z) (hG.s) ⟨⟨by omega, by omega⟩, by omega, by omega⟩ (by omega)) qC_L_follow qM_L_115 qS_L_follow qN_L (by decide +kernel) ⟨Nat.le_of_ble_eq_true rfl, Nat.le_of_ble_eq_true rfl⟩ rfl rfl hl.1 rfl (Nat.le_of_ble_eq_true rfl) dL_acts_234 (hC (by omega) (by omega)) (fun H locs G => ?_)
  exact r_kret hx hb hr hlk G ⟨by omega, by omega⟩ (rfl) rfl dL_acts_237
set_option maxRecDepth 100000 in
set_option maxHeartbeats 4000000 in
theorem k_L_acts_dely8 (l : Launch) (hst0 : l.stackTraces = false) {σ : Mem} {n y u : Int} (hG : GI n σ) (hn : n ≤ 900) (hy : 0 ≤ y ∧ y ≤ 2147483647) (hu : u = y / 16) (hw : y % 16 = 8) (hc : σ 4 (u % 2 * 16 + u / 4 % 8) = 1) : CtK l yL_acts (Cond.code yL_acts cL_acts 3 (some .int)) 9 148 2 12 (fun z => [.ref (z + 0), .int (kI y)]) σ (bz ((pus σ) 14 1 ≤ (pus σ) 5 ((u % 2) * 16 + (u / 4 % 8)))) (dlr (pus σ) (u % 2) (u / 4 % 8)) := by
  intro D T z hT
  refine CtK_of (by decide) (Nat.le_of_ble_eq_true rfl) ?_
  intro p e s m below meth c ls hx hb hml hr hts hown hlk G hl hv
  have hown : s.vm.findClass RL = some m.cls := hown
  have hl : lv_has ls 3 [(0, .ref (z + 0)), (1, .int (kI y))] := hl
  have hC : ∀ {a b : Nat}, a ≤ 2 → b ≤ 12 → a ≤ (rmX 9 148 2 12).cells ∧ b ≤ (rmX 9 148 2 12).slots := fun h1 h2 => ⟨h1, h2⟩
  have hu0 : 0 ≤ u ∧ u ≤ 134217727 := by omega
  have hday := hG.i.2.1
  refine lv_iload_n hx hb dL_acts_0 rfl (lv_at hl 1 rfl) ?_
  refine r_bipush hx hb dL_acts_1 (by decide +kernel) ?_
  refine r_idiv hx hb dL_acts_3 (by omega) (by omega) (by omega) (by omega) ?_
  refine r_top (b := u) (hu.symm) ?_
  refine lv_istore_n (lv' := [(2, .int (kI u)), (0, .ref (z + 0)), (1, .int (kI y))]) hx hb dL_acts_4 rfl hl (by decide) rfl (fun ls hl => ?_)
  refine lv_iload_n hx hb dL_acts_5 rfl (lv_at hl 2 rfl) ?_
  refine r_bipush hx hb dL_acts_6 (by decide +kernel) ?_
  refine r_irem hx hb dL_acts_8 (by omega) (by omega) (by omega) (by omega) ?_
  refine r_top (b := 8) (hw) ?_
  refine r_tabIn (j := 8) (tgt := 238) hx hb dL_acts_9 (by decide) (by decide) ⟨by decide, by decide⟩ rfl (by decide) ?_
  refine lv_aload_n hx hb dL_acts_238 rfl (lv_at hl 1 rfl) ?_
  refine lv_iload_n hx hb dL_acts_239 rfl (lv_at hl 0 rfl) ?_
  refine r_iconst hx hb dL_acts_240 ?_
  refine r_irem hx hb dL_acts_241 (by omega) (by omega) (by omega) (by omega) ?_
  refine lv_iload_n hx hb dL_acts_242 rfl (lv_at hl 0 rfl) ?_
  refine r_iconst hx hb dL_acts_243 ?_
  refine r_idiv hx hb dL_acts_244 (by omega) (by omega) (by omega) (by omega) ?_
  refine r_bipush hx hb dL_acts_245 (by decide +kernel) ?_
  refine r_irem hx hb dL_acts_247 (by omega) (by omega) (by omega) (by omega) ?_
  refine r_callW (na := 3) (own := RL) ⟨hx, hb, hml, hown, hts⟩ G hv (k_L_delete_y l hst0 (σ := σ) (k := u % 2) (y := u / 4 % 8) ⟨by omega, by omega⟩ ⟨by omega, by omega⟩ (hG.xc) (hG.z) (hG.s) ⟨⟨by omega, by omega⟩, by omega, by omega⟩ (hc)) qC_L_delete qM_L_118 qS_L_delete qN_L (by decide +kernel) ⟨Nat.le_of_ble_eq_true rfl, Nat.le_of_ble_eq_true rfl⟩ rfl rfl hl.1 rfl (Nat.le_of_ble_eq_true rfl) dL_acts_248 (hC (by omega) (by omega)) (fun H locs G => ?_)
  exact r_kret hx hb hr hlk G ⟨by omega, by omega⟩ (rfl) rfl dL_acts_251
set_option maxRecDepth 100000 in
set_option maxHeartbeats 4000000 in
theorem k_L_acts_dely9 (l : Launch) (hst0 : l.stackTraces = false) {σ : Mem} {n y u : Int} (hG : GI n σ) (hn : n ≤ 900) (hy : 0 ≤ y ∧ y ≤ 2147483647) (hu : u = y / 16) (hw : y % 16 = 9) (hc : σ 4 (u % 2 * 16 + u / 4 % 8) = 1) : CtK l yL_acts (Cond.code yL_acts cL_acts 3 (some .int)) 9 148 2 12 (fun z => [.ref (z + 0), .int (kI y)]) σ (bz ((pus σ) 14 1 ≤ (pus σ) 5 ((u % 2) * 16 + (u / 4 % 8)))) (dlr (pus σ) (u % 2) (u / 4 % 8)) := by
  intro D T z hT
  refine CtK_of (by decide) (Nat.le_of_ble_eq_true rfl) ?_
  intro p e s m below meth c ls hx hb hml hr hts hown hlk G hl hv
  have hown : s.vm.findClass RL = some m.cls := hown
  have hl : lv_has ls 3 [(0, .ref (z + 0)), (1, .int (kI y))] := hl
  have hC : ∀ {a b : Nat}, a ≤ 2 → b ≤ 12 → a ≤ (rmX 9 148 2 12).cells ∧ b ≤ (rmX 9 148 2 12).slots := fun h1 h2 => ⟨h1, h2⟩
  have hu0 : 0 ≤ u ∧ u ≤ 134217727 := by omega
  have hday := hG.i.2.1
  refine lv_iload_n hx hb dL_acts_0 rfl (lv_at hl 1 rfl) ?_
  refine r_bipush hx hb dL_acts_1 (by decide +kernel) ?_
  refine r_idiv hx hb dL_acts_3 (by omega) (by omega) (by omega) (by omega) ?_
  refine r_top (b := u) (hu.symm) ?_
  refine lv_istore_n (lv' := [(2, .int (kI u)), (0, .ref (z + 0)), (1, .int (kI y))]) hx hb dL_acts_4 rfl hl (by decide) rfl (fun ls hl => ?_)
  refine lv_iload_n hx hb dL_acts_5 rfl (lv_at hl 2 rfl) ?_
  refine r_bipush hx hb dL_acts_6 (by decide +kernel) ?_
  refine r_irem hx hb dL_acts_8 (by omega) (by omega) (by omega) (by omega) ?_
  refine r_top (b := 9) (hw) ?_
  refine r_tabIn (j := 9) (tgt := 238) hx hb dL_acts_9 (by decide) (by decide) ⟨by decide, by decide⟩ rfl (by decide) ?_
  refine lv_aload_n hx hb dL_acts_238 rfl (lv_at hl 1 rfl) ?_
  refine lv_iload_n hx hb dL_acts_239 rfl (lv_at hl 0 rfl) ?_
  refine r_iconst hx hb dL_acts_240 ?_
  refine r_irem hx hb dL_acts_241 (by omega) (by omega) (by omega) (by omega) ?_
  refine lv_iload_n hx hb dL_acts_242 rfl (lv_at hl 0 rfl) ?_
  refine r_iconst hx hb dL_acts_243 ?_
  refine r_idiv hx hb dL_acts_244 (by omega) (by omega) (by omega) (by omega) ?_
  refine r_bipush hx hb dL_acts_245 (by decide +kernel) ?_
  refine r_irem hx hb dL_acts_247 (by omega) (by omega) (by omega) (by omega) ?_
  refine r_callW (na := 3) (own := RL) ⟨hx, hb, hml, hown, hts⟩ G hv (k_L_delete_y l hst0 (σ := σ) (k := u % 2) (y := u / 4 % 8) ⟨by omega, by omega⟩ ⟨by omega, by omega⟩ (hG.xc) (hG.z) (hG.s) ⟨⟨by omega, by omega⟩, by omega, by omega⟩ (hc)) qC_L_delete qM_L_118 qS_L_delete qN_L (by decide +kernel) ⟨Nat.le_of_ble_eq_true rfl, Nat.le_of_ble_eq_true rfl⟩ rfl rfl hl.1 rfl (Nat.le_of_ble_eq_true rfl) dL_acts_248 (hC (by omega) (by omega)) (fun H locs G => ?_)
  exact r_kret hx hb hr hlk G ⟨by omega, by omega⟩ (rfl) rfl dL_acts_251
set_option maxRecDepth 100000 in
set_option maxHeartbeats 4000000 in
theorem k_L_acts_dely10 (l : Launch) (hst0 : l.stackTraces = false) {σ : Mem} {n y u : Int} (hG : GI n σ) (hn : n ≤ 900) (hy : 0 ≤ y ∧ y ≤ 2147483647) (hu : u = y / 16) (hw : y % 16 = 10) (hc : σ 4 (u % 2 * 16 + u / 4 % 8) = 1) : CtK l yL_acts (Cond.code yL_acts cL_acts 3 (some .int)) 9 148 2 12 (fun z => [.ref (z + 0), .int (kI y)]) σ (bz ((pus σ) 14 1 ≤ (pus σ) 5 ((u % 2) * 16 + (u / 4 % 8)))) (dlr (pus σ) (u % 2) (u / 4 % 8)) := by
  intro D T z hT
  refine CtK_of (by decide) (Nat.le_of_ble_eq_true rfl) ?_
  intro p e s m below meth c ls hx hb hml hr hts hown hlk G hl hv
  have hown : s.vm.findClass RL = some m.cls := hown
  have hl : lv_has ls 3 [(0, .ref (z + 0)), (1, .int (kI y))] := hl
  have hC : ∀ {a b : Nat}, a ≤ 2 → b ≤ 12 → a ≤ (rmX 9 148 2 12).cells ∧ b ≤ (rmX 9 148 2 12).slots := fun h1 h2 => ⟨h1, h2⟩
  have hu0 : 0 ≤ u ∧ u ≤ 134217727 := by omega
  have hday := hG.i.2.1
  refine lv_iload_n hx hb dL_acts_0 rfl (lv_at hl 1 rfl) ?_
  refine r_bipush hx hb dL_acts_1 (by decide +kernel) ?_
  refine r_idiv hx hb dL_acts_3 (by omega) (by omega) (by omega) (by omega) ?_
  refine r_top (b := u) (hu.symm) ?_
  refine lv_istore_n (lv' := [(2, .int (kI u)), (0, .ref (z + 0)), (1, .int (kI y))]) hx hb dL_acts_4 rfl hl (by decide) rfl (fun ls hl => ?_)
  refine lv_iload_n hx hb dL_acts_5 rfl (lv_at hl 2 rfl) ?_
  refine r_bipush hx hb dL_acts_6 (by decide +kernel) ?_
  refine r_irem hx hb dL_acts_8 (by omega) (by omega) (by omega) (by omega) ?_
  refine r_top (b := 10) (hw) ?_
  refine r_tabIn (j := 10) (tgt := 238) hx hb dL_acts_9 (by decide) (by decide) ⟨by decide, by decide⟩ rfl (by decide) ?_
  refine lv_aload_n hx hb dL_acts_238 rfl (lv_at hl 1 rfl) ?_
  refine lv_iload_n hx hb dL_acts_239 rfl (lv_at hl 0 rfl) ?_
  refine r_iconst hx hb dL_acts_240 ?_
  refine r_irem hx hb dL_acts_241 (by omega) (by omega) (by omega) (by omega) ?_
  refine lv_iload_n hx hb dL_acts_242 rfl (lv_at hl 0 rfl) ?_
  refine r_iconst hx hb dL_acts_243 ?_
  refine r_idiv hx hb dL_acts_244 (by omega) (by omega) (by omega) (by omega) ?_
  refine r_bipush hx hb dL_acts_245 (by decide +kernel) ?_
  refine r_irem hx hb dL_acts_247 (by omega) (by omega) (by omega) (by omega) ?_
  refine r_callW (na := 3) (own := RL) ⟨hx, hb, hml, hown, hts⟩ G hv (k_L_delete_y l hst0 (σ := σ) (k := u % 2) (y := u / 4 % 8) ⟨by omega, by omega⟩ ⟨by omega, by omega⟩ (hG.xc) (hG.z) (hG.s) ⟨⟨by omega, by omega⟩, by omega, by omega⟩ (hc)) qC_L_delete qM_L_118 qS_L_delete qN_L (by decide +kernel) ⟨Nat.le_of_ble_eq_true rfl, Nat.le_of_ble_eq_true rfl⟩ rfl rfl hl.1 rfl (Nat.le_of_ble_eq_true rfl) dL_acts_248 (hC (by omega) (by omega)) (fun H locs G => ?_)
  exact r_kret hx hb hr hlk G ⟨by omega, by omega⟩ (rfl) rfl dL_acts_251
set_option maxRecDepth 100000 in
set_option maxHeartbeats 4000000 in
theorem k_L_acts_dely11 (l : Launch) (hst0 : l.stackTraces = false) {σ : Mem} {n y u : Int} (hG : GI n σ) (hn : n ≤ 900) (hy : 0 ≤ y ∧ y ≤ 2147483647) (hu : u = y / 16) (hw : y % 16 = 11) (hc : σ 4 (u % 2 * 16 + u / 4 % 8) = 1) : CtK l yL_acts (Cond.code yL_acts cL_acts 3 (some .int)) 9 148 2 12 (fun z => [.ref (z + 0), .int (kI y)]) σ (bz ((pus σ) 14 1 ≤ (pus σ) 5 ((u % 2) * 16 + (u / 4 % 8)))) (dlr (pus σ) (u % 2) (u / 4 % 8)) := by
  intro D T z hT
  refine CtK_of (by decide) (Nat.le_of_ble_eq_true rfl) ?_
  intro p e s m below meth c ls hx hb hml hr hts hown hlk G hl hv
  have hown : s.vm.findClass RL = some m.cls := hown
  have hl : lv_has ls 3 [(0, .ref (z + 0)), (1, .int (kI y))] := hl
  have hC : ∀ {a b : Nat}, a ≤ 2 → b ≤ 12 → a ≤ (rmX 9 148 2 12).cells ∧ b ≤ (rmX 9 148 2 12).slots := fun h1 h2 => ⟨h1, h2⟩
  have hu0 : 0 ≤ u ∧ u ≤ 134217727 := by omega
  have hday := hG.i.2.1
  refine lv_iload_n hx hb dL_acts_0 rfl (lv_at hl 1 rfl) ?_
  refine r_bipush hx hb dL_acts_1 (by decide +kernel) ?_
  refine r_idiv hx hb dL_acts_3 (by omega) (by omega) (by omega) (by omega) ?_
  refine r_top (b := u) (hu.symm) ?_
  refine lv_istore_n (lv' := [(2, .int (kI u)), (0, .ref (z + 0)), (1, .int (kI y))]) hx hb dL_acts_4 rfl hl (by decide) rfl (fun ls hl => ?_)
  refine lv_iload_n hx hb dL_acts_5 rfl (lv_at hl 2 rfl) ?_
  refine r_bipush hx hb dL_acts_6 (by decide +kernel) ?_
  refine r_irem hx hb dL_acts_8 (by omega) (by omega) (by omega) (by omega) ?_
  refine r_top (b := 11) (hw) ?_
  refine r_tabIn (j := 11) (tgt := 238) hx hb dL_acts_9 (by decide) (by decide) ⟨by decide, by decide⟩ rfl (by decide) ?_
  refine lv_aload_n hx hb dL_acts_238 rfl (lv_at hl 1 rfl) ?_
  refine lv_iload_n hx hb dL_acts_239 rfl (lv_at hl 0 rfl) ?_
  refine r_iconst hx hb dL_acts_240 ?_
  refine r_irem hx hb dL_acts_241 (by omega) (by omega) (by omega) (by omega) ?_
  refine lv_iload_n hx hb dL_acts_242 rfl (lv_at hl 0 rfl) ?_
  refine r_iconst hx hb dL_acts_243 ?_
  refine r_idiv hx hb dL_acts_244 (by omega) (by omega) (by omega) (by omega) ?_
  refine r_bipush hx hb dL_acts_245 (by decide +kernel) ?_
  refine r_irem hx hb dL_acts_247 (by omega) (by omega) (by omega) (by omega) ?_
  refine r_callW (na := 3) (own := RL) ⟨hx, hb, hml, hown, hts⟩ G hv (k_L_delete_y l hst0 (σ := σ) (k := u % 2) (y := u / 4 % 8) ⟨by omega, by omega⟩ ⟨by omega, by omega⟩ (hG.xc) (hG.z) (hG.s) ⟨⟨by omega, by omega⟩, by omega, by omega⟩ (hc)) qC_L_delete qM_L_118 qS_L_delete qN_L (by decide +kernel) ⟨Nat.le_of_ble_eq_true rfl, Nat.le_of_ble_eq_true rfl⟩ rfl rfl hl.1 rfl (Nat.le_of_ble_eq_true rfl) dL_acts_248 (hC (by omega) (by omega)) (fun H locs G => ?_)
  exact r_kret hx hb hr hlk G ⟨by omega, by omega⟩ (rfl) rfl dL_acts_251
theorem k_L_acts_dely (l : Launch) (hst0 : l.stackTraces = false) {σ : Mem} {n y u : Int} (hG : GI n σ) (hn : n ≤ 900) (hy : 0 ≤ y ∧ y ≤ 2147483647) (hu : u = y / 16) (hw : 8 ≤ y % 16 ∧ y % 16 ≤ 11) (hc : σ 4 (u % 2 * 16 + u / 4 % 8) = 1) : CtK l yL_acts (Cond.code yL_acts cL_acts 3 (some .int)) 9 148 2 12 (fun z => [.ref (z + 0), .int (kI y)]) σ (bz ((pus σ) 14 1 ≤ (pus σ) 5 ((u % 2) * 16 + (u / 4 % 8)))) (dlr (pus σ) (u % 2) (u / 4 % 8)) := by
  rcases (by omega : y % 16 = 8 ∨ y % 16 = 9 ∨ y % 16 = 10 ∨ y % 16 = 11) with h | h | h | h
  · exact k_L_acts_dely8 l hst0 hG hn hy hu h hc
  · exact k_L_acts_dely9 l hst0 hG hn hy hu h hc
  · exact k_L_acts_dely10 l hst0 hG hn hy hu h hc
  · exact k_L_acts_dely11 l hst0 hG hn hy hu h hc
set_option maxRecDepth 100000 in
set_option maxHeartbeats 4000000 in
theorem k_L_acts_deln8 (l : Launch) (hst0 : l.stackTraces = false) {σ : Mem} {n y u : Int} (hG : GI n σ) (hn : n ≤ 900) (hy : 0 ≤ y ∧ y ≤ 2147483647) (hu : u = y / 16) (hw : y % 16 = 8) (hc : ¬ σ 4 (u % 2 * 16 + u / 4 % 8) = 1) : CtK l yL_acts (Cond.code yL_acts cL_acts 3 (some .int)) 9 148 2 12 (fun z => [.ref (z + 0), .int (kI y)]) σ ((-2000002)) (σ) := by
  intro D T z hT
  refine CtK_of (by decide) (Nat.le_of_ble_eq_true rfl) ?_
  intro p e s m below meth c ls hx hb hml hr hts hown hlk G hl hv
  have hown : s.vm.findClass RL = some m.cls := hown
  have hl : lv_has ls 3 [(0, .ref (z + 0)), (1, .int (kI y))] := hl
  have hC : ∀ {a b : Nat}, a ≤ 2 → b ≤ 12 → a ≤ (rmX 9 148 2 12).cells ∧ b ≤ (rmX 9 148 2 12).slots := fun h1 h2 => ⟨h1, h2⟩
  have hu0 : 0 ≤ u ∧ u ≤ 134217727 := by omega
  have hday := hG.i.2.1
  refine lv_iload_n hx hb dL_acts_0 rfl (lv_at hl 1 rfl) ?_
  refine r_bipush hx hb dL_acts_1 (by decide +kernel) ?_
  refine r_idiv hx hb dL_acts_3 (by omega) (by omega) (by omega) (by omega) ?_
  refine r_top (b := u) (hu.symm) ?_
  refine lv_istore_n (lv' := [(2, .int (kI u)), (0, .ref (z + 0)), (1, .int (kI y))]) hx hb dL_acts_4 rfl hl (by decide) rfl (fun ls hl => ?_)
  refine lv_iload_n hx hb dL_acts_5 rfl (lv_at hl 2 rfl) ?_
  refine r_bipush hx hb dL_acts_6 (by decide +kernel) ?_
  refine r_irem hx hb dL_acts_8 (by omega) (by omega) (by omega) (by omega) ?_
  refine r_top (b := 8) (hw) ?_
  refine r_tabIn (j := 8) (tgt := 238) hx hb dL_acts_9 (by decide) (by decide) ⟨by decide, by decide⟩ rfl (by decide) ?_
  refine lv_aload_n hx hb dL_acts_238 rfl (lv_at hl 1 rfl) ?_
  refine lv_iload_n hx hb dL_acts_239 rfl (lv_at hl 0 rfl) ?_
  refine r_iconst hx hb dL_acts_240 ?_
  refine r_irem hx hb dL_acts_241 (by omega) (by omega) (by omega) (by omega) ?_
  refine lv_iload_n hx hb dL_acts_242 rfl (lv_at hl 0 rfl) ?_
  refine r_iconst hx hb dL_acts_243 ?_
  refine r_idiv hx hb dL_acts_244 (by omega) (by omega) (by omega) (by omega) ?_
  refine r_bipush hx hb dL_acts_245 (by decide +kernel) ?_
  refine r_irem hx hb dL_acts_247 (by omega) (by omega) (by omega) (by omega) ?_
  refine r_callW (na := 3) (own := RL) ⟨hx, hb, hml, hown, hts⟩ G hv (k_L_delete_2 l hst0 (σ := σ) (k := u % 2) (y := u / 4 % 8) ⟨by omega, by omega⟩ ⟨by omega, by omega⟩ (hG.xc) (hG.z) (hG.s) ⟨⟨by omega, by omega⟩, by omega, by omega⟩ (hc)) qC_L_delete qM_L_118 qS_L_delete qN_L (by decide +kernel) ⟨Nat.le_of_ble_eq_true rfl, Nat.le_of_ble_eq_true rfl⟩ rfl rfl hl.1 rfl (Nat.le_of_ble_eq_true rfl) dL_acts_248 (hC (by omega) (by omega)) (fun H locs G => ?_)
  exact r_kret hx hb hr hlk G ⟨by omega, by omega⟩ (rfl) rfl dL_acts_251
set_option maxRecDepth 100000 in
set_option maxHeartbeats 4000000 in
theorem k_L_acts_deln9 (l : Launch) (hst0 : l.stackTraces = false) {σ : Mem} {n y u : Int} (hG : GI n σ) (hn : n ≤ 900) (hy : 0 ≤ y ∧ y ≤ 2147483647) (hu : u = y / 16) (hw : y % 16 = 9) (hc : ¬ σ 4 (u % 2 * 16 + u / 4 % 8) = 1) : CtK l yL_acts (Cond.code yL_acts cL_acts 3 (some .int)) 9 148 2 12 (fun z => [.ref (z + 0), .int (kI y)]) σ ((-2000002)) (σ) := by
  intro D T z hT
  refine CtK_of (by decide) (Nat.le_of_ble_eq_true rfl) ?_
  intro p e s m below meth c ls hx hb hml hr hts hown hlk G hl hv
  have hown : s.vm.findClass RL = some m.cls := hown
  have hl : lv_has ls 3 [(0, .ref (z + 0)), (1, .int (kI y))] := hl
  have hC : ∀ {a b : Nat}, a ≤ 2 → b ≤ 12 → a ≤ (rmX 9 148 2 12).cells ∧ b ≤ (rmX 9 148 2 12).slots := fun h1 h2 => ⟨h1, h2⟩
  have hu0 : 0 ≤ u ∧ u ≤ 134217727 := by omega
  have hday := hG.i.2.1
  refine lv_iload_n hx hb dL_acts_0 rfl (lv_at hl 1 rfl) ?_
  refine r_bipush hx hb dL_acts_1 (by decide +kernel) ?_
  refine r_idiv hx hb dL_acts_3 (by omega) (by omega) (by omega) (by omega) ?_
  refine r_top (b := u) (hu.symm) ?_
  refine lv_istore_n (lv' := [(2, .int (kI u)), (0, .ref (z + 0)), (1, .int (kI y))]) hx hb dL_acts_4 rfl hl (by decide) rfl (fun ls hl => ?_)
  refine lv_iload_n hx hb dL_acts_5 rfl (lv_at hl 2 rfl) ?_
  refine r_bipush hx hb dL_acts_6 (by decide +kernel) ?_
  refine r_irem hx hb dL_acts_8 (by omega) (by omega) (by omega) (by omega) ?_
  refine r_top (b := 9) (hw) ?_
  refine r_tabIn (j := 9) (tgt := 238) hx hb dL_acts_9 (by decide) (by decide) ⟨by decide, by decide⟩ rfl (by decide) ?_
  refine lv_aload_n hx hb dL_acts_238 rfl (lv_at hl 1 rfl) ?_
  refine lv_iload_n hx hb dL_acts_239 rfl (lv_at hl 0 rfl) ?_
  refine r_iconst hx hb dL_acts_240 ?_
  refine r_irem hx hb dL_acts_241 (by omega) (by omega) (by omega) (by omega) ?_
  refine lv_iload_n hx hb dL_acts_242 rfl (lv_at hl 0 rfl) ?_
  refine r_iconst hx hb dL_acts_243 ?_
  refine r_idiv hx hb dL_acts_244 (by omega) (by omega) (by omega) (by omega) ?_
  refine r_bipush hx hb dL_acts_245 (by decide +kernel) ?_
  refine r_irem hx hb dL_acts_247 (by omega) (by omega) (by omega) (by omega) ?_
  refine r_callW (na := 3) (own := RL) ⟨hx, hb, hml, hown, hts⟩ G hv (k_L_delete_2 l hst0 (σ := σ) (k := u % 2) (y := u / 4 % 8) ⟨by omega, by omega⟩ ⟨by omega, by omega⟩ (hG.xc) (hG.z) (hG.s) ⟨⟨by omega, by omega⟩, by omega, by omega⟩ (hc)) qC_L_delete qM_L_118 qS_L_delete qN_L (by decide +kernel) ⟨Nat.le_of_ble_eq_true rfl, Nat.le_of_ble_eq_true rfl⟩ rfl rfl hl.1 rfl (Nat.le_of_ble_eq_true rfl) dL_acts_248 (hC (by omega) (by omega)) (fun H locs G => ?_)
  exact r_kret hx hb hr hlk G ⟨by omega, by omega⟩ (rfl) rfl dL_acts_251
set_option maxRecDepth 100000 in
set_option maxHeartbeats 4000000 in
theorem k_L_acts_deln10 (l : Launch) (hst0 : l.stackTraces = false) {σ : Mem} {n y u : Int} (hG : GI n σ) (hn : n ≤ 900) (hy : 0 ≤ y ∧ y ≤ 2147483647) (hu : u = y / 16) (hw : y % 16 = 10) (hc : ¬ σ 4 (u % 2 * 16 + u / 4 % 8) = 1) : CtK l yL_acts (Cond.code yL_acts cL_acts 3 (some .int)) 9 148 2 12 (fun z => [.ref (z + 0), .int (kI y)]) σ ((-2000002)) (σ) := by
  intro D T z hT
  refine CtK_of (by decide) (Nat.le_of_ble_eq_true rfl) ?_
  intro p e s m below meth c ls hx hb hml hr hts hown hlk G hl hv
  have hown : s.vm.findClass RL = some m.cls := hown
  have hl : lv_has ls 3 [(0, .ref (z + 0)), (1, .int (kI y))] := hl
  have hC : ∀ {a b : Nat}, a ≤ 2 → b ≤ 12 → a ≤ (rmX 9 148 2 12).cells ∧ b ≤ (rmX 9 148 2 12).slots := fun h1 h2 => ⟨h1, h2⟩
  have hu0 : 0 ≤ u ∧ u ≤ 134217727 := by omega
  have hday := hG.i.2.1
  refine lv_iload_n hx hb dL_acts_0 rfl (lv_at hl 1 rfl) ?_
  refine r_bipush hx hb dL_acts_1 (by decide +kernel) ?_
  refine r_idiv hx hb dL_acts_3 (by omega) (by omega) (by omega) (by omega) ?_
  refine r_top (b := u) (hu.symm) ?_
  refine lv_istore_n (lv' := [(2, .int (kI u)), (0, .ref (z + 0)), (1, .int (kI y))]) hx hb dL_acts_4 rfl hl (by decide) rfl (fun ls hl => ?_)
  refine lv_iload_n hx hb dL_acts_5 rfl (lv_at hl 2 rfl) ?_
  refine r_bipush hx hb dL_acts_6 (by decide +kernel) ?_
  refine r_irem hx hb dL_acts_8 (by omega) (by omega) (by omega) (by omega) ?_
  refine r_top (b := 10) (hw) ?_
  refine r_tabIn (j := 10) (tgt := 238) hx hb dL_acts_9 (by decide) (by decide) ⟨by decide, by decide⟩ rfl (by decide) ?_
  refine lv_aload_n hx hb dL_acts_238 rfl (lv_at hl 1 rfl) ?_
  refine lv_iload_n hx hb dL_acts_239 rfl (lv_at hl 0 rfl) ?_
  refine r_iconst hx hb dL_acts_240 ?_
  refine r_irem hx hb dL_acts_241 (by omega) (by omega) (by omega) (by omega) ?_
  refine lv_iload_n hx hb dL_acts_242 rfl (lv_at hl 0 rfl) ?_
  refine r_iconst hx hb dL_acts_243 ?_
  refine r_idiv hx hb dL_acts_244 (by omega) (by omega) (by omega) (by omega) ?_
  refine r_bipush hx hb dL_acts_245 (by decide +kernel) ?_
  refine r_irem hx hb dL_acts_247 (by omega) (by omega) (by omega) (by omega) ?_
  refine r_callW (na := 3) (own := RL) ⟨hx, hb, hml, hown, hts⟩ G hv (k_L_delete_2 l hst0 (σ := σ) (k := u % 2) (y := u / 4 % 8) ⟨by omega, by omega⟩ ⟨by omega, by omega⟩ (hG.xc) (hG.z) (hG.s) ⟨⟨by omega, by omega⟩, by omega, by omega⟩ (hc)) qC_L_delete qM_L_118 qS_L_delete qN_L (by decide +kernel) ⟨Nat.le_of_ble_eq_true rfl, Nat.le_of_ble_eq_true rfl⟩ rfl rfl hl.1 rfl (Nat.le_of_ble_eq_true rfl) dL_acts_248 (hC (by omega) (by omega)) (fun H locs G => ?_)
  exact r_kret hx hb hr hlk G ⟨by omega, by omega⟩ (rfl) rfl dL_acts_251
set_option maxRecDepth 100000 in
set_option maxHeartbeats 4000000 in
theorem k_L_acts_deln11 (l : Launch) (hst0 : l.stackTraces = false) {σ : Mem} {n y u : Int} (hG : GI n σ) (hn : n ≤ 900) (hy : 0 ≤ y ∧ y ≤ 2147483647) (hu : u = y / 16) (hw : y % 16 = 11) (hc : ¬ σ 4 (u % 2 * 16 + u / 4 % 8) = 1) : CtK l yL_acts (Cond.code yL_acts cL_acts 3 (some .int)) 9 148 2 12 (fun z => [.ref (z + 0), .int (kI y)]) σ ((-2000002)) (σ) := by
  intro D T z hT
  refine CtK_of (by decide) (Nat.le_of_ble_eq_true rfl) ?_
  intro p e s m below meth c ls hx hb hml hr hts hown hlk G hl hv
  have hown : s.vm.findClass RL = some m.cls := hown
  have hl : lv_has ls 3 [(0, .ref (z + 0)), (1, .int (kI y))] := hl
  have hC : ∀ {a b : Nat}, a ≤ 2 → b ≤ 12 → a ≤ (rmX 9 148 2 12).cells ∧ b ≤ (rmX 9 148 2 12).slots := fun h1 h2 => ⟨h1, h2⟩
  have hu0 : 0 ≤ u ∧ u ≤ 134217727 := by omega
  have hday := hG.i.2.1
  refine lv_iload_n hx hb dL_acts_0 rfl (lv_at hl 1 rfl) ?_
  refine r_bipush hx hb dL_acts_1 (by decide +kernel) ?_
  refine r_idiv hx hb dL_acts_3 (by omega) (by omega) (by omega) (by omega) ?_
  refine r_top (b := u) (hu.symm) ?_
  refine lv_istore_n (lv' := [(2, .int (kI u)), (0, .ref (z + 0)), (1, .int (kI y))]) hx hb dL_acts_4 rfl hl (by decide) rfl (fun ls hl => ?_)
  refine lv_iload_n hx hb dL_acts_5 rfl (lv_at hl 2 rfl) ?_
  refine r_bipush hx hb dL_acts_6 (by decide +kernel) ?_
  refine r_irem hx hb dL_acts_8 (by omega) (by omega) (by omega) (by omega) ?_
  refine r_top (b := 11) (hw) ?_
  refine r_tabIn (j := 11) (tgt := 238) hx hb dL_acts_9 (by decide) (by decide) ⟨by decide, by decide⟩ rfl (by decide) ?_
  refine lv_aload_n hx hb dL_acts_238 rfl (lv_at hl 1 rfl) ?_
  refine lv_iload_n hx hb dL_acts_239 rfl (lv_at hl 0 rfl) ?_
  refine r_iconst hx hb dL_acts_240 ?_
  refine r_irem hx hb dL_acts_241 (by omega) (by omega) (by omega) (by omega) ?_
  refine lv_iload_n hx hb dL_acts_242 rfl (lv_at hl 0 rfl) ?_
  refine r_iconst hx hb dL_acts_243 ?_
  refine r_idiv hx hb dL_acts_244 (by omega) (by omega) (by omega) (by omega) ?_
  refine r_bipush hx hb dL_acts_245 (by decide +kernel) ?_
  refine r_irem hx hb dL_acts_247 (by omega) (by omega) (by omega) (by omega) ?_
  refine r_callW (na := 3) (own := RL) ⟨hx, hb, hml, hown, hts⟩ G hv (k_L_delete_2 l hst0 (σ := σ) (k := u % 2) (y := u / 4 % 8) ⟨by omega, by omega⟩ ⟨by omega, by omega⟩ (hG.xc) (hG.z) (hG.s) ⟨⟨by omega, by omega⟩, by omega, by omega⟩ (hc)) qC_L_delete qM_L_118 qS_L_delete qN_L (by decide +kernel) ⟨Nat.le_of_ble_eq_true rfl, Nat.le_of_ble_eq_true rfl⟩ rfl rfl hl.1 rfl (Nat.le_of_ble_eq_true rfl) dL_acts_248 (hC (by omega) (by omega)) (fun H locs G => ?_)
  exact r_kret hx hb hr hlk G ⟨by omega, by omega⟩ (rfl) rfl dL_acts_251
theorem k_L_acts_deln (l : Launch) (hst0 : l.stackTraces = false) {σ : Mem} {n y u : Int} (hG : GI n σ) (hn : n ≤ 900) (hy : 0 ≤ y ∧ y ≤ 2147483647) (hu : u = y / 16) (hw : 8 ≤ y % 16 ∧ y % 16 ≤ 11) (hc : ¬ σ 4 (u % 2 * 16 + u / 4 % 8) = 1) : CtK l yL_acts (Cond.code yL_acts cL_acts 3 (some .int)) 9 148 2 12 (fun z => [.ref (z + 0), .int (kI y)]) σ ((-2000002)) (σ) := by
  rcases (by omega : y % 16 = 8 ∨ y % 16 = 9 ∨ y % 16 = 10 ∨ y % 16 = 11) with h | h | h | h
  · exact k_L_acts_deln8 l hst0 hG hn hy hu h hc
  · exact k_L_acts_deln9 l hst0 hG hn hy hu h hc
  · exact k_L_acts_deln10 l hst0 hG hn hy hu h hc
  · exact k_L_acts_deln11 l hst0 hG hn hy hu h hc
set_option maxRecDepth 100000 in
set_option maxHeartbeats 4000000 in
theorem k_L_acts_ask (l : Launch) (hst0 : l.stackTraces = false) {σ : Mem} {n y u : Int} (hG : GI n σ) (hn : n ≤ 900) (hy : 0 ≤ y ∧ y ≤ 2147483647) (hu : u = y / 16) (hw : 12 ≤ y % 16)  : CtK l yL_acts (Cond.code yL_acts cL_acts 3 (some .int)) 9 159 2 12 (fun z => [.ref (z + 0), .int (kI y)]) σ (atr (pus σ) (u % 2)) (svr (pus σ) (u % 2)) := by
  intro D T z hT
  refine CtK_of (by decide) (Nat.le_of_ble_eq_true rfl) ?_
  intro p e s m below meth c ls hx hb hml hr hts hown hlk G hl hv
  have hown : s.vm.findClass RL = some m.cls := hown
  have hl : lv_has ls 3 [(0, .ref (z + 0)), (1, .int (kI y))] := hl
  have hC : ∀ {a b : Nat}, a ≤ 2 → b ≤ 12 → a ≤ (rmX 9 159 2 12).cells ∧ b ≤ (rmX 9 159 2 12).slots := fun h1 h2 => ⟨h1, h2⟩
  have hu0 : 0 ≤ u ∧ u ≤ 134217727 := by omega
  have hday := hG.i.2.1
  refine lv_iload_n hx hb dL_acts_0 rfl (lv_at hl 1 rfl) ?_
  refine r_bipush hx hb dL_acts_1 (by decide +kernel) ?_
  refine r_idiv hx hb dL_acts_3 (by omega) (by omega) (by omega) (by omega) ?_
  refine r_top (b := u) (hu.symm) ?_
  refine lv_istore_n (lv' := [(2, .int (kI u)), (0, .ref (z + 0)), (1, .int (kI y))]) hx hb dL_acts_4 rfl hl (by decide) rfl (fun ls hl => ?_)
  refine lv_iload_n hx hb dL_acts_5 rfl (lv_at hl 2 rfl) ?_
  refine r_bipush hx hb dL_acts_6 (by decide +kernel) ?_
  refine r_irem hx hb dL_acts_8 (by omega) (by omega) (by omega) (by omega) ?_
  refine r_tabOut (tgt := 252) hx hb dL_acts_9 ⟨by omega, by omega⟩ (by omega) (by decide) ?_
  refine lv_aload_n hx hb dL_acts_252 rfl (lv_at hl 1 rfl) ?_
  refine lv_iload_n hx hb dL_acts_253 rfl (lv_at hl 0 rfl) ?_
  refine r_iconst hx hb dL_acts_254 ?_
  refine r_irem hx hb dL_acts_255 (by omega) (by omega) (by omega) (by omega) ?_
  refine r_callW (na := 2) (own := RL) ⟨hx, hb, hml, hown, hts⟩ G hv (k_L_ask_y l hst0 (σ := σ) (k := u % 2) ⟨by omega, by omega⟩ (hG.xc) (hG.z) (hG.s) ⟨by omega, by omega⟩) qC_L_ask qM_L_120 qS_L_ask qN_L (by decide +kernel) ⟨Nat.le_of_ble_eq_true rfl, Nat.le_of_ble_eq_true rfl⟩ rfl rfl hl.1 rfl (Nat.le_of_ble_eq_true rfl) dL_acts_256 (hC (by omega) (by omega)) (fun H locs G => ?_)
  exact r_kret hx hb hr hlk G ⟨by omega, by omega⟩ (rfl) rfl dL_acts_259
