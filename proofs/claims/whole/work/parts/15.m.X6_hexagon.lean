/-! ===== printed: X6_hexagon, X6_set, X6_isIn, X6_count, X6_ups, X6_size, X6_common, X6_product, X6_then, X6_layWays, X6_layCome, X6_layings, X6_withKind, X6_with, X6_kindsOf, X6_kinds ===== -/
theorem dX6_hexagon_0 : decode cX6_hexagon 0 = .ok (.iload_n 1, 1) := by decide +kernel
theorem dX6_hexagon_1 : decode cX6_hexagon 1 = .ok (.iload_n 2, 1) := by decide +kernel
theorem dX6_hexagon_2 : decode cX6_hexagon 2 = .ok (.iload_n 3, 1) := by decide +kernel
theorem dX6_hexagon_3 : decode cX6_hexagon 3 = .ok (.invokestatic 93, 3) := by decide +kernel
theorem dX6_hexagon_6 : decode cX6_hexagon 6 = .ok (.ifCond .ne 6, 3) := by decide +kernel
theorem dX6_hexagon_9 : decode cX6_hexagon 9 = .ok (.ldc 90, 2) := by decide +kernel
theorem dX6_hexagon_11 : decode cX6_hexagon 11 = .ok (.ireturn, 1) := by decide +kernel
theorem dX6_hexagon_12 : decode cX6_hexagon 12 = .ok (.aload_n 0, 1) := by decide +kernel
theorem dX6_hexagon_13 : decode cX6_hexagon 13 = .ok (.iload_n 1, 1) := by decide +kernel
theorem dX6_hexagon_14 : decode cX6_hexagon 14 = .ok (.iload_n 3, 1) := by decide +kernel
theorem dX6_hexagon_15 : decode cX6_hexagon 15 = .ok (.iadd, 1) := by decide +kernel
theorem dX6_hexagon_16 : decode cX6_hexagon 16 = .ok (.iload_n 2, 1) := by decide +kernel
theorem dX6_hexagon_17 : decode cX6_hexagon 17 = .ok (.iload_n 3, 1) := by decide +kernel
theorem dX6_hexagon_18 : decode cX6_hexagon 18 = .ok (.iadd, 1) := by decide +kernel
theorem dX6_hexagon_19 : decode cX6_hexagon 19 = .ok (.invokevirtual 66, 3) := by decide +kernel
theorem dX6_hexagon_22 : decode cX6_hexagon 22 = .ok (.iconst 0, 1) := by decide +kernel
theorem dX6_hexagon_23 : decode cX6_hexagon 23 = .ok (.istore 4, 2) := by decide +kernel
theorem dX6_hexagon_25 : decode cX6_hexagon 25 = .ok (.iconst 0, 1) := by decide +kernel
theorem dX6_hexagon_26 : decode cX6_hexagon 26 = .ok (.istore 5, 2) := by decide +kernel
theorem dX6_hexagon_28 : decode cX6_hexagon 28 = .ok (.iload 5, 2) := by decide +kernel
theorem dX6_hexagon_30 : decode cX6_hexagon 30 = .ok (.aload_n 0, 1) := by decide +kernel
theorem dX6_hexagon_31 : decode cX6_hexagon 31 = .ok (.invokevirtual 80, 3) := by decide +kernel
theorem dX6_hexagon_34 : decode cX6_hexagon 34 = .ok (.if_icmp .ge 136, 3) := by decide +kernel
theorem dX6_hexagon_37 : decode cX6_hexagon 37 = .ok (.iload 5, 2) := by decide +kernel
theorem dX6_hexagon_39 : decode cX6_hexagon 39 = .ok (.aload_n 0, 1) := by decide +kernel
theorem dX6_hexagon_40 : decode cX6_hexagon 40 = .ok (.getfield 70, 3) := by decide +kernel
theorem dX6_hexagon_43 : decode cX6_hexagon 43 = .ok (.irem, 1) := by decide +kernel
theorem dX6_hexagon_44 : decode cX6_hexagon 44 = .ok (.iload 5, 2) := by decide +kernel
theorem dX6_hexagon_46 : decode cX6_hexagon 46 = .ok (.aload_n 0, 1) := by decide +kernel
theorem dX6_hexagon_47 : decode cX6_hexagon 47 = .ok (.getfield 70, 3) := by decide +kernel
theorem dX6_hexagon_50 : decode cX6_hexagon 50 = .ok (.idiv, 1) := by decide +kernel
theorem dX6_hexagon_51 : decode cX6_hexagon 51 = .ok (.iadd, 1) := by decide +kernel
theorem dX6_hexagon_52 : decode cX6_hexagon 52 = .ok (.istore 6, 2) := by decide +kernel
theorem dX6_hexagon_54 : decode cX6_hexagon 54 = .ok (.aload_n 0, 1) := by decide +kernel
theorem dX6_hexagon_55 : decode cX6_hexagon 55 = .ok (.getfield 7, 3) := by decide +kernel
theorem dX6_hexagon_58 : decode cX6_hexagon 58 = .ok (.iconst 2, 1) := by decide +kernel
theorem dX6_hexagon_59 : decode cX6_hexagon 59 = .ok (.iload 5, 2) := by decide +kernel
theorem dX6_hexagon_61 : decode cX6_hexagon 61 = .ok (.imul, 1) := by decide +kernel
theorem dX6_hexagon_62 : decode cX6_hexagon 62 = .ok (.iload 6, 2) := by decide +kernel
theorem dX6_hexagon_64 : decode cX6_hexagon 64 = .ok (.iload_n 3, 1) := by decide +kernel
theorem dX6_hexagon_65 : decode cX6_hexagon 65 = .ok (.if_icmp .lt 19, 3) := by decide +kernel
theorem dX6_hexagon_68 : decode cX6_hexagon 68 = .ok (.iload 6, 2) := by decide +kernel
theorem dX6_hexagon_70 : decode cX6_hexagon 70 = .ok (.iconst 1, 1) := by decide +kernel
theorem dX6_hexagon_71 : decode cX6_hexagon 71 = .ok (.iadd, 1) := by decide +kernel
theorem dX6_hexagon_72 : decode cX6_hexagon 72 = .ok (.iload_n 1, 1) := by decide +kernel
theorem dX6_hexagon_73 : decode cX6_hexagon 73 = .ok (.iload_n 2, 1) := by decide +kernel
theorem dX6_hexagon_74 : decode cX6_hexagon 74 = .ok (.iadd, 1) := by decide +kernel
theorem dX6_hexagon_75 : decode cX6_hexagon 75 = .ok (.iload_n 3, 1) := by decide +kernel
theorem dX6_hexagon_76 : decode cX6_hexagon 76 = .ok (.iadd, 1) := by decide +kernel
theorem dX6_hexagon_77 : decode cX6_hexagon 77 = .ok (.if_icmp .gt 7, 3) := by decide +kernel
theorem dX6_hexagon_80 : decode cX6_hexagon 80 = .ok (.iconst 1, 1) := by decide +kernel
theorem dX6_hexagon_81 : decode cX6_hexagon 81 = .ok (.goto 4, 3) := by decide +kernel
theorem dX6_hexagon_84 : decode cX6_hexagon 84 = .ok (.iconst 0, 1) := by decide +kernel
theorem dX6_hexagon_85 : decode cX6_hexagon 85 = .ok (.bastore, 1) := by decide +kernel
theorem dX6_hexagon_86 : decode cX6_hexagon 86 = .ok (.aload_n 0, 1) := by decide +kernel
theorem dX6_hexagon_87 : decode cX6_hexagon 87 = .ok (.getfield 7, 3) := by decide +kernel
theorem dX6_hexagon_90 : decode cX6_hexagon 90 = .ok (.iconst 2, 1) := by decide +kernel
theorem dX6_hexagon_91 : decode cX6_hexagon 91 = .ok (.iload 5, 2) := by decide +kernel
theorem dX6_hexagon_93 : decode cX6_hexagon 93 = .ok (.imul, 1) := by decide +kernel
theorem dX6_hexagon_94 : decode cX6_hexagon 94 = .ok (.iconst 1, 1) := by decide +kernel
theorem dX6_hexagon_95 : decode cX6_hexagon 95 = .ok (.iadd, 1) := by decide +kernel
theorem dX6_hexagon_96 : decode cX6_hexagon 96 = .ok (.iload 6, 2) := by decide +kernel
theorem dX6_hexagon_98 : decode cX6_hexagon 98 = .ok (.iconst 1, 1) := by decide +kernel
theorem dX6_hexagon_99 : decode cX6_hexagon 99 = .ok (.iadd, 1) := by decide +kernel
theorem dX6_hexagon_100 : decode cX6_hexagon 100 = .ok (.iload_n 3, 1) := by decide +kernel
theorem dX6_hexagon_101 : decode cX6_hexagon 101 = .ok (.if_icmp .lt 19, 3) := by decide +kernel
theorem dX6_hexagon_104 : decode cX6_hexagon 104 = .ok (.iload 6, 2) := by decide +kernel
theorem dX6_hexagon_106 : decode cX6_hexagon 106 = .ok (.iconst 2, 1) := by decide +kernel
theorem dX6_hexagon_107 : decode cX6_hexagon 107 = .ok (.iadd, 1) := by decide +kernel
theorem dX6_hexagon_108 : decode cX6_hexagon 108 = .ok (.iload_n 1, 1) := by decide +kernel
theorem dX6_hexagon_109 : decode cX6_hexagon 109 = .ok (.iload_n 2, 1) := by decide +kernel
theorem dX6_hexagon_110 : decode cX6_hexagon 110 = .ok (.iadd, 1) := by decide +kernel
theorem dX6_hexagon_111 : decode cX6_hexagon 111 = .ok (.iload_n 3, 1) := by decide +kernel
theorem dX6_hexagon_112 : decode cX6_hexagon 112 = .ok (.iadd, 1) := by decide +kernel
theorem dX6_hexagon_113 : decode cX6_hexagon 113 = .ok (.if_icmp .gt 7, 3) := by decide +kernel
theorem dX6_hexagon_116 : decode cX6_hexagon 116 = .ok (.iconst 1, 1) := by decide +kernel
theorem dX6_hexagon_117 : decode cX6_hexagon 117 = .ok (.goto 4, 3) := by decide +kernel
theorem dX6_hexagon_120 : decode cX6_hexagon 120 = .ok (.iconst 0, 1) := by decide +kernel
theorem dX6_hexagon_121 : decode cX6_hexagon 121 = .ok (.bastore, 1) := by decide +kernel
theorem dX6_hexagon_122 : decode cX6_hexagon 122 = .ok (.iload 4, 2) := by decide +kernel
theorem dX6_hexagon_124 : decode cX6_hexagon 124 = .ok (.aload_n 0, 1) := by decide +kernel
theorem dX6_hexagon_125 : decode cX6_hexagon 125 = .ok (.getfield 7, 3) := by decide +kernel
theorem dX6_hexagon_128 : decode cX6_hexagon 128 = .ok (.iconst 2, 1) := by decide +kernel
theorem dX6_hexagon_129 : decode cX6_hexagon 129 = .ok (.iload 5, 2) := by decide +kernel
theorem dX6_hexagon_131 : decode cX6_hexagon 131 = .ok (.imul, 1) := by decide +kernel
theorem dX6_hexagon_132 : decode cX6_hexagon 132 = .ok (.baload, 1) := by decide +kernel
theorem dX6_hexagon_133 : decode cX6_hexagon 133 = .ok (.ifCond .eq 7, 3) := by decide +kernel
theorem dX6_hexagon_136 : decode cX6_hexagon 136 = .ok (.iconst 1, 1) := by decide +kernel
theorem dX6_hexagon_137 : decode cX6_hexagon 137 = .ok (.goto 4, 3) := by decide +kernel
theorem dX6_hexagon_140 : decode cX6_hexagon 140 = .ok (.iconst 0, 1) := by decide +kernel
theorem dX6_hexagon_141 : decode cX6_hexagon 141 = .ok (.aload_n 0, 1) := by decide +kernel
theorem dX6_hexagon_142 : decode cX6_hexagon 142 = .ok (.getfield 7, 3) := by decide +kernel
theorem dX6_hexagon_145 : decode cX6_hexagon 145 = .ok (.iconst 2, 1) := by decide +kernel
theorem dX6_hexagon_146 : decode cX6_hexagon 146 = .ok (.iload 5, 2) := by decide +kernel
theorem dX6_hexagon_148 : decode cX6_hexagon 148 = .ok (.imul, 1) := by decide +kernel
theorem dX6_hexagon_149 : decode cX6_hexagon 149 = .ok (.iconst 1, 1) := by decide +kernel
theorem dX6_hexagon_150 : decode cX6_hexagon 150 = .ok (.iadd, 1) := by decide +kernel
theorem dX6_hexagon_151 : decode cX6_hexagon 151 = .ok (.baload, 1) := by decide +kernel
theorem dX6_hexagon_152 : decode cX6_hexagon 152 = .ok (.ifCond .eq 7, 3) := by decide +kernel
theorem dX6_hexagon_155 : decode cX6_hexagon 155 = .ok (.iconst 1, 1) := by decide +kernel
theorem dX6_hexagon_156 : decode cX6_hexagon 156 = .ok (.goto 4, 3) := by decide +kernel
theorem dX6_hexagon_159 : decode cX6_hexagon 159 = .ok (.iconst 0, 1) := by decide +kernel
theorem dX6_hexagon_160 : decode cX6_hexagon 160 = .ok (.iadd, 1) := by decide +kernel
theorem dX6_hexagon_161 : decode cX6_hexagon 161 = .ok (.iadd, 1) := by decide +kernel
theorem dX6_hexagon_162 : decode cX6_hexagon 162 = .ok (.istore 4, 2) := by decide +kernel
theorem dX6_hexagon_164 : decode cX6_hexagon 164 = .ok (.iinc 5 1, 3) := by decide +kernel
theorem dX6_hexagon_167 : decode cX6_hexagon 167 = .ok (.goto (-139), 3) := by decide +kernel
theorem dX6_hexagon_170 : decode cX6_hexagon 170 = .ok (.iload 4, 2) := by decide +kernel
theorem dX6_hexagon_172 : decode cX6_hexagon 172 = .ok (.ireturn, 1) := by decide +kernel
def f_X6_hexagon_160 (k28 : Int32 → Int32 → Int32 → Int32 → Int32 → St → Option (Int32 × St)) (x1 : Int32) (x2 : Int32) (x3 : Int32) (x5 : Int32) (s0 : Int32) (s1 : Int32) (s2 : Int32) (σ : St) : Option (Int32 × St) :=
  k28 x1 x2 x3 (s0 + (s1 + s2)) (x5 + 1) σ
set_option maxRecDepth 100000 in
set_option maxHeartbeats 4000000 in
theorem b_X6_hexagon_160 {g : Geo} {x : Cx} (C : Ok g x cX6_hexagon RX6 7 (some .int) rm_X6_hexagon) (k28 : Int32 → Int32 → Int32 → Int32 → Int32 → St → Option (Int32 × St)) (hk28 : ∀ (x1 : Int32) (x2 : Int32) (x3 : Int32) (x4 : Int32) (x5 : Int32) (τ : St) (r : Int32) (τ' : St), k28 x1 x2 x3 x4 x5 τ = some (r, τ') → V g x (qm g x (some (.int r)) τ') 7 τ [(0, .ref (g.1 26)), (1, .int x1), (2, .int x2), (3, .int x3), (4, .int x4), (5, .int x5)] [] 28) : ∀ (x1 : Int32) (x2 : Int32) (x3 : Int32) (x5 : Int32) (s0 : Int32) (s1 : Int32) (s2 : Int32) (σ : St) (r : Int32) (σ' : St), f_X6_hexagon_160 k28 x1 x2 x3 x5 s0 s1 s2 σ = some (r, σ') → V g x (qm g x (some (.int r)) σ') 7 σ [(0, .ref (g.1 26)), (1, .int x1), (2, .int x2), (3, .int x3), (5, .int x5)] [.int s2, .int s1, .int s0] 160 := by
  intro x1 x2 x3 x5 s0 s1 s2 σ r σ' h
  unfold f_X6_hexagon_160 at h
  refine v_iadd C dX6_hexagon_160 ?_
  refine v_iadd C dX6_hexagon_161 ?_
  refine v_istore C (lv' := [(4, .int _), (0, .ref _), (1, .int _), (2, .int _), (3, .int _), (5, .int _)]) dX6_hexagon_162 (by decide) rfl ?_
  refine v_iinc C (v := (x5 + 1)) (lv' := [(5, .int _), (4, .int _), (0, .ref _), (1, .int _), (2, .int _), (3, .int _)]) dX6_hexagon_164 5 rfl rfl (by decide) rfl ?_
  refine v_goto C (tgt := 28) dX6_hexagon_167 (by decide) ?_
  refine V.sub (lv' := [(0, .ref _), (1, .int _), (2, .int _), (3, .int _), (4, .int _), (5, .int _)]) [2, 3, 4, 5, 1, 0] rfl ?_
  exact hk28 _ _ _ _ _  _ _ _ h
def f_X6_hexagon_141 (k28 : Int32 → Int32 → Int32 → Int32 → Int32 → St → Option (Int32 × St)) (x1 : Int32) (x2 : Int32) (x3 : Int32) (x5 : Int32) (s0 : Int32) (s1 : Int32) (σ : St) : Option (Int32 × St) :=
  rdI σ 27 (((2 : Int32) * x5) + (1 : Int32)) fun v1 =>
  if v1 = 0 then
    f_X6_hexagon_160 k28 x1 x2 x3 x5 s0 s1 (0 : Int32) σ
  else
    f_X6_hexagon_160 k28 x1 x2 x3 x5 s0 s1 (1 : Int32) σ
set_option maxRecDepth 100000 in
set_option maxHeartbeats 4000000 in
theorem b_X6_hexagon_141 {g : Geo} {x : Cx} (C : Ok g x cX6_hexagon RX6 7 (some .int) rm_X6_hexagon) (k28 : Int32 → Int32 → Int32 → Int32 → Int32 → St → Option (Int32 × St)) (hk28 : ∀ (x1 : Int32) (x2 : Int32) (x3 : Int32) (x4 : Int32) (x5 : Int32) (τ : St) (r : Int32) (τ' : St), k28 x1 x2 x3 x4 x5 τ = some (r, τ') → V g x (qm g x (some (.int r)) τ') 7 τ [(0, .ref (g.1 26)), (1, .int x1), (2, .int x2), (3, .int x3), (4, .int x4), (5, .int x5)] [] 28) : ∀ (x1 : Int32) (x2 : Int32) (x3 : Int32) (x5 : Int32) (s0 : Int32) (s1 : Int32) (σ : St) (r : Int32) (σ' : St), f_X6_hexagon_141 k28 x1 x2 x3 x5 s0 s1 σ = some (r, σ') → V g x (qm g x (some (.int r)) σ') 7 σ [(0, .ref (g.1 26)), (1, .int x1), (2, .int x2), (3, .int x3), (5, .int x5)] [.int s1, .int s0] 141 := by
  intro x1 x2 x3 x5 s0 s1 σ r σ' h
  unfold f_X6_hexagon_141 at h
  refine v_aload_n C dX6_hexagon_141 rfl 0 rfl ?_
  refine v_getR C (p' := 27) fl_RX6_7 rfl rfl dX6_hexagon_142 ?_
  refine v_iconst C (v := (2 : Int32)) dX6_hexagon_145 (by decide) ?_
  refine v_iload C dX6_hexagon_146 4 rfl ?_
  refine v_imul C dX6_hexagon_148 ?_
  refine v_iconst C (v := (1 : Int32)) dX6_hexagon_149 (by decide) ?_
  refine v_iadd C dX6_hexagon_150 ?_
  obtain ⟨nv1, v1, ev1, h⟩ := rdI_ex h
  refine x_zald C rfl nv1 ev1 dX6_hexagon_151 ?_
  refine v_if_eq C (tgt := 159) dX6_hexagon_152 (by decide) (fun q2 => ?_) (fun q2 => ?_)
  · rw [if_pos q2] at h
    refine v_iconst C (v := (0 : Int32)) dX6_hexagon_159 (by decide) ?_
    refine V.sub (lv' := [(0, .ref _), (1, .int _), (2, .int _), (3, .int _), (5, .int _)]) [0, 1, 2, 3, 4] rfl ?_
    exact b_X6_hexagon_160 C _ hk28 _ _ _ _ _ _ _  _ _ _ h
  · rw [if_neg q2] at h
    refine v_iconst C (v := (1 : Int32)) dX6_hexagon_155 (by decide) ?_
    refine v_goto C (tgt := 160) dX6_hexagon_156 (by decide) ?_
    refine V.sub (lv' := [(0, .ref _), (1, .int _), (2, .int _), (3, .int _), (5, .int _)]) [0, 1, 2, 3, 4] rfl ?_
    exact b_X6_hexagon_160 C _ hk28 _ _ _ _ _ _ _  _ _ _ h
def f_X6_hexagon_121 (k28 : Int32 → Int32 → Int32 → Int32 → Int32 → St → Option (Int32 × St)) (x1 : Int32) (x2 : Int32) (x3 : Int32) (x4 : Int32) (x5 : Int32) (s1 : Int32) (s2 : Int32) (σ : St) : Option (Int32 × St) :=
  wrZ σ 27 s1 s2 fun σ1 =>
  rdI σ1 27 ((2 : Int32) * x5) fun v2 =>
  if v2 = 0 then
    f_X6_hexagon_141 k28 x1 x2 x3 x5 x4 (0 : Int32) σ1
  else
    f_X6_hexagon_141 k28 x1 x2 x3 x5 x4 (1 : Int32) σ1
set_option maxRecDepth 100000 in
set_option maxHeartbeats 4000000 in
theorem b_X6_hexagon_121 {g : Geo} {x : Cx} (C : Ok g x cX6_hexagon RX6 7 (some .int) rm_X6_hexagon) (k28 : Int32 → Int32 → Int32 → Int32 → Int32 → St → Option (Int32 × St)) (hk28 : ∀ (x1 : Int32) (x2 : Int32) (x3 : Int32) (x4 : Int32) (x5 : Int32) (τ : St) (r : Int32) (τ' : St), k28 x1 x2 x3 x4 x5 τ = some (r, τ') → V g x (qm g x (some (.int r)) τ') 7 τ [(0, .ref (g.1 26)), (1, .int x1), (2, .int x2), (3, .int x3), (4, .int x4), (5, .int x5)] [] 28) : ∀ (x1 : Int32) (x2 : Int32) (x3 : Int32) (x4 : Int32) (x5 : Int32) (s1 : Int32) (s2 : Int32) (σ : St) (r : Int32) (σ' : St), f_X6_hexagon_121 k28 x1 x2 x3 x4 x5 s1 s2 σ = some (r, σ') → V g x (qm g x (some (.int r)) σ') 7 σ [(0, .ref (g.1 26)), (1, .int x1), (2, .int x2), (3, .int x3), (4, .int x4), (5, .int x5)] [.int s2, .int s1, .ref (g.1 27)] 121 := by
  intro x1 x2 x3 x4 x5 s1 s2 σ r σ' h
  unfold f_X6_hexagon_121 at h
  obtain ⟨nσ1, σ1, eσ1, h⟩ := wrZ_ex h
  refine x_zast C rfl nσ1 eσ1 dX6_hexagon_121 ?_
  refine v_iload C dX6_hexagon_122 4 rfl ?_
  refine v_aload_n C dX6_hexagon_124 rfl 0 rfl ?_
  refine v_getR C (p' := 27) fl_RX6_7 rfl rfl dX6_hexagon_125 ?_
  refine v_iconst C (v := (2 : Int32)) dX6_hexagon_128 (by decide) ?_
  refine v_iload C dX6_hexagon_129 5 rfl ?_
  refine v_imul C dX6_hexagon_131 ?_
  obtain ⟨nv2, v2, ev2, h⟩ := rdI_ex h
  refine x_zald C rfl nv2 ev2 dX6_hexagon_132 ?_
  refine v_if_eq C (tgt := 140) dX6_hexagon_133 (by decide) (fun q3 => ?_) (fun q3 => ?_)
  · rw [if_pos q3] at h
    refine v_iconst C (v := (0 : Int32)) dX6_hexagon_140 (by decide) ?_
    refine V.sub (lv' := [(0, .ref _), (1, .int _), (2, .int _), (3, .int _), (5, .int _)]) [0, 1, 2, 3, 5] rfl ?_
    exact b_X6_hexagon_141 C _ hk28 _ _ _ _ _ _  _ _ _ h
  · rw [if_neg q3] at h
    refine v_iconst C (v := (1 : Int32)) dX6_hexagon_136 (by decide) ?_
    refine v_goto C (tgt := 141) dX6_hexagon_137 (by decide) ?_
    refine V.sub (lv' := [(0, .ref _), (1, .int _), (2, .int _), (3, .int _), (5, .int _)]) [0, 1, 2, 3, 5] rfl ?_
    exact b_X6_hexagon_141 C _ hk28 _ _ _ _ _ _  _ _ _ h
def f_X6_hexagon_120 (k28 : Int32 → Int32 → Int32 → Int32 → Int32 → St → Option (Int32 × St)) (x1 : Int32) (x2 : Int32) (x3 : Int32) (x4 : Int32) (x5 : Int32) (s1 : Int32) (σ : St) : Option (Int32 × St) :=
  f_X6_hexagon_121 k28 x1 x2 x3 x4 x5 s1 (0 : Int32) σ
set_option maxRecDepth 100000 in
set_option maxHeartbeats 4000000 in
theorem b_X6_hexagon_120 {g : Geo} {x : Cx} (C : Ok g x cX6_hexagon RX6 7 (some .int) rm_X6_hexagon) (k28 : Int32 → Int32 → Int32 → Int32 → Int32 → St → Option (Int32 × St)) (hk28 : ∀ (x1 : Int32) (x2 : Int32) (x3 : Int32) (x4 : Int32) (x5 : Int32) (τ : St) (r : Int32) (τ' : St), k28 x1 x2 x3 x4 x5 τ = some (r, τ') → V g x (qm g x (some (.int r)) τ') 7 τ [(0, .ref (g.1 26)), (1, .int x1), (2, .int x2), (3, .int x3), (4, .int x4), (5, .int x5)] [] 28) : ∀ (x1 : Int32) (x2 : Int32) (x3 : Int32) (x4 : Int32) (x5 : Int32) (s1 : Int32) (σ : St) (r : Int32) (σ' : St), f_X6_hexagon_120 k28 x1 x2 x3 x4 x5 s1 σ = some (r, σ') → V g x (qm g x (some (.int r)) σ') 7 σ [(0, .ref (g.1 26)), (1, .int x1), (2, .int x2), (3, .int x3), (4, .int x4), (5, .int x5)] [.int s1, .ref (g.1 27)] 120 := by
  intro x1 x2 x3 x4 x5 s1 σ r σ' h
  unfold f_X6_hexagon_120 at h
  refine v_iconst C (v := (0 : Int32)) dX6_hexagon_120 (by decide) ?_
  refine V.sub (lv' := [(0, .ref _), (1, .int _), (2, .int _), (3, .int _), (4, .int _), (5, .int _)]) [0, 1, 2, 3, 4, 5] rfl ?_
  exact b_X6_hexagon_121 C _ hk28 _ _ _ _ _ _ _  _ _ _ h
def f_X6_hexagon_85 (k28 : Int32 → Int32 → Int32 → Int32 → Int32 → St → Option (Int32 × St)) (x1 : Int32) (x2 : Int32) (x3 : Int32) (x4 : Int32) (x5 : Int32) (x6 : Int32) (s1 : Int32) (s2 : Int32) (σ : St) : Option (Int32 × St) :=
  wrZ σ 27 s1 s2 fun σ1 =>
  if (x6 + (1 : Int32)) < x3 then
    f_X6_hexagon_120 k28 x1 x2 x3 x4 x5 (((2 : Int32) * x5) + (1 : Int32)) σ1
  else
    if ((x1 + x2) + x3) < (x6 + (2 : Int32)) then
      f_X6_hexagon_120 k28 x1 x2 x3 x4 x5 (((2 : Int32) * x5) + (1 : Int32)) σ1
    else
      f_X6_hexagon_121 k28 x1 x2 x3 x4 x5 (((2 : Int32) * x5) + (1 : Int32)) (1 : Int32) σ1
set_option maxRecDepth 100000 in
set_option maxHeartbeats 4000000 in
theorem b_X6_hexagon_85 {g : Geo} {x : Cx} (C : Ok g x cX6_hexagon RX6 7 (some .int) rm_X6_hexagon) (k28 : Int32 → Int32 → Int32 → Int32 → Int32 → St → Option (Int32 × St)) (hk28 : ∀ (x1 : Int32) (x2 : Int32) (x3 : Int32) (x4 : Int32) (x5 : Int32) (τ : St) (r : Int32) (τ' : St), k28 x1 x2 x3 x4 x5 τ = some (r, τ') → V g x (qm g x (some (.int r)) τ') 7 τ [(0, .ref (g.1 26)), (1, .int x1), (2, .int x2), (3, .int x3), (4, .int x4), (5, .int x5)] [] 28) : ∀ (x1 : Int32) (x2 : Int32) (x3 : Int32) (x4 : Int32) (x5 : Int32) (x6 : Int32) (s1 : Int32) (s2 : Int32) (σ : St) (r : Int32) (σ' : St), f_X6_hexagon_85 k28 x1 x2 x3 x4 x5 x6 s1 s2 σ = some (r, σ') → V g x (qm g x (some (.int r)) σ') 7 σ [(0, .ref (g.1 26)), (1, .int x1), (2, .int x2), (3, .int x3), (4, .int x4), (5, .int x5), (6, .int x6)] [.int s2, .int s1, .ref (g.1 27)] 85 := by
  intro x1 x2 x3 x4 x5 x6 s1 s2 σ r σ' h
  unfold f_X6_hexagon_85 at h
  obtain ⟨nσ1, σ1, eσ1, h⟩ := wrZ_ex h
  refine x_zast C rfl nσ1 eσ1 dX6_hexagon_85 ?_
  refine v_aload_n C dX6_hexagon_86 rfl 0 rfl ?_
  refine v_getR C (p' := 27) fl_RX6_7 rfl rfl dX6_hexagon_87 ?_
  refine v_iconst C (v := (2 : Int32)) dX6_hexagon_90 (by decide) ?_
  refine v_iload C dX6_hexagon_91 5 rfl ?_
  refine v_imul C dX6_hexagon_93 ?_
  refine v_iconst C (v := (1 : Int32)) dX6_hexagon_94 (by decide) ?_
  refine v_iadd C dX6_hexagon_95 ?_
  refine v_iload C dX6_hexagon_96 6 rfl ?_
  refine v_iconst C (v := (1 : Int32)) dX6_hexagon_98 (by decide) ?_
  refine v_iadd C dX6_hexagon_99 ?_
  refine v_iload_n C dX6_hexagon_100 rfl 3 rfl ?_
  refine v_icmp_lt C (tgt := 120) dX6_hexagon_101 (by decide) (fun q3 => ?_) (fun q3 => ?_)
  · rw [if_pos q3] at h
    refine V.sub (lv' := [(0, .ref _), (1, .int _), (2, .int _), (3, .int _), (4, .int _), (5, .int _)]) [0, 1, 2, 3, 4, 5] rfl ?_
    exact b_X6_hexagon_120 C _ hk28 _ _ _ _ _ _  _ _ _ h
  · rw [if_neg q3] at h
    refine v_iload C dX6_hexagon_104 6 rfl ?_
    refine v_iconst C (v := (2 : Int32)) dX6_hexagon_106 (by decide) ?_
    refine v_iadd C dX6_hexagon_107 ?_
    refine v_iload_n C dX6_hexagon_108 rfl 1 rfl ?_
    refine v_iload_n C dX6_hexagon_109 rfl 2 rfl ?_
    refine v_iadd C dX6_hexagon_110 ?_
    refine v_iload_n C dX6_hexagon_111 rfl 3 rfl ?_
    refine v_iadd C dX6_hexagon_112 ?_
    refine v_icmp_gt C (tgt := 120) dX6_hexagon_113 (by decide) (fun q2 => ?_) (fun q2 => ?_)
    · rw [if_pos q2] at h
      refine V.sub (lv' := [(0, .ref _), (1, .int _), (2, .int _), (3, .int _), (4, .int _), (5, .int _)]) [0, 1, 2, 3, 4, 5] rfl ?_
      exact b_X6_hexagon_120 C _ hk28 _ _ _ _ _ _  _ _ _ h
    · rw [if_neg q2] at h
      refine v_iconst C (v := (1 : Int32)) dX6_hexagon_116 (by decide) ?_
      refine v_goto C (tgt := 121) dX6_hexagon_117 (by decide) ?_
      refine V.sub (lv' := [(0, .ref _), (1, .int _), (2, .int _), (3, .int _), (4, .int _), (5, .int _)]) [0, 1, 2, 3, 4, 5] rfl ?_
      exact b_X6_hexagon_121 C _ hk28 _ _ _ _ _ _ _  _ _ _ h
def f_X6_hexagon_84 (k28 : Int32 → Int32 → Int32 → Int32 → Int32 → St → Option (Int32 × St)) (x1 : Int32) (x2 : Int32) (x3 : Int32) (x4 : Int32) (x5 : Int32) (x6 : Int32) (s1 : Int32) (σ : St) : Option (Int32 × St) :=
  f_X6_hexagon_85 k28 x1 x2 x3 x4 x5 x6 s1 (0 : Int32) σ
set_option maxRecDepth 100000 in
set_option maxHeartbeats 4000000 in
theorem b_X6_hexagon_84 {g : Geo} {x : Cx} (C : Ok g x cX6_hexagon RX6 7 (some .int) rm_X6_hexagon) (k28 : Int32 → Int32 → Int32 → Int32 → Int32 → St → Option (Int32 × St)) (hk28 : ∀ (x1 : Int32) (x2 : Int32) (x3 : Int32) (x4 : Int32) (x5 : Int32) (τ : St) (r : Int32) (τ' : St), k28 x1 x2 x3 x4 x5 τ = some (r, τ') → V g x (qm g x (some (.int r)) τ') 7 τ [(0, .ref (g.1 26)), (1, .int x1), (2, .int x2), (3, .int x3), (4, .int x4), (5, .int x5)] [] 28) : ∀ (x1 : Int32) (x2 : Int32) (x3 : Int32) (x4 : Int32) (x5 : Int32) (x6 : Int32) (s1 : Int32) (σ : St) (r : Int32) (σ' : St), f_X6_hexagon_84 k28 x1 x2 x3 x4 x5 x6 s1 σ = some (r, σ') → V g x (qm g x (some (.int r)) σ') 7 σ [(0, .ref (g.1 26)), (1, .int x1), (2, .int x2), (3, .int x3), (4, .int x4), (5, .int x5), (6, .int x6)] [.int s1, .ref (g.1 27)] 84 := by
  intro x1 x2 x3 x4 x5 x6 s1 σ r σ' h
  unfold f_X6_hexagon_84 at h
  refine v_iconst C (v := (0 : Int32)) dX6_hexagon_84 (by decide) ?_
  refine V.sub (lv' := [(0, .ref _), (1, .int _), (2, .int _), (3, .int _), (4, .int _), (5, .int _), (6, .int _)]) [0, 1, 2, 3, 4, 5, 6] rfl ?_
  exact b_X6_hexagon_85 C _ hk28 _ _ _ _ _ _ _ _  _ _ _ h
def f_X6_hexagon_28 : Nat → Int32 → Int32 → Int32 → Int32 → Int32 → St → Option (Int32 × St)
  | 0, _, _, _, _, _, _ => none
  | n + 1, x1, x2, x3, x4, x5, σ =>
    bd (f_X6_cells σ) fun v1 σ2 =>
    if v1 ≤ x5 then
      some (x4, σ2)
    else
      rmI x5 (gi σ2 26 0) fun v3 =>
      dvI x5 (gi σ2 26 0) fun v4 =>
      if (v3 + v4) < x3 then
        f_X6_hexagon_84 (f_X6_hexagon_28 n) x1 x2 x3 x4 x5 (v3 + v4) ((2 : Int32) * x5) σ2
      else
        if ((x1 + x2) + x3) < ((v3 + v4) + (1 : Int32)) then
          f_X6_hexagon_84 (f_X6_hexagon_28 n) x1 x2 x3 x4 x5 (v3 + v4) ((2 : Int32) * x5) σ2
        else
          f_X6_hexagon_85 (f_X6_hexagon_28 n) x1 x2 x3 x4 x5 (v3 + v4) ((2 : Int32) * x5) (1 : Int32) σ2
set_option maxRecDepth 100000 in
set_option maxHeartbeats 4000000 in
theorem b_X6_hexagon_28 {g : Geo} {x : Cx} (C : Ok g x cX6_hexagon RX6 7 (some .int) rm_X6_hexagon) : ∀ (n : Nat) (x1 : Int32) (x2 : Int32) (x3 : Int32) (x4 : Int32) (x5 : Int32) (σ : St) (r : Int32) (σ' : St), f_X6_hexagon_28 n x1 x2 x3 x4 x5 σ = some (r, σ') → V g x (qm g x (some (.int r)) σ') 7 σ [(0, .ref (g.1 26)), (1, .int x1), (2, .int x2), (3, .int x3), (4, .int x4), (5, .int x5)] [] 28 := by
  intro n
  induction n with
  | zero =>
    intro x1 x2 x3 x4 x5 σ r σ' h
    rw [f_X6_hexagon_28] at h
    cases h
  | succ n ih =>
    intro x1 x2 x3 x4 x5 σ r σ' h
    rw [f_X6_hexagon_28] at h
    refine v_iload C dX6_hexagon_28 5 rfl ?_
    refine v_aload_n C dX6_hexagon_30 rfl 0 rfl ?_
    obtain ⟨v1, σ2, cσ2, h⟩ := bd_some h
    refine callVi C (c_X6_cells cσ2) km_X6_cells kv_X6_cells rfl ml_RX6_80 rfl rfl (by decide) (Nat.le_of_ble_eq_true rfl) dX6_hexagon_31 ?_
    refine v_icmp_ge C (tgt := 170) dX6_hexagon_34 (by decide) (fun q7 => ?_) (fun q7 => ?_)
    · rw [if_pos q7] at h
      refine v_iload C dX6_hexagon_170 4 rfl ?_
      cases h
      exact v_iret C dX6_hexagon_172
    · rw [if_neg q7] at h
      refine v_iload C dX6_hexagon_37 5 rfl ?_
      refine v_aload_n C dX6_hexagon_39 rfl 0 rfl ?_
      refine v_getI C fl_RX6_70 rfl dX6_hexagon_40 ?_
      obtain ⟨nv3, v3, ev3, h⟩ := rmI_ex h
      refine x_irem C nv3 ev3 dX6_hexagon_43 ?_
      refine v_iload C dX6_hexagon_44 5 rfl ?_
      refine v_aload_n C dX6_hexagon_46 rfl 0 rfl ?_
      refine v_getI C fl_RX6_70 rfl dX6_hexagon_47 ?_
      obtain ⟨nv4, v4, ev4, h⟩ := dvI_ex h
      refine x_idiv C nv4 ev4 dX6_hexagon_50 ?_
      refine v_iadd C dX6_hexagon_51 ?_
      refine v_istore C (lv' := [(6, .int _), (0, .ref _), (1, .int _), (2, .int _), (3, .int _), (4, .int _), (5, .int _)]) dX6_hexagon_52 (by decide) rfl ?_
      refine v_aload_n C dX6_hexagon_54 rfl 1 rfl ?_
      refine v_getR C (p' := 27) fl_RX6_7 rfl rfl dX6_hexagon_55 ?_
      refine v_iconst C (v := (2 : Int32)) dX6_hexagon_58 (by decide) ?_
      refine v_iload C dX6_hexagon_59 6 rfl ?_
      refine v_imul C dX6_hexagon_61 ?_
      refine v_iload C dX6_hexagon_62 0 rfl ?_
      refine v_iload_n C dX6_hexagon_64 rfl 4 rfl ?_
      refine v_icmp_lt C (tgt := 84) dX6_hexagon_65 (by decide) (fun q6 => ?_) (fun q6 => ?_)
      · rw [if_pos q6] at h
        refine V.sub (lv' := [(0, .ref _), (1, .int _), (2, .int _), (3, .int _), (4, .int _), (5, .int _), (6, .int _)]) [1, 2, 3, 4, 5, 6, 0] rfl ?_
        exact b_X6_hexagon_84 C _ ih _ _ _ _ _ _ _  _ _ _ h
      · rw [if_neg q6] at h
        refine v_iload C dX6_hexagon_68 0 rfl ?_
        refine v_iconst C (v := (1 : Int32)) dX6_hexagon_70 (by decide) ?_
        refine v_iadd C dX6_hexagon_71 ?_
        refine v_iload_n C dX6_hexagon_72 rfl 2 rfl ?_
        refine v_iload_n C dX6_hexagon_73 rfl 3 rfl ?_
        refine v_iadd C dX6_hexagon_74 ?_
        refine v_iload_n C dX6_hexagon_75 rfl 4 rfl ?_
        refine v_iadd C dX6_hexagon_76 ?_
        refine v_icmp_gt C (tgt := 84) dX6_hexagon_77 (by decide) (fun q5 => ?_) (fun q5 => ?_)
        · rw [if_pos q5] at h
          refine V.sub (lv' := [(0, .ref _), (1, .int _), (2, .int _), (3, .int _), (4, .int _), (5, .int _), (6, .int _)]) [1, 2, 3, 4, 5, 6, 0] rfl ?_
          exact b_X6_hexagon_84 C _ ih _ _ _ _ _ _ _  _ _ _ h
        · rw [if_neg q5] at h
          refine v_iconst C (v := (1 : Int32)) dX6_hexagon_80 (by decide) ?_
          refine v_goto C (tgt := 85) dX6_hexagon_81 (by decide) ?_
          refine V.sub (lv' := [(0, .ref _), (1, .int _), (2, .int _), (3, .int _), (4, .int _), (5, .int _), (6, .int _)]) [1, 2, 3, 4, 5, 6, 0] rfl ?_
          exact b_X6_hexagon_85 C _ ih _ _ _ _ _ _ _ _  _ _ _ h
def f_X6_hexagon (a1 : Int32) (a2 : Int32) (a3 : Int32) (σ : St) : Option (Int32 × St) :=
  bd (f_X6_isHexagon a1 a2 a3 σ) fun v1 σ2 =>
  if v1 = 0 then
    some ((-900002 : Int32), σ2)
  else
    bd (f_X6_layGround (a1 + a3) (a2 + a3) σ2) fun _ σ4 =>
    f_X6_hexagon_28 FU a1 a2 a3 (0 : Int32) (0 : Int32) σ4
set_option maxRecDepth 100000 in
set_option maxHeartbeats 4000000 in
theorem c_X6_hexagon {g : Geo} {a1 : Int32} {a2 : Int32} {a3 : Int32} {σ : St} {r : Int32} {σ' : St} (h : f_X6_hexagon a1 a2 a3 σ = some (r, σ')) : Ct g yX6_hexagon cX6_hexagon 7 (some .int) rm_X6_hexagon [.ref (g.1 26), .int a1, .int a2, .int a3] σ (some (.int r)) σ' := by
  refine ct_of (own := RX6) (by decide) rfl (Nat.le_of_ble_eq_true rfl) (fun x C => ?_) ⟨rfl, rfl⟩
  show V g x _ 7 σ [(0, .ref (g.1 26)), (1, .int a1), (2, .int a2), (3, .int a3)] [] 0
  unfold f_X6_hexagon at h
  refine v_iload_n C dX6_hexagon_0 rfl 1 rfl ?_
  refine v_iload_n C dX6_hexagon_1 rfl 2 rfl ?_
  refine v_iload_n C dX6_hexagon_2 rfl 3 rfl ?_
  obtain ⟨v1, σ2, cσ2, h⟩ := bd_some h
  refine callSi C (c_X6_isHexagon cσ2) km_X6_isHexagon ks_X6_isHexagon ml_RX6_93 rfl rfl (by decide) (Nat.le_of_ble_eq_true rfl) dX6_hexagon_3 ?_
  refine v_if_ne C (tgt := 12) dX6_hexagon_6 (by decide) (fun q5 => ?_) (fun q5 => ?_)
  · rw [if_neg q5] at h
    refine v_aload_n C dX6_hexagon_12 rfl 0 rfl ?_
    refine v_iload_n C dX6_hexagon_13 rfl 1 rfl ?_
    refine v_iload_n C dX6_hexagon_14 rfl 3 rfl ?_
    refine v_iadd C dX6_hexagon_15 ?_
    refine v_iload_n C dX6_hexagon_16 rfl 2 rfl ?_
    refine v_iload_n C dX6_hexagon_17 rfl 3 rfl ?_
    refine v_iadd C dX6_hexagon_18 ?_
    obtain ⟨v3, σ4, cσ4, h⟩ := bd_some h
    refine callVv C (c_X6_layGround cσ4) km_X6_layGround kv_X6_layGround rfl ml_RX6_66 rfl rfl (by decide) (Nat.le_of_ble_eq_true rfl) dX6_hexagon_19 ?_
    refine v_iconst C (v := (0 : Int32)) dX6_hexagon_22 (by decide) ?_
    refine v_istore C (lv' := [(4, .int _), (0, .ref _), (1, .int _), (2, .int _), (3, .int _)]) dX6_hexagon_23 (by decide) rfl ?_
    refine v_iconst C (v := (0 : Int32)) dX6_hexagon_25 (by decide) ?_
    refine v_istore C (lv' := [(5, .int _), (4, .int _), (0, .ref _), (1, .int _), (2, .int _), (3, .int _)]) dX6_hexagon_26 (by decide) rfl ?_
    refine V.sub (lv' := [(0, .ref _), (1, .int _), (2, .int _), (3, .int _), (4, .int _), (5, .int _)]) [2, 3, 4, 5, 1, 0] rfl ?_
    exact b_X6_hexagon_28 C FU _ _ _ _ _  _ _ _ h
  · rw [if_pos q5] at h
    refine v_ldc C (v := (-900002 : Int32)) con_RX6_90 dX6_hexagon_9 ?_
    cases h
    exact v_iret C dX6_hexagon_11
theorem dX6_set_0 : decode cX6_set 0 = .ok (.iload_n 1, 1) := by decide +kernel
theorem dX6_set_1 : decode cX6_set 1 = .ok (.i2l, 1) := by decide +kernel
theorem dX6_set_2 : decode cX6_set 2 = .ok (.lconst 0, 1) := by decide +kernel
theorem dX6_set_3 : decode cX6_set 3 = .ok (.iconst 2, 1) := by decide +kernel
theorem dX6_set_4 : decode cX6_set 4 = .ok (.aload_n 0, 1) := by decide +kernel
theorem dX6_set_5 : decode cX6_set 5 = .ok (.invokevirtual 80, 3) := by decide +kernel
theorem dX6_set_8 : decode cX6_set 8 = .ok (.imul, 1) := by decide +kernel
theorem dX6_set_9 : decode cX6_set 9 = .ok (.iconst 1, 1) := by decide +kernel
theorem dX6_set_10 : decode cX6_set 10 = .ok (.isub, 1) := by decide +kernel
theorem dX6_set_11 : decode cX6_set 11 = .ok (.i2l, 1) := by decide +kernel
theorem dX6_set_12 : decode cX6_set 12 = .ok (.invokestatic 84, 3) := by decide +kernel
theorem dX6_set_15 : decode cX6_set 15 = .ok (.ifCond .ne 6, 3) := by decide +kernel
theorem dX6_set_18 : decode cX6_set 18 = .ok (.ldc 97, 2) := by decide +kernel
theorem dX6_set_20 : decode cX6_set 20 = .ok (.ireturn, 1) := by decide +kernel
theorem dX6_set_21 : decode cX6_set 21 = .ok (.aload_n 0, 1) := by decide +kernel
theorem dX6_set_22 : decode cX6_set 22 = .ok (.getfield 7, 3) := by decide +kernel
theorem dX6_set_25 : decode cX6_set 25 = .ok (.iload_n 1, 1) := by decide +kernel
theorem dX6_set_26 : decode cX6_set 26 = .ok (.baload, 1) := by decide +kernel
theorem dX6_set_27 : decode cX6_set 27 = .ok (.ifCond .eq 7, 3) := by decide +kernel
theorem dX6_set_30 : decode cX6_set 30 = .ok (.iconst 1, 1) := by decide +kernel
theorem dX6_set_31 : decode cX6_set 31 = .ok (.goto 4, 3) := by decide +kernel
theorem dX6_set_34 : decode cX6_set 34 = .ok (.iconst 0, 1) := by decide +kernel
theorem dX6_set_35 : decode cX6_set 35 = .ok (.istore_n 3, 1) := by decide +kernel
theorem dX6_set_36 : decode cX6_set 36 = .ok (.aload_n 0, 1) := by decide +kernel
theorem dX6_set_37 : decode cX6_set 37 = .ok (.getfield 7, 3) := by decide +kernel
theorem dX6_set_40 : decode cX6_set 40 = .ok (.iload_n 1, 1) := by decide +kernel
theorem dX6_set_41 : decode cX6_set 41 = .ok (.baload, 1) := by decide +kernel
theorem dX6_set_42 : decode cX6_set 42 = .ok (.iload_n 2, 1) := by decide +kernel
theorem dX6_set_43 : decode cX6_set 43 = .ok (.if_icmp .eq 14, 3) := by decide +kernel
theorem dX6_set_46 : decode cX6_set 46 = .ok (.aload_n 0, 1) := by decide +kernel
theorem dX6_set_47 : decode cX6_set 47 = .ok (.getfield 7, 3) := by decide +kernel
theorem dX6_set_50 : decode cX6_set 50 = .ok (.iload_n 1, 1) := by decide +kernel
theorem dX6_set_51 : decode cX6_set 51 = .ok (.iload_n 2, 1) := by decide +kernel
theorem dX6_set_52 : decode cX6_set 52 = .ok (.bastore, 1) := by decide +kernel
theorem dX6_set_53 : decode cX6_set 53 = .ok (.aload_n 0, 1) := by decide +kernel
theorem dX6_set_54 : decode cX6_set 54 = .ok (.invokevirtual 77, 3) := by decide +kernel
theorem dX6_set_57 : decode cX6_set 57 = .ok (.iload_n 3, 1) := by decide +kernel
theorem dX6_set_58 : decode cX6_set 58 = .ok (.ireturn, 1) := by decide +kernel
def f_X6_set_57 (x3 : Int32) (σ : St) : Option (Int32 × St) :=
  some (x3, σ)
set_option maxRecDepth 100000 in
set_option maxHeartbeats 4000000 in
theorem b_X6_set_57 {g : Geo} {x : Cx} (C : Ok g x cX6_set RX6 4 (some .int) rm_X6_set) : ∀ (x3 : Int32) (σ : St) (r : Int32) (σ' : St), f_X6_set_57 x3 σ = some (r, σ') → V g x (qm g x (some (.int r)) σ') 4 σ [(3, .int x3)] [] 57 := by
  intro x3 σ r σ' h
  unfold f_X6_set_57 at h
  refine v_iload_n C dX6_set_57 rfl 0 rfl ?_
  cases h
  exact v_iret C dX6_set_58
def f_X6_set_35 (x1 : Int32) (x2 : Int32) (s0 : Int32) (σ : St) : Option (Int32 × St) :=
  rdI σ 27 x1 fun v1 =>
  if v1 = x2 then
    f_X6_set_57 s0 σ
  else
    wrZ σ 27 x1 x2 fun σ2 =>
    bd (f_X6_empty σ2) fun _ σ4 =>
    f_X6_set_57 s0 σ4
set_option maxRecDepth 100000 in
set_option maxHeartbeats 4000000 in
theorem b_X6_set_35 {g : Geo} {x : Cx} (C : Ok g x cX6_set RX6 4 (some .int) rm_X6_set) : ∀ (x1 : Int32) (x2 : Int32) (s0 : Int32) (σ : St) (r : Int32) (σ' : St), f_X6_set_35 x1 x2 s0 σ = some (r, σ') → V g x (qm g x (some (.int r)) σ') 4 σ [(0, .ref (g.1 26)), (1, .int x1), (2, .int x2)] [.int s0] 35 := by
  intro x1 x2 s0 σ r σ' h
  unfold f_X6_set_35 at h
  refine v_istore_n C (lv' := [(3, .int _), (0, .ref _), (1, .int _), (2, .int _)]) dX6_set_35 rfl (by decide) rfl ?_
  refine v_aload_n C dX6_set_36 rfl 1 rfl ?_
  refine v_getR C (p' := 27) fl_RX6_7 rfl rfl dX6_set_37 ?_
  refine v_iload_n C dX6_set_40 rfl 2 rfl ?_
  obtain ⟨nv1, v1, ev1, h⟩ := rdI_ex h
  refine x_zald C rfl nv1 ev1 dX6_set_41 ?_
  refine v_iload_n C dX6_set_42 rfl 3 rfl ?_
  refine v_icmp_eq C (tgt := 57) dX6_set_43 (by decide) (fun q5 => ?_) (fun q5 => ?_)
  · rw [if_pos q5] at h
    refine V.sub (lv' := [(3, .int _)]) [0] rfl ?_
    exact b_X6_set_57 C _  _ _ _ h
  · rw [if_neg q5] at h
    refine v_aload_n C dX6_set_46 rfl 1 rfl ?_
    refine v_getR C (p' := 27) fl_RX6_7 rfl rfl dX6_set_47 ?_
    refine v_iload_n C dX6_set_50 rfl 2 rfl ?_
    refine v_iload_n C dX6_set_51 rfl 3 rfl ?_
    obtain ⟨nσ2, σ2, eσ2, h⟩ := wrZ_ex h
    refine x_zast C rfl nσ2 eσ2 dX6_set_52 ?_
    refine v_aload_n C dX6_set_53 rfl 1 rfl ?_
    obtain ⟨v3, σ4, cσ4, h⟩ := bd_some h
    refine callVv C (c_X6_empty cσ4) km_X6_empty kv_X6_empty rfl ml_RX6_77 rfl rfl (by decide) (Nat.le_of_ble_eq_true rfl) dX6_set_54 ?_
    refine V.sub (lv' := [(3, .int _)]) [0] rfl ?_
    exact b_X6_set_57 C _  _ _ _ h
def f_X6_set (a1 : Int32) (a2 : Int32) (σ : St) : Option (Int32 × St) :=
  bd (f_X6_cells σ) fun v1 σ2 =>
  bd (f_X6_in ((a1).toInt64) (0 : Int64) (((((2 : Int32) * v1) - (1 : Int32))).toInt64) σ2) fun v3 σ4 =>
  if v3 = 0 then
    some ((-900001 : Int32), σ4)
  else
    rdI σ4 27 a1 fun v5 =>
    if v5 = 0 then
      f_X6_set_35 a1 a2 (0 : Int32) σ4
    else
      f_X6_set_35 a1 a2 (1 : Int32) σ4
set_option maxRecDepth 100000 in
set_option maxHeartbeats 4000000 in
theorem c_X6_set {g : Geo} {a1 : Int32} {a2 : Int32} {σ : St} {r : Int32} {σ' : St} (h : f_X6_set a1 a2 σ = some (r, σ')) : Ct g yX6_set cX6_set 4 (some .int) rm_X6_set [.ref (g.1 26), .int a1, .int a2] σ (some (.int r)) σ' := by
  refine ct_of (own := RX6) (by decide) rfl (Nat.le_of_ble_eq_true rfl) (fun x C => ?_) ⟨rfl, rfl⟩
  show V g x _ 4 σ [(0, .ref (g.1 26)), (1, .int a1), (2, .int a2)] [] 0
  unfold f_X6_set at h
  refine v_iload_n C dX6_set_0 rfl 1 rfl ?_
  refine v_i2l C dX6_set_1 ?_
  refine v_lconst C (v := (0 : Int64)) dX6_set_2 (by decide) ?_
  refine v_iconst C (v := (2 : Int32)) dX6_set_3 (by decide) ?_
  refine v_aload_n C dX6_set_4 rfl 0 rfl ?_
  obtain ⟨v1, σ2, cσ2, h⟩ := bd_some h
  refine callVi C (c_X6_cells cσ2) km_X6_cells kv_X6_cells rfl ml_RX6_80 rfl rfl (by decide) (Nat.le_of_ble_eq_true rfl) dX6_set_5 ?_
  refine v_imul C dX6_set_8 ?_
  refine v_iconst C (v := (1 : Int32)) dX6_set_9 (by decide) ?_
  refine v_isub C dX6_set_10 ?_
  refine v_i2l C dX6_set_11 ?_
  obtain ⟨v3, σ4, cσ4, h⟩ := bd_some h
  refine callSi C (c_X6_in cσ4) km_X6_in ks_X6_in ml_RX6_84 rfl rfl (by decide) (Nat.le_of_ble_eq_true rfl) dX6_set_12 ?_
  refine v_if_ne C (tgt := 21) dX6_set_15 (by decide) (fun q7 => ?_) (fun q7 => ?_)
  · rw [if_neg q7] at h
    refine v_aload_n C dX6_set_21 rfl 0 rfl ?_
    refine v_getR C (p' := 27) fl_RX6_7 rfl rfl dX6_set_22 ?_
    refine v_iload_n C dX6_set_25 rfl 1 rfl ?_
    obtain ⟨nv5, v5, ev5, h⟩ := rdI_ex h
    refine x_zald C rfl nv5 ev5 dX6_set_26 ?_
    refine v_if_eq C (tgt := 34) dX6_set_27 (by decide) (fun q6 => ?_) (fun q6 => ?_)
    · rw [if_pos q6] at h
      refine v_iconst C (v := (0 : Int32)) dX6_set_34 (by decide) ?_
      refine V.sub (lv' := [(0, .ref _), (1, .int _), (2, .int _)]) [0, 1, 2] rfl ?_
      exact b_X6_set_35 C _ _ _  _ _ _ h
    · rw [if_neg q6] at h
      refine v_iconst C (v := (1 : Int32)) dX6_set_30 (by decide) ?_
      refine v_goto C (tgt := 35) dX6_set_31 (by decide) ?_
      refine V.sub (lv' := [(0, .ref _), (1, .int _), (2, .int _)]) [0, 1, 2] rfl ?_
      exact b_X6_set_35 C _ _ _  _ _ _ h
  · rw [if_pos q7] at h
    refine v_ldc C (v := (-900001 : Int32)) con_RX6_97 dX6_set_18 ?_
    cases h
    exact v_iret C dX6_set_20
theorem dX6_isIn_0 : decode cX6_isIn 0 = .ok (.iload_n 1, 1) := by decide +kernel
theorem dX6_isIn_1 : decode cX6_isIn 1 = .ok (.i2l, 1) := by decide +kernel
theorem dX6_isIn_2 : decode cX6_isIn 2 = .ok (.lconst 0, 1) := by decide +kernel
theorem dX6_isIn_3 : decode cX6_isIn 3 = .ok (.iconst 2, 1) := by decide +kernel
theorem dX6_isIn_4 : decode cX6_isIn 4 = .ok (.aload_n 0, 1) := by decide +kernel
theorem dX6_isIn_5 : decode cX6_isIn 5 = .ok (.invokevirtual 80, 3) := by decide +kernel
theorem dX6_isIn_8 : decode cX6_isIn 8 = .ok (.imul, 1) := by decide +kernel
theorem dX6_isIn_9 : decode cX6_isIn 9 = .ok (.iconst 1, 1) := by decide +kernel
theorem dX6_isIn_10 : decode cX6_isIn 10 = .ok (.isub, 1) := by decide +kernel
theorem dX6_isIn_11 : decode cX6_isIn 11 = .ok (.i2l, 1) := by decide +kernel
theorem dX6_isIn_12 : decode cX6_isIn 12 = .ok (.invokestatic 84, 3) := by decide +kernel
theorem dX6_isIn_15 : decode cX6_isIn 15 = .ok (.ifCond .ne 8, 3) := by decide +kernel
theorem dX6_isIn_18 : decode cX6_isIn 18 = .ok (.ldc 97, 2) := by decide +kernel
theorem dX6_isIn_20 : decode cX6_isIn 20 = .ok (.goto 17, 3) := by decide +kernel
theorem dX6_isIn_23 : decode cX6_isIn 23 = .ok (.aload_n 0, 1) := by decide +kernel
theorem dX6_isIn_24 : decode cX6_isIn 24 = .ok (.getfield 7, 3) := by decide +kernel
theorem dX6_isIn_27 : decode cX6_isIn 27 = .ok (.iload_n 1, 1) := by decide +kernel
theorem dX6_isIn_28 : decode cX6_isIn 28 = .ok (.baload, 1) := by decide +kernel
theorem dX6_isIn_29 : decode cX6_isIn 29 = .ok (.ifCond .eq 7, 3) := by decide +kernel
theorem dX6_isIn_32 : decode cX6_isIn 32 = .ok (.iconst 1, 1) := by decide +kernel
theorem dX6_isIn_33 : decode cX6_isIn 33 = .ok (.goto 4, 3) := by decide +kernel
theorem dX6_isIn_36 : decode cX6_isIn 36 = .ok (.iconst 0, 1) := by decide +kernel
theorem dX6_isIn_37 : decode cX6_isIn 37 = .ok (.ireturn, 1) := by decide +kernel
def f_X6_isIn_37 (s0 : Int32) (σ : St) : Option (Int32 × St) :=
  some (s0, σ)
set_option maxRecDepth 100000 in
set_option maxHeartbeats 4000000 in
theorem b_X6_isIn_37 {g : Geo} {x : Cx} (C : Ok g x cX6_isIn RX6 2 (some .int) rm_X6_isIn) : ∀ (s0 : Int32) (σ : St) (r : Int32) (σ' : St), f_X6_isIn_37 s0 σ = some (r, σ') → V g x (qm g x (some (.int r)) σ') 2 σ [] [.int s0] 37 := by
  intro s0 σ r σ' h
  unfold f_X6_isIn_37 at h
  cases h
  exact v_iret C dX6_isIn_37
def f_X6_isIn (a1 : Int32) (σ : St) : Option (Int32 × St) :=
  bd (f_X6_cells σ) fun v1 σ2 =>
  bd (f_X6_in ((a1).toInt64) (0 : Int64) (((((2 : Int32) * v1) - (1 : Int32))).toInt64) σ2) fun v3 σ4 =>
  if v3 = 0 then
    f_X6_isIn_37 (-900001 : Int32) σ4
  else
    rdI σ4 27 a1 fun v5 =>
    if v5 = 0 then
      f_X6_isIn_37 (0 : Int32) σ4
    else
      f_X6_isIn_37 (1 : Int32) σ4
set_option maxRecDepth 100000 in
set_option maxHeartbeats 4000000 in
theorem c_X6_isIn {g : Geo} {a1 : Int32} {σ : St} {r : Int32} {σ' : St} (h : f_X6_isIn a1 σ = some (r, σ')) : Ct g yX6_isIn cX6_isIn 2 (some .int) rm_X6_isIn [.ref (g.1 26), .int a1] σ (some (.int r)) σ' := by
  refine ct_of (own := RX6) (by decide) rfl (Nat.le_of_ble_eq_true rfl) (fun x C => ?_) ⟨rfl, rfl⟩
  show V g x _ 2 σ [(0, .ref (g.1 26)), (1, .int a1)] [] 0
  unfold f_X6_isIn at h
  refine v_iload_n C dX6_isIn_0 rfl 1 rfl ?_
  refine v_i2l C dX6_isIn_1 ?_
  refine v_lconst C (v := (0 : Int64)) dX6_isIn_2 (by decide) ?_
  refine v_iconst C (v := (2 : Int32)) dX6_isIn_3 (by decide) ?_
  refine v_aload_n C dX6_isIn_4 rfl 0 rfl ?_
  obtain ⟨v1, σ2, cσ2, h⟩ := bd_some h
  refine callVi C (c_X6_cells cσ2) km_X6_cells kv_X6_cells rfl ml_RX6_80 rfl rfl (by decide) (Nat.le_of_ble_eq_true rfl) dX6_isIn_5 ?_
  refine v_imul C dX6_isIn_8 ?_
  refine v_iconst C (v := (1 : Int32)) dX6_isIn_9 (by decide) ?_
  refine v_isub C dX6_isIn_10 ?_
  refine v_i2l C dX6_isIn_11 ?_
  obtain ⟨v3, σ4, cσ4, h⟩ := bd_some h
  refine callSi C (c_X6_in cσ4) km_X6_in ks_X6_in ml_RX6_84 rfl rfl (by decide) (Nat.le_of_ble_eq_true rfl) dX6_isIn_12 ?_
  refine v_if_ne C (tgt := 23) dX6_isIn_15 (by decide) (fun q7 => ?_) (fun q7 => ?_)
  · rw [if_neg q7] at h
    refine v_aload_n C dX6_isIn_23 rfl 0 rfl ?_
    refine v_getR C (p' := 27) fl_RX6_7 rfl rfl dX6_isIn_24 ?_
    refine v_iload_n C dX6_isIn_27 rfl 1 rfl ?_
    obtain ⟨nv5, v5, ev5, h⟩ := rdI_ex h
    refine x_zald C rfl nv5 ev5 dX6_isIn_28 ?_
    refine v_if_eq C (tgt := 36) dX6_isIn_29 (by decide) (fun q6 => ?_) (fun q6 => ?_)
    · rw [if_pos q6] at h
      refine v_iconst C (v := (0 : Int32)) dX6_isIn_36 (by decide) ?_
      refine V.sub (lv' := []) [] rfl ?_
      exact b_X6_isIn_37 C _  _ _ _ h
    · rw [if_neg q6] at h
      refine v_iconst C (v := (1 : Int32)) dX6_isIn_32 (by decide) ?_
      refine v_goto C (tgt := 37) dX6_isIn_33 (by decide) ?_
      refine V.sub (lv' := []) [] rfl ?_
      exact b_X6_isIn_37 C _  _ _ _ h
  · rw [if_pos q7] at h
    refine v_ldc C (v := (-900001 : Int32)) con_RX6_97 dX6_isIn_18 ?_
    refine v_goto C (tgt := 37) dX6_isIn_20 (by decide) ?_
    refine V.sub (lv' := []) [] rfl ?_
    exact b_X6_isIn_37 C _  _ _ _ h
theorem dX6_count_0 : decode cX6_count 0 = .ok (.iconst 0, 1) := by decide +kernel
theorem dX6_count_1 : decode cX6_count 1 = .ok (.istore_n 2, 1) := by decide +kernel
theorem dX6_count_2 : decode cX6_count 2 = .ok (.iconst 0, 1) := by decide +kernel
theorem dX6_count_3 : decode cX6_count 3 = .ok (.istore_n 3, 1) := by decide +kernel
theorem dX6_count_4 : decode cX6_count 4 = .ok (.iload_n 3, 1) := by decide +kernel
theorem dX6_count_5 : decode cX6_count 5 = .ok (.aload_n 0, 1) := by decide +kernel
theorem dX6_count_6 : decode cX6_count 6 = .ok (.invokevirtual 80, 3) := by decide +kernel
theorem dX6_count_9 : decode cX6_count 9 = .ok (.if_icmp .ge 38, 3) := by decide +kernel
theorem dX6_count_12 : decode cX6_count 12 = .ok (.iload_n 2, 1) := by decide +kernel
theorem dX6_count_13 : decode cX6_count 13 = .ok (.aload_n 0, 1) := by decide +kernel
theorem dX6_count_14 : decode cX6_count 14 = .ok (.getfield 7, 3) := by decide +kernel
theorem dX6_count_17 : decode cX6_count 17 = .ok (.iconst 2, 1) := by decide +kernel
theorem dX6_count_18 : decode cX6_count 18 = .ok (.iload_n 3, 1) := by decide +kernel
theorem dX6_count_19 : decode cX6_count 19 = .ok (.imul, 1) := by decide +kernel
theorem dX6_count_20 : decode cX6_count 20 = .ok (.iload_n 1, 1) := by decide +kernel
theorem dX6_count_21 : decode cX6_count 21 = .ok (.ifCond .eq 7, 3) := by decide +kernel
theorem dX6_count_24 : decode cX6_count 24 = .ok (.iconst 0, 1) := by decide +kernel
theorem dX6_count_25 : decode cX6_count 25 = .ok (.goto 4, 3) := by decide +kernel
theorem dX6_count_28 : decode cX6_count 28 = .ok (.iconst 1, 1) := by decide +kernel
theorem dX6_count_29 : decode cX6_count 29 = .ok (.iadd, 1) := by decide +kernel
theorem dX6_count_30 : decode cX6_count 30 = .ok (.baload, 1) := by decide +kernel
theorem dX6_count_31 : decode cX6_count 31 = .ok (.ifCond .eq 7, 3) := by decide +kernel
theorem dX6_count_34 : decode cX6_count 34 = .ok (.iconst 1, 1) := by decide +kernel
theorem dX6_count_35 : decode cX6_count 35 = .ok (.goto 4, 3) := by decide +kernel
theorem dX6_count_38 : decode cX6_count 38 = .ok (.iconst 0, 1) := by decide +kernel
theorem dX6_count_39 : decode cX6_count 39 = .ok (.iadd, 1) := by decide +kernel
theorem dX6_count_40 : decode cX6_count 40 = .ok (.istore_n 2, 1) := by decide +kernel
theorem dX6_count_41 : decode cX6_count 41 = .ok (.iinc 3 1, 3) := by decide +kernel
theorem dX6_count_44 : decode cX6_count 44 = .ok (.goto (-40), 3) := by decide +kernel
theorem dX6_count_47 : decode cX6_count 47 = .ok (.iload_n 2, 1) := by decide +kernel
theorem dX6_count_48 : decode cX6_count 48 = .ok (.ireturn, 1) := by decide +kernel
def f_X6_count_39 (k4 : Int32 → Int32 → Int32 → St → Option (Int32 × St)) (x1 : Int32) (x3 : Int32) (s0 : Int32) (s1 : Int32) (σ : St) : Option (Int32 × St) :=
  k4 x1 (s0 + s1) (x3 + 1) σ
set_option maxRecDepth 100000 in
set_option maxHeartbeats 4000000 in
theorem b_X6_count_39 {g : Geo} {x : Cx} (C : Ok g x cX6_count RX6 4 (some .int) rm_X6_count) (k4 : Int32 → Int32 → Int32 → St → Option (Int32 × St)) (hk4 : ∀ (x1 : Int32) (x2 : Int32) (x3 : Int32) (τ : St) (r : Int32) (τ' : St), k4 x1 x2 x3 τ = some (r, τ') → V g x (qm g x (some (.int r)) τ') 4 τ [(0, .ref (g.1 26)), (1, .int x1), (2, .int x2), (3, .int x3)] [] 4) : ∀ (x1 : Int32) (x3 : Int32) (s0 : Int32) (s1 : Int32) (σ : St) (r : Int32) (σ' : St), f_X6_count_39 k4 x1 x3 s0 s1 σ = some (r, σ') → V g x (qm g x (some (.int r)) σ') 4 σ [(0, .ref (g.1 26)), (1, .int x1), (3, .int x3)] [.int s1, .int s0] 39 := by
  intro x1 x3 s0 s1 σ r σ' h
  unfold f_X6_count_39 at h
  refine v_iadd C dX6_count_39 ?_
  refine v_istore_n C (lv' := [(2, .int _), (0, .ref _), (1, .int _), (3, .int _)]) dX6_count_40 rfl (by decide) rfl ?_
  refine v_iinc C (v := (x3 + 1)) (lv' := [(3, .int _), (2, .int _), (0, .ref _), (1, .int _)]) dX6_count_41 3 rfl rfl (by decide) rfl ?_
  refine v_goto C (tgt := 4) dX6_count_44 (by decide) ?_
  refine V.sub (lv' := [(0, .ref _), (1, .int _), (2, .int _), (3, .int _)]) [2, 3, 1, 0] rfl ?_
  exact hk4 _ _ _  _ _ _ h
def f_X6_count_29 (k4 : Int32 → Int32 → Int32 → St → Option (Int32 × St)) (x1 : Int32) (x3 : Int32) (s0 : Int32) (s2 : Int32) (s3 : Int32) (σ : St) : Option (Int32 × St) :=
  rdI σ 27 (s2 + s3) fun v1 =>
  if v1 = 0 then
    f_X6_count_39 k4 x1 x3 s0 (0 : Int32) σ
  else
    f_X6_count_39 k4 x1 x3 s0 (1 : Int32) σ
set_option maxRecDepth 100000 in
set_option maxHeartbeats 4000000 in
theorem b_X6_count_29 {g : Geo} {x : Cx} (C : Ok g x cX6_count RX6 4 (some .int) rm_X6_count) (k4 : Int32 → Int32 → Int32 → St → Option (Int32 × St)) (hk4 : ∀ (x1 : Int32) (x2 : Int32) (x3 : Int32) (τ : St) (r : Int32) (τ' : St), k4 x1 x2 x3 τ = some (r, τ') → V g x (qm g x (some (.int r)) τ') 4 τ [(0, .ref (g.1 26)), (1, .int x1), (2, .int x2), (3, .int x3)] [] 4) : ∀ (x1 : Int32) (x3 : Int32) (s0 : Int32) (s2 : Int32) (s3 : Int32) (σ : St) (r : Int32) (σ' : St), f_X6_count_29 k4 x1 x3 s0 s2 s3 σ = some (r, σ') → V g x (qm g x (some (.int r)) σ') 4 σ [(0, .ref (g.1 26)), (1, .int x1), (3, .int x3)] [.int s3, .int s2, .ref (g.1 27), .int s0] 29 := by
  intro x1 x3 s0 s2 s3 σ r σ' h
  unfold f_X6_count_29 at h
  refine v_iadd C dX6_count_29 ?_
  obtain ⟨nv1, v1, ev1, h⟩ := rdI_ex h
  refine x_zald C rfl nv1 ev1 dX6_count_30 ?_
  refine v_if_eq C (tgt := 38) dX6_count_31 (by decide) (fun q2 => ?_) (fun q2 => ?_)
  · rw [if_pos q2] at h
    refine v_iconst C (v := (0 : Int32)) dX6_count_38 (by decide) ?_
    refine V.sub (lv' := [(0, .ref _), (1, .int _), (3, .int _)]) [0, 1, 2] rfl ?_
    exact b_X6_count_39 C _ hk4 _ _ _ _  _ _ _ h
  · rw [if_neg q2] at h
    refine v_iconst C (v := (1 : Int32)) dX6_count_34 (by decide) ?_
    refine v_goto C (tgt := 39) dX6_count_35 (by decide) ?_
    refine V.sub (lv' := [(0, .ref _), (1, .int _), (3, .int _)]) [0, 1, 2] rfl ?_
    exact b_X6_count_39 C _ hk4 _ _ _ _  _ _ _ h
def f_X6_count_4 : Nat → Int32 → Int32 → Int32 → St → Option (Int32 × St)
  | 0, _, _, _, _ => none
  | n + 1, x1, x2, x3, σ =>
    bd (f_X6_cells σ) fun v1 σ2 =>
    if v1 ≤ x3 then
      some (x2, σ2)
    else
      if x1 = 0 then
        f_X6_count_29 (f_X6_count_4 n) x1 x3 x2 ((2 : Int32) * x3) (1 : Int32) σ2
      else
        f_X6_count_29 (f_X6_count_4 n) x1 x3 x2 ((2 : Int32) * x3) (0 : Int32) σ2
set_option maxRecDepth 100000 in
set_option maxHeartbeats 4000000 in
theorem b_X6_count_4 {g : Geo} {x : Cx} (C : Ok g x cX6_count RX6 4 (some .int) rm_X6_count) : ∀ (n : Nat) (x1 : Int32) (x2 : Int32) (x3 : Int32) (σ : St) (r : Int32) (σ' : St), f_X6_count_4 n x1 x2 x3 σ = some (r, σ') → V g x (qm g x (some (.int r)) σ') 4 σ [(0, .ref (g.1 26)), (1, .int x1), (2, .int x2), (3, .int x3)] [] 4 := by
  intro n
  induction n with
  | zero =>
    intro x1 x2 x3 σ r σ' h
    rw [f_X6_count_4] at h
    cases h
  | succ n ih =>
    intro x1 x2 x3 σ r σ' h
    rw [f_X6_count_4] at h
    refine v_iload_n C dX6_count_4 rfl 3 rfl ?_
    refine v_aload_n C dX6_count_5 rfl 0 rfl ?_
    obtain ⟨v1, σ2, cσ2, h⟩ := bd_some h
    refine callVi C (c_X6_cells cσ2) km_X6_cells kv_X6_cells rfl ml_RX6_80 rfl rfl (by decide) (Nat.le_of_ble_eq_true rfl) dX6_count_6 ?_
    refine v_icmp_ge C (tgt := 47) dX6_count_9 (by decide) (fun q4 => ?_) (fun q4 => ?_)
    · rw [if_pos q4] at h
      refine v_iload_n C dX6_count_47 rfl 2 rfl ?_
      cases h
      exact v_iret C dX6_count_48
    · rw [if_neg q4] at h
      refine v_iload_n C dX6_count_12 rfl 2 rfl ?_
      refine v_aload_n C dX6_count_13 rfl 0 rfl ?_
      refine v_getR C (p' := 27) fl_RX6_7 rfl rfl dX6_count_14 ?_
      refine v_iconst C (v := (2 : Int32)) dX6_count_17 (by decide) ?_
      refine v_iload_n C dX6_count_18 rfl 3 rfl ?_
      refine v_imul C dX6_count_19 ?_
      refine v_iload_n C dX6_count_20 rfl 1 rfl ?_
      refine v_if_eq C (tgt := 28) dX6_count_21 (by decide) (fun q3 => ?_) (fun q3 => ?_)
      · rw [if_pos q3] at h
        refine v_iconst C (v := (1 : Int32)) dX6_count_28 (by decide) ?_
        refine V.sub (lv' := [(0, .ref _), (1, .int _), (3, .int _)]) [0, 1, 3] rfl ?_
        exact b_X6_count_29 C _ ih _ _ _ _ _  _ _ _ h
      · rw [if_neg q3] at h
        refine v_iconst C (v := (0 : Int32)) dX6_count_24 (by decide) ?_
        refine v_goto C (tgt := 29) dX6_count_25 (by decide) ?_
        refine V.sub (lv' := [(0, .ref _), (1, .int _), (3, .int _)]) [0, 1, 3] rfl ?_
        exact b_X6_count_29 C _ ih _ _ _ _ _  _ _ _ h
def f_X6_count (a1 : Int32) (σ : St) : Option (Int32 × St) :=
  f_X6_count_4 FU a1 (0 : Int32) (0 : Int32) σ
set_option maxRecDepth 100000 in
set_option maxHeartbeats 4000000 in
theorem c_X6_count {g : Geo} {a1 : Int32} {σ : St} {r : Int32} {σ' : St} (h : f_X6_count a1 σ = some (r, σ')) : Ct g yX6_count cX6_count 4 (some .int) rm_X6_count [.ref (g.1 26), .int a1] σ (some (.int r)) σ' := by
  refine ct_of (own := RX6) (by decide) rfl (Nat.le_of_ble_eq_true rfl) (fun x C => ?_) ⟨rfl, rfl⟩
  show V g x _ 4 σ [(0, .ref (g.1 26)), (1, .int a1)] [] 0
  unfold f_X6_count at h
  refine v_iconst C (v := (0 : Int32)) dX6_count_0 (by decide) ?_
  refine v_istore_n C (lv' := [(2, .int _), (0, .ref _), (1, .int _)]) dX6_count_1 rfl (by decide) rfl ?_
  refine v_iconst C (v := (0 : Int32)) dX6_count_2 (by decide) ?_
  refine v_istore_n C (lv' := [(3, .int _), (2, .int _), (0, .ref _), (1, .int _)]) dX6_count_3 rfl (by decide) rfl ?_
  refine V.sub (lv' := [(0, .ref _), (1, .int _), (2, .int _), (3, .int _)]) [2, 3, 1, 0] rfl ?_
  exact b_X6_count_4 C FU _ _ _  _ _ _ h
theorem dX6_ups_0 : decode cX6_ups 0 = .ok (.aload_n 0, 1) := by decide +kernel
theorem dX6_ups_1 : decode cX6_ups 1 = .ok (.iload_n 1, 1) := by decide +kernel
theorem dX6_ups_2 : decode cX6_ups 2 = .ok (.invokevirtual 98, 3) := by decide +kernel
theorem dX6_ups_5 : decode cX6_ups 5 = .ok (.ireturn, 1) := by decide +kernel
def f_X6_ups (a1 : Int32) (σ : St) : Option (Int32 × St) :=
  bd (f_X6_count a1 σ) fun v1 σ2 =>
  some (v1, σ2)
set_option maxRecDepth 100000 in
set_option maxHeartbeats 4000000 in
theorem c_X6_ups {g : Geo} {a1 : Int32} {σ : St} {r : Int32} {σ' : St} (h : f_X6_ups a1 σ = some (r, σ')) : Ct g yX6_ups cX6_ups 2 (some .int) rm_X6_ups [.ref (g.1 26), .int a1] σ (some (.int r)) σ' := by
  refine ct_of (own := RX6) (by decide) rfl (Nat.le_of_ble_eq_true rfl) (fun x C => ?_) ⟨rfl, rfl⟩
  show V g x _ 2 σ [(0, .ref (g.1 26)), (1, .int a1)] [] 0
  unfold f_X6_ups at h
  refine v_aload_n C dX6_ups_0 rfl 0 rfl ?_
  refine v_iload_n C dX6_ups_1 rfl 1 rfl ?_
  obtain ⟨v1, σ2, cσ2, h⟩ := bd_some h
  refine callVi C (c_X6_count cσ2) km_X6_count kv_X6_count rfl ml_RX6_98 rfl rfl (by decide) (Nat.le_of_ble_eq_true rfl) dX6_ups_2 ?_
  cases h
  exact v_iret C dX6_ups_5
theorem dX6_size_0 : decode cX6_size 0 = .ok (.iload_n 1, 1) := by decide +kernel
theorem dX6_size_1 : decode cX6_size 1 = .ok (.ifCond .ne 10, 3) := by decide +kernel
theorem dX6_size_4 : decode cX6_size 4 = .ok (.aload_n 0, 1) := by decide +kernel
theorem dX6_size_5 : decode cX6_size 5 = .ok (.getfield 70, 3) := by decide +kernel
theorem dX6_size_8 : decode cX6_size 8 = .ok (.goto 17, 3) := by decide +kernel
theorem dX6_size_11 : decode cX6_size 11 = .ok (.iload_n 1, 1) := by decide +kernel
theorem dX6_size_12 : decode cX6_size 12 = .ok (.iconst 1, 1) := by decide +kernel
theorem dX6_size_13 : decode cX6_size 13 = .ok (.if_icmp .ne 10, 3) := by decide +kernel
theorem dX6_size_16 : decode cX6_size 16 = .ok (.aload_n 0, 1) := by decide +kernel
theorem dX6_size_17 : decode cX6_size 17 = .ok (.getfield 74, 3) := by decide +kernel
theorem dX6_size_20 : decode cX6_size 20 = .ok (.goto 5, 3) := by decide +kernel
theorem dX6_size_23 : decode cX6_size 23 = .ok (.ldc 90, 2) := by decide +kernel
theorem dX6_size_25 : decode cX6_size 25 = .ok (.ireturn, 1) := by decide +kernel
def f_X6_size_25 (s0 : Int32) (σ : St) : Option (Int32 × St) :=
  some (s0, σ)
set_option maxRecDepth 100000 in
set_option maxHeartbeats 4000000 in
theorem b_X6_size_25 {g : Geo} {x : Cx} (C : Ok g x cX6_size RX6 2 (some .int) rm_X6_size) : ∀ (s0 : Int32) (σ : St) (r : Int32) (σ' : St), f_X6_size_25 s0 σ = some (r, σ') → V g x (qm g x (some (.int r)) σ') 2 σ [] [.int s0] 25 := by
  intro s0 σ r σ' h
  unfold f_X6_size_25 at h
  cases h
  exact v_iret C dX6_size_25
def f_X6_size (a1 : Int32) (σ : St) : Option (Int32 × St) :=
  if a1 = 0 then
    f_X6_size_25 (gi σ 26 0) σ
  else
    if a1 = (1 : Int32) then
      f_X6_size_25 (gi σ 26 1) σ
    else
      f_X6_size_25 (-900002 : Int32) σ
set_option maxRecDepth 100000 in
set_option maxHeartbeats 4000000 in
theorem c_X6_size {g : Geo} {a1 : Int32} {σ : St} {r : Int32} {σ' : St} (h : f_X6_size a1 σ = some (r, σ')) : Ct g yX6_size cX6_size 2 (some .int) rm_X6_size [.ref (g.1 26), .int a1] σ (some (.int r)) σ' := by
  refine ct_of (own := RX6) (by decide) rfl (Nat.le_of_ble_eq_true rfl) (fun x C => ?_) ⟨rfl, rfl⟩
  show V g x _ 2 σ [(0, .ref (g.1 26)), (1, .int a1)] [] 0
  unfold f_X6_size at h
  refine v_iload_n C dX6_size_0 rfl 1 rfl ?_
  refine v_if_ne C (tgt := 11) dX6_size_1 (by decide) (fun q2 => ?_) (fun q2 => ?_)
  · rw [if_neg q2] at h
    refine v_iload_n C dX6_size_11 rfl 1 rfl ?_
    refine v_iconst C (v := (1 : Int32)) dX6_size_12 (by decide) ?_
    refine v_icmp_ne C (tgt := 23) dX6_size_13 (by decide) (fun q1 => ?_) (fun q1 => ?_)
    · rw [if_neg q1] at h
      refine v_ldc C (v := (-900002 : Int32)) con_RX6_90 dX6_size_23 ?_
      refine V.sub (lv' := []) [] rfl ?_
      exact b_X6_size_25 C _  _ _ _ h
    · rw [if_pos q1] at h
      refine v_aload_n C dX6_size_16 rfl 0 rfl ?_
      refine v_getI C fl_RX6_74 rfl dX6_size_17 ?_
      refine v_goto C (tgt := 25) dX6_size_20 (by decide) ?_
      refine V.sub (lv' := []) [] rfl ?_
      exact b_X6_size_25 C _  _ _ _ h
  · rw [if_pos q2] at h
    refine v_aload_n C dX6_size_4 rfl 0 rfl ?_
    refine v_getI C fl_RX6_70 rfl dX6_size_5 ?_
    refine v_goto C (tgt := 25) dX6_size_8 (by decide) ?_
    refine V.sub (lv' := []) [] rfl ?_
    exact b_X6_size_25 C _  _ _ _ h
theorem dX6_common_0 : decode cX6_common 0 = .ok (.lload_n 0, 1) := by decide +kernel
theorem dX6_common_1 : decode cX6_common 1 = .ok (.lstore 4, 2) := by decide +kernel
theorem dX6_common_3 : decode cX6_common 3 = .ok (.lload_n 2, 1) := by decide +kernel
theorem dX6_common_4 : decode cX6_common 4 = .ok (.lstore 6, 2) := by decide +kernel
theorem dX6_common_6 : decode cX6_common 6 = .ok (.lload 6, 2) := by decide +kernel
theorem dX6_common_8 : decode cX6_common 8 = .ok (.lconst 0, 1) := by decide +kernel
theorem dX6_common_9 : decode cX6_common 9 = .ok (.lcmp, 1) := by decide +kernel
theorem dX6_common_10 : decode cX6_common 10 = .ok (.ifCond .eq 21, 3) := by decide +kernel
theorem dX6_common_13 : decode cX6_common 13 = .ok (.lload 4, 2) := by decide +kernel
theorem dX6_common_15 : decode cX6_common 15 = .ok (.lload 6, 2) := by decide +kernel
theorem dX6_common_17 : decode cX6_common 17 = .ok (.lrem, 1) := by decide +kernel
theorem dX6_common_18 : decode cX6_common 18 = .ok (.lstore 8, 2) := by decide +kernel
theorem dX6_common_20 : decode cX6_common 20 = .ok (.lload 6, 2) := by decide +kernel
theorem dX6_common_22 : decode cX6_common 22 = .ok (.lstore 4, 2) := by decide +kernel
theorem dX6_common_24 : decode cX6_common 24 = .ok (.lload 8, 2) := by decide +kernel
theorem dX6_common_26 : decode cX6_common 26 = .ok (.lstore 6, 2) := by decide +kernel
theorem dX6_common_28 : decode cX6_common 28 = .ok (.goto (-22), 3) := by decide +kernel
theorem dX6_common_31 : decode cX6_common 31 = .ok (.lload 4, 2) := by decide +kernel
theorem dX6_common_33 : decode cX6_common 33 = .ok (.lreturn, 1) := by decide +kernel
def f_X6_common_6 : Nat → Int64 → Int64 → St → Option (Int64 × St)
  | 0, _, _, _ => none
  | n + 1, x4, x6, σ =>
    if x6 = (0 : Int64) then
      some (x4, σ)
    else
      rmL x4 x6 fun v1 =>
      f_X6_common_6 n x6 v1 σ
set_option maxRecDepth 100000 in
set_option maxHeartbeats 4000000 in
theorem b_X6_common_6 {g : Geo} {x : Cx} (C : Ok g x cX6_common RX6 10 (some .long) rm_X6_common) : ∀ (n : Nat) (x4 : Int64) (x6 : Int64) (σ : St) (r : Int64) (σ' : St), f_X6_common_6 n x4 x6 σ = some (r, σ') → V g x (qm g x (some (.long r)) σ') 10 σ [(4, .long x4), (6, .long x6)] [] 6 := by
  intro n
  induction n with
  | zero =>
    intro x4 x6 σ r σ' h
    rw [f_X6_common_6] at h
    cases h
  | succ n ih =>
    intro x4 x6 σ r σ' h
    rw [f_X6_common_6] at h
    refine v_lload C dX6_common_6 1 rfl ?_
    refine v_lconst C (v := (0 : Int64)) dX6_common_8 (by decide) ?_
    refine v_lcmp_eq C (tgt := 31) dX6_common_9 dX6_common_10 (by decide) (fun q2 => ?_) (fun q2 => ?_)
    · rw [if_pos q2] at h
      refine v_lload C dX6_common_31 0 rfl ?_
      cases h
      exact v_lret C dX6_common_33
    · rw [if_neg q2] at h
      refine v_lload C dX6_common_13 0 rfl ?_
      refine v_lload C dX6_common_15 1 rfl ?_
      obtain ⟨nv1, v1, ev1, h⟩ := rmL_ex h
      refine x_lrem C nv1 ev1 dX6_common_17 ?_
      refine v_lstore C (lv' := [(8, .long _), (4, .long _), (6, .long _)]) dX6_common_18 (by decide) rfl ?_
      refine v_lload C dX6_common_20 2 rfl ?_
      refine v_lstore C (lv' := [(4, .long _), (8, .long _), (6, .long _)]) dX6_common_22 (by decide) rfl ?_
      refine v_lload C dX6_common_24 1 rfl ?_
      refine v_lstore C (lv' := [(6, .long _), (4, .long _), (8, .long _)]) dX6_common_26 (by decide) rfl ?_
      refine v_goto C (tgt := 6) dX6_common_28 (by decide) ?_
      refine V.sub (lv' := [(4, .long _), (6, .long _)]) [1, 0] rfl ?_
      exact ih _ _  _ _ _ h
def f_X6_common (a1 : Int64) (a2 : Int64) (σ : St) : Option (Int64 × St) :=
  f_X6_common_6 FU a1 a2 σ
set_option maxRecDepth 100000 in
set_option maxHeartbeats 4000000 in
theorem c_X6_common {g : Geo} {a1 : Int64} {a2 : Int64} {σ : St} {r : Int64} {σ' : St} (h : f_X6_common a1 a2 σ = some (r, σ')) : Ct g yX6_common cX6_common 10 (some .long) rm_X6_common [.long a1, .long a2] σ (some (.long r)) σ' := by
  refine ct_of (own := RX6) (by decide) rfl (Nat.le_of_ble_eq_true rfl) (fun x C => ?_) ⟨rfl, rfl⟩
  show V g x _ 10 σ [(0, .long a1), (2, .long a2)] [] 0
  unfold f_X6_common at h
  refine v_lload_n C dX6_common_0 rfl 0 rfl ?_
  refine v_lstore C (lv' := [(4, .long _), (0, .long _), (2, .long _)]) dX6_common_1 (by decide) rfl ?_
  refine v_lload_n C dX6_common_3 rfl 2 rfl ?_
  refine v_lstore C (lv' := [(6, .long _), (4, .long _), (0, .long _), (2, .long _)]) dX6_common_4 (by decide) rfl ?_
  refine V.sub (lv' := [(4, .long _), (6, .long _)]) [1, 0] rfl ?_
  exact b_X6_common_6 C FU _ _  _ _ _ h
theorem dX6_product_0 : decode cX6_product 0 = .ok (.iload_n 1, 1) := by decide +kernel
theorem dX6_product_1 : decode cX6_product 1 = .ok (.iload_n 2, 1) := by decide +kernel
theorem dX6_product_2 : decode cX6_product 2 = .ok (.iload_n 3, 1) := by decide +kernel
theorem dX6_product_3 : decode cX6_product 3 = .ok (.invokestatic 93, 3) := by decide +kernel
theorem dX6_product_6 : decode cX6_product 6 = .ok (.ifCond .ne 7, 3) := by decide +kernel
theorem dX6_product_9 : decode cX6_product 9 = .ok (.ldc2_w 102, 3) := by decide +kernel
theorem dX6_product_12 : decode cX6_product 12 = .ok (.lreturn, 1) := by decide +kernel
theorem dX6_product_13 : decode cX6_product 13 = .ok (.lconst 1, 1) := by decide +kernel
theorem dX6_product_14 : decode cX6_product 14 = .ok (.lstore 4, 2) := by decide +kernel
theorem dX6_product_16 : decode cX6_product 16 = .ok (.lconst 1, 1) := by decide +kernel
theorem dX6_product_17 : decode cX6_product 17 = .ok (.lstore 6, 2) := by decide +kernel
theorem dX6_product_19 : decode cX6_product 19 = .ok (.iconst 1, 1) := by decide +kernel
theorem dX6_product_20 : decode cX6_product 20 = .ok (.istore 8, 2) := by decide +kernel
theorem dX6_product_22 : decode cX6_product 22 = .ok (.iload 8, 2) := by decide +kernel
theorem dX6_product_24 : decode cX6_product 24 = .ok (.iload_n 1, 1) := by decide +kernel
theorem dX6_product_25 : decode cX6_product 25 = .ok (.if_icmp .gt 94, 3) := by decide +kernel
theorem dX6_product_28 : decode cX6_product 28 = .ok (.iconst 1, 1) := by decide +kernel
theorem dX6_product_29 : decode cX6_product 29 = .ok (.istore 9, 2) := by decide +kernel
theorem dX6_product_31 : decode cX6_product 31 = .ok (.iload 9, 2) := by decide +kernel
theorem dX6_product_33 : decode cX6_product 33 = .ok (.iload_n 2, 1) := by decide +kernel
theorem dX6_product_34 : decode cX6_product 34 = .ok (.if_icmp .gt 79, 3) := by decide +kernel
theorem dX6_product_37 : decode cX6_product 37 = .ok (.iconst 1, 1) := by decide +kernel
theorem dX6_product_38 : decode cX6_product 38 = .ok (.istore 10, 2) := by decide +kernel
theorem dX6_product_40 : decode cX6_product 40 = .ok (.iload 10, 2) := by decide +kernel
theorem dX6_product_42 : decode cX6_product 42 = .ok (.iload_n 3, 1) := by decide +kernel
theorem dX6_product_43 : decode cX6_product 43 = .ok (.if_icmp .gt 64, 3) := by decide +kernel
theorem dX6_product_46 : decode cX6_product 46 = .ok (.lload 4, 2) := by decide +kernel
theorem dX6_product_48 : decode cX6_product 48 = .ok (.iload 8, 2) := by decide +kernel
theorem dX6_product_50 : decode cX6_product 50 = .ok (.iload 9, 2) := by decide +kernel
theorem dX6_product_52 : decode cX6_product 52 = .ok (.iadd, 1) := by decide +kernel
theorem dX6_product_53 : decode cX6_product 53 = .ok (.iload 10, 2) := by decide +kernel
theorem dX6_product_55 : decode cX6_product 55 = .ok (.iadd, 1) := by decide +kernel
theorem dX6_product_56 : decode cX6_product 56 = .ok (.iconst 1, 1) := by decide +kernel
theorem dX6_product_57 : decode cX6_product 57 = .ok (.isub, 1) := by decide +kernel
theorem dX6_product_58 : decode cX6_product 58 = .ok (.i2l, 1) := by decide +kernel
theorem dX6_product_59 : decode cX6_product 59 = .ok (.lmul, 1) := by decide +kernel
theorem dX6_product_60 : decode cX6_product 60 = .ok (.lstore 4, 2) := by decide +kernel
theorem dX6_product_62 : decode cX6_product 62 = .ok (.lload 6, 2) := by decide +kernel
theorem dX6_product_64 : decode cX6_product 64 = .ok (.iload 8, 2) := by decide +kernel
theorem dX6_product_66 : decode cX6_product 66 = .ok (.iload 9, 2) := by decide +kernel
theorem dX6_product_68 : decode cX6_product 68 = .ok (.iadd, 1) := by decide +kernel
theorem dX6_product_69 : decode cX6_product 69 = .ok (.iload 10, 2) := by decide +kernel
theorem dX6_product_71 : decode cX6_product 71 = .ok (.iadd, 1) := by decide +kernel
theorem dX6_product_72 : decode cX6_product 72 = .ok (.iconst 2, 1) := by decide +kernel
theorem dX6_product_73 : decode cX6_product 73 = .ok (.isub, 1) := by decide +kernel
theorem dX6_product_74 : decode cX6_product 74 = .ok (.i2l, 1) := by decide +kernel
theorem dX6_product_75 : decode cX6_product 75 = .ok (.lmul, 1) := by decide +kernel
theorem dX6_product_76 : decode cX6_product 76 = .ok (.lstore 6, 2) := by decide +kernel
theorem dX6_product_78 : decode cX6_product 78 = .ok (.lload 4, 2) := by decide +kernel
theorem dX6_product_80 : decode cX6_product 80 = .ok (.lload 6, 2) := by decide +kernel
theorem dX6_product_82 : decode cX6_product 82 = .ok (.invokestatic 104, 3) := by decide +kernel
theorem dX6_product_85 : decode cX6_product 85 = .ok (.lstore 11, 2) := by decide +kernel
theorem dX6_product_87 : decode cX6_product 87 = .ok (.lload 4, 2) := by decide +kernel
theorem dX6_product_89 : decode cX6_product 89 = .ok (.lload 11, 2) := by decide +kernel
theorem dX6_product_91 : decode cX6_product 91 = .ok (.ldiv, 1) := by decide +kernel
theorem dX6_product_92 : decode cX6_product 92 = .ok (.lstore 4, 2) := by decide +kernel
theorem dX6_product_94 : decode cX6_product 94 = .ok (.lload 6, 2) := by decide +kernel
theorem dX6_product_96 : decode cX6_product 96 = .ok (.lload 11, 2) := by decide +kernel
theorem dX6_product_98 : decode cX6_product 98 = .ok (.ldiv, 1) := by decide +kernel
theorem dX6_product_99 : decode cX6_product 99 = .ok (.lstore 6, 2) := by decide +kernel
theorem dX6_product_101 : decode cX6_product 101 = .ok (.iinc 10 1, 3) := by decide +kernel
theorem dX6_product_104 : decode cX6_product 104 = .ok (.goto (-64), 3) := by decide +kernel
theorem dX6_product_107 : decode cX6_product 107 = .ok (.iinc 9 1, 3) := by decide +kernel
theorem dX6_product_110 : decode cX6_product 110 = .ok (.goto (-79), 3) := by decide +kernel
theorem dX6_product_113 : decode cX6_product 113 = .ok (.iinc 8 1, 3) := by decide +kernel
theorem dX6_product_116 : decode cX6_product 116 = .ok (.goto (-94), 3) := by decide +kernel
theorem dX6_product_119 : decode cX6_product 119 = .ok (.lload 4, 2) := by decide +kernel
theorem dX6_product_121 : decode cX6_product 121 = .ok (.lreturn, 1) := by decide +kernel
def f_X6_product_40 (k31 : Int32 → Int32 → Int32 → Int64 → Int64 → Int32 → Int32 → St → Option (Int64 × St)) : Nat → Int32 → Int32 → Int32 → Int64 → Int64 → Int32 → Int32 → Int32 → St → Option (Int64 × St)
  | 0, _, _, _, _, _, _, _, _, _ => none
  | n + 1, x1, x2, x3, x4, x6, x8, x9, x10, σ =>
    if x3 < x10 then
      k31 x1 x2 x3 x4 x6 x8 (x9 + 1) σ
    else
      bd (f_X6_common (x4 * (((((x8 + x9) + x10) - (1 : Int32))).toInt64)) (x6 * (((((x8 + x9) + x10) - (2 : Int32))).toInt64)) σ) fun v1 σ2 =>
      dvL (x4 * (((((x8 + x9) + x10) - (1 : Int32))).toInt64)) v1 fun v3 =>
      dvL (x6 * (((((x8 + x9) + x10) - (2 : Int32))).toInt64)) v1 fun v4 =>
      f_X6_product_40 k31 n x1 x2 x3 v3 v4 x8 x9 (x10 + 1) σ2
set_option maxRecDepth 100000 in
set_option maxHeartbeats 4000000 in
theorem b_X6_product_40 {g : Geo} {x : Cx} (C : Ok g x cX6_product RX6 13 (some .long) rm_X6_product) (k31 : Int32 → Int32 → Int32 → Int64 → Int64 → Int32 → Int32 → St → Option (Int64 × St)) (hk31 : ∀ (x1 : Int32) (x2 : Int32) (x3 : Int32) (x4 : Int64) (x6 : Int64) (x8 : Int32) (x9 : Int32) (τ : St) (r : Int64) (τ' : St), k31 x1 x2 x3 x4 x6 x8 x9 τ = some (r, τ') → V g x (qm g x (some (.long r)) τ') 13 τ [(1, .int x1), (2, .int x2), (3, .int x3), (4, .long x4), (6, .long x6), (8, .int x8), (9, .int x9)] [] 31) : ∀ (n : Nat) (x1 : Int32) (x2 : Int32) (x3 : Int32) (x4 : Int64) (x6 : Int64) (x8 : Int32) (x9 : Int32) (x10 : Int32) (σ : St) (r : Int64) (σ' : St), f_X6_product_40 k31 n x1 x2 x3 x4 x6 x8 x9 x10 σ = some (r, σ') → V g x (qm g x (some (.long r)) σ') 13 σ [(1, .int x1), (2, .int x2), (3, .int x3), (4, .long x4), (6, .long x6), (8, .int x8), (9, .int x9), (10, .int x10)] [] 40 := by
  intro n
  induction n with
  | zero =>
    intro x1 x2 x3 x4 x6 x8 x9 x10 σ r σ' h
    rw [f_X6_product_40] at h
    cases h
  | succ n ih =>
    intro x1 x2 x3 x4 x6 x8 x9 x10 σ r σ' h
    rw [f_X6_product_40] at h
    refine v_iload C dX6_product_40 7 rfl ?_
    refine v_iload_n C dX6_product_42 rfl 2 rfl ?_
    refine v_icmp_gt C (tgt := 107) dX6_product_43 (by decide) (fun q5 => ?_) (fun q5 => ?_)
    · rw [if_pos q5] at h
      refine v_iinc C (v := (x9 + 1)) (lv' := [(9, .int _), (1, .int _), (2, .int _), (3, .int _), (4, .long _), (6, .long _), (8, .int _), (10, .int _)]) dX6_product_107 6 rfl rfl (by decide) rfl ?_
      refine v_goto C (tgt := 31) dX6_product_110 (by decide) ?_
      refine V.sub (lv' := [(1, .int _), (2, .int _), (3, .int _), (4, .long _), (6, .long _), (8, .int _), (9, .int _)]) [1, 2, 3, 4, 5, 6, 0] rfl ?_
      exact hk31 _ _ _ _ _ _ _  _ _ _ h
    · rw [if_neg q5] at h
      refine v_lload C dX6_product_46 3 rfl ?_
      refine v_iload C dX6_product_48 5 rfl ?_
      refine v_iload C dX6_product_50 6 rfl ?_
      refine v_iadd C dX6_product_52 ?_
      refine v_iload C dX6_product_53 7 rfl ?_
      refine v_iadd C dX6_product_55 ?_
      refine v_iconst C (v := (1 : Int32)) dX6_product_56 (by decide) ?_
      refine v_isub C dX6_product_57 ?_
      refine v_i2l C dX6_product_58 ?_
      refine v_lmul C dX6_product_59 ?_
      refine v_lstore C (lv' := [(4, .long _), (1, .int _), (2, .int _), (3, .int _), (6, .long _), (8, .int _), (9, .int _), (10, .int _)]) dX6_product_60 (by decide) rfl ?_
      refine v_lload C dX6_product_62 4 rfl ?_
      refine v_iload C dX6_product_64 5 rfl ?_
      refine v_iload C dX6_product_66 6 rfl ?_
      refine v_iadd C dX6_product_68 ?_
      refine v_iload C dX6_product_69 7 rfl ?_
      refine v_iadd C dX6_product_71 ?_
      refine v_iconst C (v := (2 : Int32)) dX6_product_72 (by decide) ?_
      refine v_isub C dX6_product_73 ?_
      refine v_i2l C dX6_product_74 ?_
      refine v_lmul C dX6_product_75 ?_
      refine v_lstore C (lv' := [(6, .long _), (4, .long _), (1, .int _), (2, .int _), (3, .int _), (8, .int _), (9, .int _), (10, .int _)]) dX6_product_76 (by decide) rfl ?_
      refine v_lload C dX6_product_78 1 rfl ?_
      refine v_lload C dX6_product_80 0 rfl ?_
      obtain ⟨v1, σ2, cσ2, h⟩ := bd_some h
      refine callSl C (c_X6_common cσ2) km_X6_common ks_X6_common ml_RX6_104 rfl rfl (by decide) (Nat.le_of_ble_eq_true rfl) dX6_product_82 ?_
      refine v_lstore C (lv' := [(11, .long _), (6, .long _), (4, .long _), (1, .int _), (2, .int _), (3, .int _), (8, .int _), (9, .int _), (10, .int _)]) dX6_product_85 (by decide) rfl ?_
      refine v_lload C dX6_product_87 2 rfl ?_
      refine v_lload C dX6_product_89 0 rfl ?_
      obtain ⟨nv3, v3, ev3, h⟩ := dvL_ex h
      refine x_ldiv C nv3 ev3 dX6_product_91 ?_
      refine v_lstore C (lv' := [(4, .long _), (11, .long _), (6, .long _), (1, .int _), (2, .int _), (3, .int _), (8, .int _), (9, .int _), (10, .int _)]) dX6_product_92 (by decide) rfl ?_
      refine v_lload C dX6_product_94 2 rfl ?_
      refine v_lload C dX6_product_96 1 rfl ?_
      obtain ⟨nv4, v4, ev4, h⟩ := dvL_ex h
      refine x_ldiv C nv4 ev4 dX6_product_98 ?_
      refine v_lstore C (lv' := [(6, .long _), (4, .long _), (11, .long _), (1, .int _), (2, .int _), (3, .int _), (8, .int _), (9, .int _), (10, .int _)]) dX6_product_99 (by decide) rfl ?_
      refine v_iinc C (v := (x10 + 1)) (lv' := [(10, .int _), (6, .long _), (4, .long _), (11, .long _), (1, .int _), (2, .int _), (3, .int _), (8, .int _), (9, .int _)]) dX6_product_101 8 rfl rfl (by decide) rfl ?_
      refine v_goto C (tgt := 40) dX6_product_104 (by decide) ?_
      refine V.sub (lv' := [(1, .int _), (2, .int _), (3, .int _), (4, .long _), (6, .long _), (8, .int _), (9, .int _), (10, .int _)]) [4, 5, 6, 2, 1, 7, 8, 0] rfl ?_
      exact ih _ _ _ _ _ _ _ _  _ _ _ h
def f_X6_product_31 (k22 : Int32 → Int32 → Int32 → Int64 → Int64 → Int32 → St → Option (Int64 × St)) : Nat → Int32 → Int32 → Int32 → Int64 → Int64 → Int32 → Int32 → St → Option (Int64 × St)
  | 0, _, _, _, _, _, _, _, _ => none
  | n + 1, x1, x2, x3, x4, x6, x8, x9, σ =>
    if x2 < x9 then
      k22 x1 x2 x3 x4 x6 (x8 + 1) σ
    else
      f_X6_product_40 (f_X6_product_31 k22 n) FU x1 x2 x3 x4 x6 x8 x9 (1 : Int32) σ
set_option maxRecDepth 100000 in
set_option maxHeartbeats 4000000 in
theorem b_X6_product_31 {g : Geo} {x : Cx} (C : Ok g x cX6_product RX6 13 (some .long) rm_X6_product) (k22 : Int32 → Int32 → Int32 → Int64 → Int64 → Int32 → St → Option (Int64 × St)) (hk22 : ∀ (x1 : Int32) (x2 : Int32) (x3 : Int32) (x4 : Int64) (x6 : Int64) (x8 : Int32) (τ : St) (r : Int64) (τ' : St), k22 x1 x2 x3 x4 x6 x8 τ = some (r, τ') → V g x (qm g x (some (.long r)) τ') 13 τ [(1, .int x1), (2, .int x2), (3, .int x3), (4, .long x4), (6, .long x6), (8, .int x8)] [] 22) : ∀ (n : Nat) (x1 : Int32) (x2 : Int32) (x3 : Int32) (x4 : Int64) (x6 : Int64) (x8 : Int32) (x9 : Int32) (σ : St) (r : Int64) (σ' : St), f_X6_product_31 k22 n x1 x2 x3 x4 x6 x8 x9 σ = some (r, σ') → V g x (qm g x (some (.long r)) σ') 13 σ [(1, .int x1), (2, .int x2), (3, .int x3), (4, .long x4), (6, .long x6), (8, .int x8), (9, .int x9)] [] 31 := by
  intro n
  induction n with
  | zero =>
    intro x1 x2 x3 x4 x6 x8 x9 σ r σ' h
    rw [f_X6_product_31] at h
    cases h
  | succ n ih =>
    intro x1 x2 x3 x4 x6 x8 x9 σ r σ' h
    rw [f_X6_product_31] at h
    refine v_iload C dX6_product_31 6 rfl ?_
    refine v_iload_n C dX6_product_33 rfl 1 rfl ?_
    refine v_icmp_gt C (tgt := 113) dX6_product_34 (by decide) (fun q1 => ?_) (fun q1 => ?_)
    · rw [if_pos q1] at h
      refine v_iinc C (v := (x8 + 1)) (lv' := [(8, .int _), (1, .int _), (2, .int _), (3, .int _), (4, .long _), (6, .long _), (9, .int _)]) dX6_product_113 5 rfl rfl (by decide) rfl ?_
      refine v_goto C (tgt := 22) dX6_product_116 (by decide) ?_
      refine V.sub (lv' := [(1, .int _), (2, .int _), (3, .int _), (4, .long _), (6, .long _), (8, .int _)]) [1, 2, 3, 4, 5, 0] rfl ?_
      exact hk22 _ _ _ _ _ _  _ _ _ h
    · rw [if_neg q1] at h
      refine v_iconst C (v := (1 : Int32)) dX6_product_37 (by decide) ?_
      refine v_istore C (lv' := [(10, .int _), (1, .int _), (2, .int _), (3, .int _), (4, .long _), (6, .long _), (8, .int _), (9, .int _)]) dX6_product_38 (by decide) rfl ?_
      refine V.sub (lv' := [(1, .int _), (2, .int _), (3, .int _), (4, .long _), (6, .long _), (8, .int _), (9, .int _), (10, .int _)]) [1, 2, 3, 4, 5, 6, 7, 0] rfl ?_
      exact b_X6_product_40 C _ ih FU _ _ _ _ _ _ _ _  _ _ _ h
def f_X6_product_22 : Nat → Int32 → Int32 → Int32 → Int64 → Int64 → Int32 → St → Option (Int64 × St)
  | 0, _, _, _, _, _, _, _ => none
  | n + 1, x1, x2, x3, x4, x6, x8, σ =>
    if x1 < x8 then
      some (x4, σ)
    else
      f_X6_product_31 (f_X6_product_22 n) FU x1 x2 x3 x4 x6 x8 (1 : Int32) σ
set_option maxRecDepth 100000 in
set_option maxHeartbeats 4000000 in
theorem b_X6_product_22 {g : Geo} {x : Cx} (C : Ok g x cX6_product RX6 13 (some .long) rm_X6_product) : ∀ (n : Nat) (x1 : Int32) (x2 : Int32) (x3 : Int32) (x4 : Int64) (x6 : Int64) (x8 : Int32) (σ : St) (r : Int64) (σ' : St), f_X6_product_22 n x1 x2 x3 x4 x6 x8 σ = some (r, σ') → V g x (qm g x (some (.long r)) σ') 13 σ [(1, .int x1), (2, .int x2), (3, .int x3), (4, .long x4), (6, .long x6), (8, .int x8)] [] 22 := by
  intro n
  induction n with
  | zero =>
    intro x1 x2 x3 x4 x6 x8 σ r σ' h
    rw [f_X6_product_22] at h
    cases h
  | succ n ih =>
    intro x1 x2 x3 x4 x6 x8 σ r σ' h
    rw [f_X6_product_22] at h
    refine v_iload C dX6_product_22 5 rfl ?_
    refine v_iload_n C dX6_product_24 rfl 0 rfl ?_
    refine v_icmp_gt C (tgt := 119) dX6_product_25 (by decide) (fun q1 => ?_) (fun q1 => ?_)
    · rw [if_pos q1] at h
      refine v_lload C dX6_product_119 3 rfl ?_
      cases h
      exact v_lret C dX6_product_121
    · rw [if_neg q1] at h
      refine v_iconst C (v := (1 : Int32)) dX6_product_28 (by decide) ?_
      refine v_istore C (lv' := [(9, .int _), (1, .int _), (2, .int _), (3, .int _), (4, .long _), (6, .long _), (8, .int _)]) dX6_product_29 (by decide) rfl ?_
      refine V.sub (lv' := [(1, .int _), (2, .int _), (3, .int _), (4, .long _), (6, .long _), (8, .int _), (9, .int _)]) [1, 2, 3, 4, 5, 6, 0] rfl ?_
      exact b_X6_product_31 C _ ih FU _ _ _ _ _ _ _  _ _ _ h
def f_X6_product (a1 : Int32) (a2 : Int32) (a3 : Int32) (σ : St) : Option (Int64 × St) :=
  bd (f_X6_isHexagon a1 a2 a3 σ) fun v1 σ2 =>
  if v1 = 0 then
    some ((-900002 : Int64), σ2)
  else
    f_X6_product_22 FU a1 a2 a3 (1 : Int64) (1 : Int64) (1 : Int32) σ2
set_option maxRecDepth 100000 in
set_option maxHeartbeats 4000000 in
theorem c_X6_product {g : Geo} {a1 : Int32} {a2 : Int32} {a3 : Int32} {σ : St} {r : Int64} {σ' : St} (h : f_X6_product a1 a2 a3 σ = some (r, σ')) : Ct g yX6_product cX6_product 13 (some .long) rm_X6_product [.ref (g.1 26), .int a1, .int a2, .int a3] σ (some (.long r)) σ' := by
  refine ct_of (own := RX6) (by decide) rfl (Nat.le_of_ble_eq_true rfl) (fun x C => ?_) ⟨rfl, rfl⟩
  show V g x _ 13 σ [(0, .ref (g.1 26)), (1, .int a1), (2, .int a2), (3, .int a3)] [] 0
  unfold f_X6_product at h
  refine v_iload_n C dX6_product_0 rfl 1 rfl ?_
  refine v_iload_n C dX6_product_1 rfl 2 rfl ?_
  refine v_iload_n C dX6_product_2 rfl 3 rfl ?_
  obtain ⟨v1, σ2, cσ2, h⟩ := bd_some h
  refine callSi C (c_X6_isHexagon cσ2) km_X6_isHexagon ks_X6_isHexagon ml_RX6_93 rfl rfl (by decide) (Nat.le_of_ble_eq_true rfl) dX6_product_3 ?_
  refine v_if_ne C (tgt := 13) dX6_product_6 (by decide) (fun q3 => ?_) (fun q3 => ?_)
  · rw [if_neg q3] at h
    refine v_lconst C (v := (1 : Int64)) dX6_product_13 (by decide) ?_
    refine v_lstore C (lv' := [(4, .long _), (0, .ref _), (1, .int _), (2, .int _), (3, .int _)]) dX6_product_14 (by decide) rfl ?_
    refine v_lconst C (v := (1 : Int64)) dX6_product_16 (by decide) ?_
    refine v_lstore C (lv' := [(6, .long _), (4, .long _), (0, .ref _), (1, .int _), (2, .int _), (3, .int _)]) dX6_product_17 (by decide) rfl ?_
    refine v_iconst C (v := (1 : Int32)) dX6_product_19 (by decide) ?_
    refine v_istore C (lv' := [(8, .int _), (6, .long _), (4, .long _), (0, .ref _), (1, .int _), (2, .int _), (3, .int _)]) dX6_product_20 (by decide) rfl ?_
    refine V.sub (lv' := [(1, .int _), (2, .int _), (3, .int _), (4, .long _), (6, .long _), (8, .int _)]) [4, 5, 6, 2, 1, 0] rfl ?_
    exact b_X6_product_22 C FU _ _ _ _ _ _  _ _ _ h
  · rw [if_pos q3] at h
    refine v_ldc2_w C (v := (-900002 : Int64)) conl_RX6_102 dX6_product_9 ?_
    cases h
    exact v_lret C dX6_product_12
theorem dX6_then_0 : decode cX6_then 0 = .ok (.iconst 1, 1) := by decide +kernel
theorem dX6_then_1 : decode cX6_then 1 = .ok (.aload_n 0, 1) := by decide +kernel
theorem dX6_then_2 : decode cX6_then 2 = .ok (.getfield 70, 3) := by decide +kernel
theorem dX6_then_5 : decode cX6_then 5 = .ok (.iconst 1, 1) := by decide +kernel
theorem dX6_then_6 : decode cX6_then 6 = .ok (.isub, 1) := by decide +kernel
theorem dX6_then_7 : decode cX6_then 7 = .ok (.ishl, 1) := by decide +kernel
theorem dX6_then_8 : decode cX6_then 8 = .ok (.istore 4, 2) := by decide +kernel
theorem dX6_then_10 : decode cX6_then 10 = .ok (.iload_n 2, 1) := by decide +kernel
theorem dX6_then_11 : decode cX6_then 11 = .ok (.iload 4, 2) := by decide +kernel
theorem dX6_then_13 : decode cX6_then 13 = .ok (.iand, 1) := by decide +kernel
theorem dX6_then_14 : decode cX6_then 14 = .ok (.ifCond .eq 7, 3) := by decide +kernel
theorem dX6_then_17 : decode cX6_then 17 = .ok (.iconst 1, 1) := by decide +kernel
theorem dX6_then_18 : decode cX6_then 18 = .ok (.goto 4, 3) := by decide +kernel
theorem dX6_then_21 : decode cX6_then 21 = .ok (.iconst 0, 1) := by decide +kernel
theorem dX6_then_22 : decode cX6_then 22 = .ok (.istore 5, 2) := by decide +kernel
theorem dX6_then_24 : decode cX6_then 24 = .ok (.iload_n 2, 1) := by decide +kernel
theorem dX6_then_25 : decode cX6_then 25 = .ok (.iload 4, 2) := by decide +kernel
theorem dX6_then_27 : decode cX6_then 27 = .ok (.iconst (-1), 1) := by decide +kernel
theorem dX6_then_28 : decode cX6_then 28 = .ok (.ixor, 1) := by decide +kernel
theorem dX6_then_29 : decode cX6_then 29 = .ok (.iand, 1) := by decide +kernel
theorem dX6_then_30 : decode cX6_then 30 = .ok (.istore 6, 2) := by decide +kernel
theorem dX6_then_32 : decode cX6_then 32 = .ok (.iload 5, 2) := by decide +kernel
theorem dX6_then_34 : decode cX6_then 34 = .ok (.iload_n 3, 1) := by decide +kernel
theorem dX6_then_35 : decode cX6_then 35 = .ok (.iconst 2, 1) := by decide +kernel
theorem dX6_then_36 : decode cX6_then 36 = .ok (.if_icmp .ne 7, 3) := by decide +kernel
theorem dX6_then_39 : decode cX6_then 39 = .ok (.iconst 1, 1) := by decide +kernel
theorem dX6_then_40 : decode cX6_then 40 = .ok (.goto 4, 3) := by decide +kernel
theorem dX6_then_43 : decode cX6_then 43 = .ok (.iconst 0, 1) := by decide +kernel
theorem dX6_then_44 : decode cX6_then 44 = .ok (.if_icmp .ne 21, 3) := by decide +kernel
theorem dX6_then_47 : decode cX6_then 47 = .ok (.iload_n 3, 1) := by decide +kernel
theorem dX6_then_48 : decode cX6_then 48 = .ok (.iconst 3, 1) := by decide +kernel
theorem dX6_then_49 : decode cX6_then 49 = .ok (.if_icmp .ge 7, 3) := by decide +kernel
theorem dX6_then_52 : decode cX6_then 52 = .ok (.iconst 1, 1) := by decide +kernel
theorem dX6_then_53 : decode cX6_then 53 = .ok (.goto 4, 3) := by decide +kernel
theorem dX6_then_56 : decode cX6_then 56 = .ok (.iconst 0, 1) := by decide +kernel
theorem dX6_then_57 : decode cX6_then 57 = .ok (.aload_n 0, 1) := by decide +kernel
theorem dX6_then_58 : decode cX6_then 58 = .ok (.iload_n 1, 1) := by decide +kernel
theorem dX6_then_59 : decode cX6_then 59 = .ok (.invokevirtual 108, 3) := by decide +kernel
theorem dX6_then_62 : decode cX6_then 62 = .ok (.if_icmp .eq 6, 3) := by decide +kernel
theorem dX6_then_65 : decode cX6_then 65 = .ok (.ldc 112, 2) := by decide +kernel
theorem dX6_then_67 : decode cX6_then 67 = .ok (.ireturn, 1) := by decide +kernel
theorem dX6_then_68 : decode cX6_then 68 = .ok (.iload_n 3, 1) := by decide +kernel
theorem dX6_then_69 : decode cX6_then 69 = .ok (.iconst 1, 1) := by decide +kernel
theorem dX6_then_70 : decode cX6_then 70 = .ok (.if_icmp .ne 49, 3) := by decide +kernel
theorem dX6_then_73 : decode cX6_then 73 = .ok (.iload_n 1, 1) := by decide +kernel
theorem dX6_then_74 : decode cX6_then 74 = .ok (.aload_n 0, 1) := by decide +kernel
theorem dX6_then_75 : decode cX6_then 75 = .ok (.getfield 70, 3) := by decide +kernel
theorem dX6_then_78 : decode cX6_then 78 = .ok (.irem, 1) := by decide +kernel
theorem dX6_then_79 : decode cX6_then 79 = .ok (.ifCond .le 14, 3) := by decide +kernel
theorem dX6_then_82 : decode cX6_then 82 = .ok (.iload_n 2, 1) := by decide +kernel
theorem dX6_then_83 : decode cX6_then 83 = .ok (.iconst 1, 1) := by decide +kernel
theorem dX6_then_84 : decode cX6_then 84 = .ok (.iand, 1) := by decide +kernel
theorem dX6_then_85 : decode cX6_then 85 = .ok (.iconst 1, 1) := by decide +kernel
theorem dX6_then_86 : decode cX6_then 86 = .ok (.if_icmp .ne 7, 3) := by decide +kernel
theorem dX6_then_89 : decode cX6_then 89 = .ok (.iconst 1, 1) := by decide +kernel
theorem dX6_then_90 : decode cX6_then 90 = .ok (.goto 4, 3) := by decide +kernel
theorem dX6_then_93 : decode cX6_then 93 = .ok (.iconst 0, 1) := by decide +kernel
theorem dX6_then_94 : decode cX6_then 94 = .ok (.istore 7, 2) := by decide +kernel
theorem dX6_then_96 : decode cX6_then 96 = .ok (.iload 7, 2) := by decide +kernel
theorem dX6_then_98 : decode cX6_then 98 = .ok (.ifCond .eq 11, 3) := by decide +kernel
theorem dX6_then_101 : decode cX6_then 101 = .ok (.aload_n 0, 1) := by decide +kernel
theorem dX6_then_102 : decode cX6_then 102 = .ok (.getfield 70, 3) := by decide +kernel
theorem dX6_then_105 : decode cX6_then 105 = .ok (.iconst 1, 1) := by decide +kernel
theorem dX6_then_106 : decode cX6_then 106 = .ok (.if_icmp .ne 6, 3) := by decide +kernel
theorem dX6_then_109 : decode cX6_then 109 = .ok (.ldc 112, 2) := by decide +kernel
theorem dX6_then_111 : decode cX6_then 111 = .ok (.ireturn, 1) := by decide +kernel
theorem dX6_then_112 : decode cX6_then 112 = .ok (.iload 6, 2) := by decide +kernel
theorem dX6_then_114 : decode cX6_then 114 = .ok (.bipush (-2), 2) := by decide +kernel
theorem dX6_then_116 : decode cX6_then 116 = .ok (.iand, 1) := by decide +kernel
theorem dX6_then_117 : decode cX6_then 117 = .ok (.istore 6, 2) := by decide +kernel
theorem dX6_then_119 : decode cX6_then 119 = .ok (.iload_n 3, 1) := by decide +kernel
theorem dX6_then_120 : decode cX6_then 120 = .ok (.ifCond .ne 14, 3) := by decide +kernel
theorem dX6_then_123 : decode cX6_then 123 = .ok (.aload_n 0, 1) := by decide +kernel
theorem dX6_then_124 : decode cX6_then 124 = .ok (.iload_n 1, 1) := by decide +kernel
theorem dX6_then_125 : decode cX6_then 125 = .ok (.invokevirtual 113, 3) := by decide +kernel
theorem dX6_then_128 : decode cX6_then 128 = .ok (.ifCond .ne 6, 3) := by decide +kernel
theorem dX6_then_131 : decode cX6_then 131 = .ok (.ldc 112, 2) := by decide +kernel
theorem dX6_then_133 : decode cX6_then 133 = .ok (.ireturn, 1) := by decide +kernel
theorem dX6_then_134 : decode cX6_then 134 = .ok (.iconst 2, 1) := by decide +kernel
theorem dX6_then_135 : decode cX6_then 135 = .ok (.iload 6, 2) := by decide +kernel
theorem dX6_then_137 : decode cX6_then 137 = .ok (.imul, 1) := by decide +kernel
theorem dX6_then_138 : decode cX6_then 138 = .ok (.aload_n 0, 1) := by decide +kernel
theorem dX6_then_139 : decode cX6_then 139 = .ok (.iload_n 1, 1) := by decide +kernel
theorem dX6_then_140 : decode cX6_then 140 = .ok (.invokevirtual 113, 3) := by decide +kernel
theorem dX6_then_143 : decode cX6_then 143 = .ok (.ifCond .eq 11, 3) := by decide +kernel
theorem dX6_then_146 : decode cX6_then 146 = .ok (.iload_n 3, 1) := by decide +kernel
theorem dX6_then_147 : decode cX6_then 147 = .ok (.ifCond .eq 7, 3) := by decide +kernel
theorem dX6_then_150 : decode cX6_then 150 = .ok (.iconst 1, 1) := by decide +kernel
theorem dX6_then_151 : decode cX6_then 151 = .ok (.goto 4, 3) := by decide +kernel
theorem dX6_then_154 : decode cX6_then 154 = .ok (.iconst 0, 1) := by decide +kernel
theorem dX6_then_155 : decode cX6_then 155 = .ok (.iadd, 1) := by decide +kernel
theorem dX6_then_156 : decode cX6_then 156 = .ok (.ireturn, 1) := by decide +kernel
def f_X6_then_155 (s0 : Int32) (s1 : Int32) (σ : St) : Option (Int32 × St) :=
  some ((s0 + s1), σ)
set_option maxRecDepth 100000 in
set_option maxHeartbeats 4000000 in
theorem b_X6_then_155 {g : Geo} {x : Cx} (C : Ok g x cX6_then RX6 8 (some .int) rm_X6_then) : ∀ (s0 : Int32) (s1 : Int32) (σ : St) (r : Int32) (σ' : St), f_X6_then_155 s0 s1 σ = some (r, σ') → V g x (qm g x (some (.int r)) σ') 8 σ [] [.int s1, .int s0] 155 := by
  intro s0 s1 σ r σ' h
  unfold f_X6_then_155 at h
  refine v_iadd C dX6_then_155 ?_
  cases h
  exact v_iret C dX6_then_156
def f_X6_then_154 (s0 : Int32) (σ : St) : Option (Int32 × St) :=
  f_X6_then_155 s0 (0 : Int32) σ
set_option maxRecDepth 100000 in
set_option maxHeartbeats 4000000 in
theorem b_X6_then_154 {g : Geo} {x : Cx} (C : Ok g x cX6_then RX6 8 (some .int) rm_X6_then) : ∀ (s0 : Int32) (σ : St) (r : Int32) (σ' : St), f_X6_then_154 s0 σ = some (r, σ') → V g x (qm g x (some (.int r)) σ') 8 σ [] [.int s0] 154 := by
  intro s0 σ r σ' h
  unfold f_X6_then_154 at h
  refine v_iconst C (v := (0 : Int32)) dX6_then_154 (by decide) ?_
  refine V.sub (lv' := []) [] rfl ?_
  exact b_X6_then_155 C _ _  _ _ _ h
def f_X6_then_134 (x1 : Int32) (x3 : Int32) (x6 : Int32) (σ : St) : Option (Int32 × St) :=
  bd (f_X6_isDown x1 σ) fun v1 σ2 =>
  if v1 = 0 then
    f_X6_then_154 ((2 : Int32) * x6) σ2
  else
    if x3 = 0 then
      f_X6_then_154 ((2 : Int32) * x6) σ2
    else
      f_X6_then_155 ((2 : Int32) * x6) (1 : Int32) σ2
set_option maxRecDepth 100000 in
set_option maxHeartbeats 4000000 in
theorem b_X6_then_134 {g : Geo} {x : Cx} (C : Ok g x cX6_then RX6 8 (some .int) rm_X6_then) : ∀ (x1 : Int32) (x3 : Int32) (x6 : Int32) (σ : St) (r : Int32) (σ' : St), f_X6_then_134 x1 x3 x6 σ = some (r, σ') → V g x (qm g x (some (.int r)) σ') 8 σ [(0, .ref (g.1 26)), (1, .int x1), (3, .int x3), (6, .int x6)] [] 134 := by
  intro x1 x3 x6 σ r σ' h
  unfold f_X6_then_134 at h
  refine v_iconst C (v := (2 : Int32)) dX6_then_134 (by decide) ?_
  refine v_iload C dX6_then_135 3 rfl ?_
  refine v_imul C dX6_then_137 ?_
  refine v_aload_n C dX6_then_138 rfl 0 rfl ?_
  refine v_iload_n C dX6_then_139 rfl 1 rfl ?_
  obtain ⟨v1, σ2, cσ2, h⟩ := bd_some h
  refine callVi C (c_X6_isDown cσ2) km_X6_isDown kv_X6_isDown rfl ml_RX6_113 rfl rfl (by decide) (Nat.le_of_ble_eq_true rfl) dX6_then_140 ?_
  refine v_if_eq C (tgt := 154) dX6_then_143 (by decide) (fun q4 => ?_) (fun q4 => ?_)
  · rw [if_pos q4] at h
    refine V.sub (lv' := []) [] rfl ?_
    exact b_X6_then_154 C _  _ _ _ h
  · rw [if_neg q4] at h
    refine v_iload_n C dX6_then_146 rfl 2 rfl ?_
    refine v_if_eq C (tgt := 154) dX6_then_147 (by decide) (fun q3 => ?_) (fun q3 => ?_)
    · rw [if_pos q3] at h
      refine V.sub (lv' := []) [] rfl ?_
      exact b_X6_then_154 C _  _ _ _ h
    · rw [if_neg q3] at h
      refine v_iconst C (v := (1 : Int32)) dX6_then_150 (by decide) ?_
      refine v_goto C (tgt := 155) dX6_then_151 (by decide) ?_
      refine V.sub (lv' := []) [] rfl ?_
      exact b_X6_then_155 C _ _  _ _ _ h
def f_X6_then_119 (x1 : Int32) (x3 : Int32) (x6 : Int32) (σ : St) : Option (Int32 × St) :=
  if x3 = 0 then
    bd (f_X6_isDown x1 σ) fun v1 σ2 =>
    if v1 = 0 then
      some ((-900009 : Int32), σ2)
    else
      f_X6_then_134 x1 x3 x6 σ2
  else
    f_X6_then_134 x1 x3 x6 σ
set_option maxRecDepth 100000 in
set_option maxHeartbeats 4000000 in
theorem b_X6_then_119 {g : Geo} {x : Cx} (C : Ok g x cX6_then RX6 8 (some .int) rm_X6_then) : ∀ (x1 : Int32) (x3 : Int32) (x6 : Int32) (σ : St) (r : Int32) (σ' : St), f_X6_then_119 x1 x3 x6 σ = some (r, σ') → V g x (qm g x (some (.int r)) σ') 8 σ [(0, .ref (g.1 26)), (1, .int x1), (3, .int x3), (6, .int x6)] [] 119 := by
  intro x1 x3 x6 σ r σ' h
  unfold f_X6_then_119 at h
  refine v_iload_n C dX6_then_119 rfl 2 rfl ?_
  refine v_if_ne C (tgt := 134) dX6_then_120 (by decide) (fun q4 => ?_) (fun q4 => ?_)
  · rw [if_neg q4] at h
    refine V.sub (lv' := [(0, .ref _), (1, .int _), (3, .int _), (6, .int _)]) [0, 1, 2, 3] rfl ?_
    exact b_X6_then_134 C _ _ _  _ _ _ h
  · rw [if_pos q4] at h
    refine v_aload_n C dX6_then_123 rfl 0 rfl ?_
    refine v_iload_n C dX6_then_124 rfl 1 rfl ?_
    obtain ⟨v1, σ2, cσ2, h⟩ := bd_some h
    refine callVi C (c_X6_isDown cσ2) km_X6_isDown kv_X6_isDown rfl ml_RX6_113 rfl rfl (by decide) (Nat.le_of_ble_eq_true rfl) dX6_then_125 ?_
    refine v_if_ne C (tgt := 134) dX6_then_128 (by decide) (fun q3 => ?_) (fun q3 => ?_)
    · rw [if_neg q3] at h
      refine V.sub (lv' := [(0, .ref _), (1, .int _), (3, .int _), (6, .int _)]) [0, 1, 2, 3] rfl ?_
      exact b_X6_then_134 C _ _ _  _ _ _ h
    · rw [if_pos q3] at h
      refine v_ldc C (v := (-900009 : Int32)) con_RX6_112 dX6_then_131 ?_
      cases h
      exact v_iret C dX6_then_133
def f_X6_then_109 (σ : St) : Option (Int32 × St) :=
  some ((-900009 : Int32), σ)
set_option maxRecDepth 100000 in
set_option maxHeartbeats 4000000 in
theorem b_X6_then_109 {g : Geo} {x : Cx} (C : Ok g x cX6_then RX6 8 (some .int) rm_X6_then) : ∀ (σ : St) (r : Int32) (σ' : St), f_X6_then_109 σ = some (r, σ') → V g x (qm g x (some (.int r)) σ') 8 σ [] [] 109 := by
  intro σ r σ' h
  unfold f_X6_then_109 at h
  refine v_ldc C (v := (-900009 : Int32)) con_RX6_112 dX6_then_109 ?_
  cases h
  exact v_iret C dX6_then_111
def f_X6_then_94 (x1 : Int32) (x3 : Int32) (x6 : Int32) (s0 : Int32) (σ : St) : Option (Int32 × St) :=
  if s0 = 0 then
    f_X6_then_109 σ
  else
    if (gi σ 26 0) = (1 : Int32) then
      f_X6_then_109 σ
    else
      f_X6_then_119 x1 x3 (x6 &&& (-2 : Int32)) σ
set_option maxRecDepth 100000 in
set_option maxHeartbeats 4000000 in
theorem b_X6_then_94 {g : Geo} {x : Cx} (C : Ok g x cX6_then RX6 8 (some .int) rm_X6_then) : ∀ (x1 : Int32) (x3 : Int32) (x6 : Int32) (s0 : Int32) (σ : St) (r : Int32) (σ' : St), f_X6_then_94 x1 x3 x6 s0 σ = some (r, σ') → V g x (qm g x (some (.int r)) σ') 8 σ [(0, .ref (g.1 26)), (1, .int x1), (3, .int x3), (6, .int x6)] [.int s0] 94 := by
  intro x1 x3 x6 s0 σ r σ' h
  unfold f_X6_then_94 at h
  refine v_istore C (lv' := [(7, .int _), (0, .ref _), (1, .int _), (3, .int _), (6, .int _)]) dX6_then_94 (by decide) rfl ?_
  refine v_iload C dX6_then_96 0 rfl ?_
  refine v_if_eq C (tgt := 109) dX6_then_98 (by decide) (fun q2 => ?_) (fun q2 => ?_)
  · rw [if_pos q2] at h
    refine V.sub (lv' := []) [] rfl ?_
    exact b_X6_then_109 C  _ _ _ h
  · rw [if_neg q2] at h
    refine v_aload_n C dX6_then_101 rfl 1 rfl ?_
    refine v_getI C fl_RX6_70 rfl dX6_then_102 ?_
    refine v_iconst C (v := (1 : Int32)) dX6_then_105 (by decide) ?_
    refine v_icmp_ne C (tgt := 112) dX6_then_106 (by decide) (fun q1 => ?_) (fun q1 => ?_)
    · rw [if_neg q1] at h
      refine v_iload C dX6_then_112 4 rfl ?_
      refine v_bipush C (v := (-2 : Int32)) dX6_then_114 (by decide) ?_
      refine v_iand C dX6_then_116 ?_
      refine v_istore C (lv' := [(6, .int _), (7, .int _), (0, .ref _), (1, .int _), (3, .int _)]) dX6_then_117 (by decide) rfl ?_
      refine V.sub (lv' := [(0, .ref _), (1, .int _), (3, .int _), (6, .int _)]) [2, 3, 4, 0] rfl ?_
      exact b_X6_then_119 C _ _ _  _ _ _ h
    · rw [if_pos q1] at h
      refine V.sub (lv' := []) [] rfl ?_
      exact b_X6_then_109 C  _ _ _ h
def f_X6_then_93 (x1 : Int32) (x3 : Int32) (x6 : Int32) (σ : St) : Option (Int32 × St) :=
  f_X6_then_94 x1 x3 x6 (0 : Int32) σ
set_option maxRecDepth 100000 in
set_option maxHeartbeats 4000000 in
theorem b_X6_then_93 {g : Geo} {x : Cx} (C : Ok g x cX6_then RX6 8 (some .int) rm_X6_then) : ∀ (x1 : Int32) (x3 : Int32) (x6 : Int32) (σ : St) (r : Int32) (σ' : St), f_X6_then_93 x1 x3 x6 σ = some (r, σ') → V g x (qm g x (some (.int r)) σ') 8 σ [(0, .ref (g.1 26)), (1, .int x1), (3, .int x3), (6, .int x6)] [] 93 := by
  intro x1 x3 x6 σ r σ' h
  unfold f_X6_then_93 at h
  refine v_iconst C (v := (0 : Int32)) dX6_then_93 (by decide) ?_
  refine V.sub (lv' := [(0, .ref _), (1, .int _), (3, .int _), (6, .int _)]) [0, 1, 2, 3] rfl ?_
  exact b_X6_then_94 C _ _ _ _  _ _ _ h
def f_X6_then_65 (σ : St) : Option (Int32 × St) :=
  some ((-900009 : Int32), σ)
set_option maxRecDepth 100000 in
set_option maxHeartbeats 4000000 in
theorem b_X6_then_65 {g : Geo} {x : Cx} (C : Ok g x cX6_then RX6 8 (some .int) rm_X6_then) : ∀ (σ : St) (r : Int32) (σ' : St), f_X6_then_65 σ = some (r, σ') → V g x (qm g x (some (.int r)) σ') 8 σ [] [] 65 := by
  intro σ r σ' h
  unfold f_X6_then_65 at h
  refine v_ldc C (v := (-900009 : Int32)) con_RX6_112 dX6_then_65 ?_
  cases h
  exact v_iret C dX6_then_67
def f_X6_then_57 (x1 : Int32) (x2 : Int32) (x3 : Int32) (x6 : Int32) (s0 : Int32) (σ : St) : Option (Int32 × St) :=
  bd (f_X6_isUp x1 σ) fun v1 σ2 =>
  if s0 = v1 then
    if x3 = (1 : Int32) then
      rmI x1 (gi σ2 26 0) fun v3 =>
      if v3 ≤ 0 then
        f_X6_then_93 x1 x3 x6 σ2
      else
        if (x2 &&& (1 : Int32)) = (1 : Int32) then
          f_X6_then_94 x1 x3 x6 (1 : Int32) σ2
        else
          f_X6_then_93 x1 x3 x6 σ2
    else
      f_X6_then_119 x1 x3 x6 σ2
  else
    f_X6_then_65 σ2
set_option maxRecDepth 100000 in
set_option maxHeartbeats 4000000 in
theorem b_X6_then_57 {g : Geo} {x : Cx} (C : Ok g x cX6_then RX6 8 (some .int) rm_X6_then) : ∀ (x1 : Int32) (x2 : Int32) (x3 : Int32) (x6 : Int32) (s0 : Int32) (σ : St) (r : Int32) (σ' : St), f_X6_then_57 x1 x2 x3 x6 s0 σ = some (r, σ') → V g x (qm g x (some (.int r)) σ') 8 σ [(0, .ref (g.1 26)), (1, .int x1), (2, .int x2), (3, .int x3), (6, .int x6)] [.int s0] 57 := by
  intro x1 x2 x3 x6 s0 σ r σ' h
  unfold f_X6_then_57 at h
  refine v_aload_n C dX6_then_57 rfl 0 rfl ?_
  refine v_iload_n C dX6_then_58 rfl 1 rfl ?_
  obtain ⟨v1, σ2, cσ2, h⟩ := bd_some h
  refine callVi C (c_X6_isUp cσ2) km_X6_isUp kv_X6_isUp rfl ml_RX6_108 rfl rfl (by decide) (Nat.le_of_ble_eq_true rfl) dX6_then_59 ?_
  refine v_icmp_eq C (tgt := 68) dX6_then_62 (by decide) (fun q7 => ?_) (fun q7 => ?_)
  · rw [if_pos q7] at h
    refine v_iload_n C dX6_then_68 rfl 3 rfl ?_
    refine v_iconst C (v := (1 : Int32)) dX6_then_69 (by decide) ?_
    refine v_icmp_ne C (tgt := 119) dX6_then_70 (by decide) (fun q6 => ?_) (fun q6 => ?_)
    · rw [if_neg q6] at h
      refine V.sub (lv' := [(0, .ref _), (1, .int _), (3, .int _), (6, .int _)]) [0, 1, 3, 4] rfl ?_
      exact b_X6_then_119 C _ _ _  _ _ _ h
    · rw [if_pos q6] at h
      refine v_iload_n C dX6_then_73 rfl 1 rfl ?_
      refine v_aload_n C dX6_then_74 rfl 0 rfl ?_
      refine v_getI C fl_RX6_70 rfl dX6_then_75 ?_
      obtain ⟨nv3, v3, ev3, h⟩ := rmI_ex h
      refine x_irem C nv3 ev3 dX6_then_78 ?_
      refine v_if_le C (tgt := 93) dX6_then_79 (by decide) (fun q5 => ?_) (fun q5 => ?_)
      · rw [if_pos q5] at h
        refine V.sub (lv' := [(0, .ref _), (1, .int _), (3, .int _), (6, .int _)]) [0, 1, 3, 4] rfl ?_
        exact b_X6_then_93 C _ _ _  _ _ _ h
      · rw [if_neg q5] at h
        refine v_iload_n C dX6_then_82 rfl 2 rfl ?_
        refine v_iconst C (v := (1 : Int32)) dX6_then_83 (by decide) ?_
        refine v_iand C dX6_then_84 ?_
        refine v_iconst C (v := (1 : Int32)) dX6_then_85 (by decide) ?_
        refine v_icmp_ne C (tgt := 93) dX6_then_86 (by decide) (fun q4 => ?_) (fun q4 => ?_)
        · rw [if_neg q4] at h
          refine V.sub (lv' := [(0, .ref _), (1, .int _), (3, .int _), (6, .int _)]) [0, 1, 3, 4] rfl ?_
          exact b_X6_then_93 C _ _ _  _ _ _ h
        · rw [if_pos q4] at h
          refine v_iconst C (v := (1 : Int32)) dX6_then_89 (by decide) ?_
          refine v_goto C (tgt := 94) dX6_then_90 (by decide) ?_
          refine V.sub (lv' := [(0, .ref _), (1, .int _), (3, .int _), (6, .int _)]) [0, 1, 3, 4] rfl ?_
          exact b_X6_then_94 C _ _ _ _  _ _ _ h
  · rw [if_neg q7] at h
    refine V.sub (lv' := []) [] rfl ?_
    exact b_X6_then_65 C  _ _ _ h
def f_X6_then_44 (x1 : Int32) (x2 : Int32) (x3 : Int32) (x6 : Int32) (s0 : Int32) (s1 : Int32) (σ : St) : Option (Int32 × St) :=
  if s0 = s1 then
    if (3 : Int32) ≤ x3 then
      f_X6_then_57 x1 x2 x3 x6 (0 : Int32) σ
    else
      f_X6_then_57 x1 x2 x3 x6 (1 : Int32) σ
  else
    f_X6_then_65 σ
set_option maxRecDepth 100000 in
set_option maxHeartbeats 4000000 in
theorem b_X6_then_44 {g : Geo} {x : Cx} (C : Ok g x cX6_then RX6 8 (some .int) rm_X6_then) : ∀ (x1 : Int32) (x2 : Int32) (x3 : Int32) (x6 : Int32) (s0 : Int32) (s1 : Int32) (σ : St) (r : Int32) (σ' : St), f_X6_then_44 x1 x2 x3 x6 s0 s1 σ = some (r, σ') → V g x (qm g x (some (.int r)) σ') 8 σ [(0, .ref (g.1 26)), (1, .int x1), (2, .int x2), (3, .int x3), (6, .int x6)] [.int s1, .int s0] 44 := by
  intro x1 x2 x3 x6 s0 s1 σ r σ' h
  unfold f_X6_then_44 at h
  refine v_icmp_ne C (tgt := 65) dX6_then_44 (by decide) (fun q2 => ?_) (fun q2 => ?_)
  · rw [if_neg q2] at h
    refine V.sub (lv' := []) [] rfl ?_
    exact b_X6_then_65 C  _ _ _ h
  · rw [if_pos q2] at h
    refine v_iload_n C dX6_then_47 rfl 3 rfl ?_
    refine v_iconst C (v := (3 : Int32)) dX6_then_48 (by decide) ?_
    refine v_icmp_ge C (tgt := 56) dX6_then_49 (by decide) (fun q1 => ?_) (fun q1 => ?_)
    · rw [if_pos q1] at h
      refine v_iconst C (v := (0 : Int32)) dX6_then_56 (by decide) ?_
      refine V.sub (lv' := [(0, .ref _), (1, .int _), (2, .int _), (3, .int _), (6, .int _)]) [0, 1, 2, 3, 4] rfl ?_
      exact b_X6_then_57 C _ _ _ _ _  _ _ _ h
    · rw [if_neg q1] at h
      refine v_iconst C (v := (1 : Int32)) dX6_then_52 (by decide) ?_
      refine v_goto C (tgt := 57) dX6_then_53 (by decide) ?_
      refine V.sub (lv' := [(0, .ref _), (1, .int _), (2, .int _), (3, .int _), (6, .int _)]) [0, 1, 2, 3, 4] rfl ?_
      exact b_X6_then_57 C _ _ _ _ _  _ _ _ h
def f_X6_then_22 (x1 : Int32) (x2 : Int32) (x3 : Int32) (x4 : Int32) (s0 : Int32) (σ : St) : Option (Int32 × St) :=
  if x3 = (2 : Int32) then
    f_X6_then_44 x1 x2 x3 (x2 &&& (x4 ^^^ (-1 : Int32))) s0 (1 : Int32) σ
  else
    f_X6_then_44 x1 x2 x3 (x2 &&& (x4 ^^^ (-1 : Int32))) s0 (0 : Int32) σ
set_option maxRecDepth 100000 in
set_option maxHeartbeats 4000000 in
theorem b_X6_then_22 {g : Geo} {x : Cx} (C : Ok g x cX6_then RX6 8 (some .int) rm_X6_then) : ∀ (x1 : Int32) (x2 : Int32) (x3 : Int32) (x4 : Int32) (s0 : Int32) (σ : St) (r : Int32) (σ' : St), f_X6_then_22 x1 x2 x3 x4 s0 σ = some (r, σ') → V g x (qm g x (some (.int r)) σ') 8 σ [(0, .ref (g.1 26)), (1, .int x1), (2, .int x2), (3, .int x3), (4, .int x4)] [.int s0] 22 := by
  intro x1 x2 x3 x4 s0 σ r σ' h
  unfold f_X6_then_22 at h
  refine v_istore C (lv' := [(5, .int _), (0, .ref _), (1, .int _), (2, .int _), (3, .int _), (4, .int _)]) dX6_then_22 (by decide) rfl ?_
  refine v_iload_n C dX6_then_24 rfl 3 rfl ?_
  refine v_iload C dX6_then_25 5 rfl ?_
  refine v_iconst C (v := (-1 : Int32)) dX6_then_27 (by decide) ?_
  refine v_ixor C dX6_then_28 ?_
  refine v_iand C dX6_then_29 ?_
  refine v_istore C (lv' := [(6, .int _), (5, .int _), (0, .ref _), (1, .int _), (2, .int _), (3, .int _), (4, .int _)]) dX6_then_30 (by decide) rfl ?_
  refine v_iload C dX6_then_32 1 rfl ?_
  refine v_iload_n C dX6_then_34 rfl 5 rfl ?_
  refine v_iconst C (v := (2 : Int32)) dX6_then_35 (by decide) ?_
  refine v_icmp_ne C (tgt := 43) dX6_then_36 (by decide) (fun q1 => ?_) (fun q1 => ?_)
  · rw [if_neg q1] at h
    refine v_iconst C (v := (0 : Int32)) dX6_then_43 (by decide) ?_
    refine V.sub (lv' := [(0, .ref _), (1, .int _), (2, .int _), (3, .int _), (6, .int _)]) [2, 3, 4, 5, 0] rfl ?_
    exact b_X6_then_44 C _ _ _ _ _ _  _ _ _ h
  · rw [if_pos q1] at h
    refine v_iconst C (v := (1 : Int32)) dX6_then_39 (by decide) ?_
    refine v_goto C (tgt := 44) dX6_then_40 (by decide) ?_
    refine V.sub (lv' := [(0, .ref _), (1, .int _), (2, .int _), (3, .int _), (6, .int _)]) [2, 3, 4, 5, 0] rfl ?_
    exact b_X6_then_44 C _ _ _ _ _ _  _ _ _ h
def f_X6_then (a1 : Int32) (a2 : Int32) (a3 : Int32) (σ : St) : Option (Int32 × St) :=
  if (a2 &&& (jshl (1 : Int32) ((gi σ 26 0) - (1 : Int32)))) = 0 then
    f_X6_then_22 a1 a2 a3 (jshl (1 : Int32) ((gi σ 26 0) - (1 : Int32))) (0 : Int32) σ
  else
    f_X6_then_22 a1 a2 a3 (jshl (1 : Int32) ((gi σ 26 0) - (1 : Int32))) (1 : Int32) σ
set_option maxRecDepth 100000 in
set_option maxHeartbeats 4000000 in
theorem c_X6_then {g : Geo} {a1 : Int32} {a2 : Int32} {a3 : Int32} {σ : St} {r : Int32} {σ' : St} (h : f_X6_then a1 a2 a3 σ = some (r, σ')) : Ct g yX6_then cX6_then 8 (some .int) rm_X6_then [.ref (g.1 26), .int a1, .int a2, .int a3] σ (some (.int r)) σ' := by
  refine ct_of (own := RX6) (by decide) rfl (Nat.le_of_ble_eq_true rfl) (fun x C => ?_) ⟨rfl, rfl⟩
  show V g x _ 8 σ [(0, .ref (g.1 26)), (1, .int a1), (2, .int a2), (3, .int a3)] [] 0
  unfold f_X6_then at h
  refine v_iconst C (v := (1 : Int32)) dX6_then_0 (by decide) ?_
  refine v_aload_n C dX6_then_1 rfl 0 rfl ?_
  refine v_getI C fl_RX6_70 rfl dX6_then_2 ?_
  refine v_iconst C (v := (1 : Int32)) dX6_then_5 (by decide) ?_
  refine v_isub C dX6_then_6 ?_
  refine v_ishl C dX6_then_7 ?_
  refine v_istore C (lv' := [(4, .int _), (0, .ref _), (1, .int _), (2, .int _), (3, .int _)]) dX6_then_8 (by decide) rfl ?_
  refine v_iload_n C dX6_then_10 rfl 3 rfl ?_
  refine v_iload C dX6_then_11 0 rfl ?_
  refine v_iand C dX6_then_13 ?_
  refine v_if_eq C (tgt := 21) dX6_then_14 (by decide) (fun q1 => ?_) (fun q1 => ?_)
  · rw [if_pos q1] at h
    refine v_iconst C (v := (0 : Int32)) dX6_then_21 (by decide) ?_
    refine V.sub (lv' := [(0, .ref _), (1, .int _), (2, .int _), (3, .int _), (4, .int _)]) [1, 2, 3, 4, 0] rfl ?_
    exact b_X6_then_22 C _ _ _ _ _  _ _ _ h
  · rw [if_neg q1] at h
    refine v_iconst C (v := (1 : Int32)) dX6_then_17 (by decide) ?_
    refine v_goto C (tgt := 22) dX6_then_18 (by decide) ?_
    refine V.sub (lv' := [(0, .ref _), (1, .int _), (2, .int _), (3, .int _), (4, .int _)]) [1, 2, 3, 4, 0] rfl ?_
    exact b_X6_then_22 C _ _ _ _ _  _ _ _ h
theorem dX6_layWays_0 : decode cX6_layWays 0 = .ok (.iconst 1, 1) := by decide +kernel
theorem dX6_layWays_1 : decode cX6_layWays 1 = .ok (.aload_n 0, 1) := by decide +kernel
theorem dX6_layWays_2 : decode cX6_layWays 2 = .ok (.getfield 70, 3) := by decide +kernel
theorem dX6_layWays_5 : decode cX6_layWays 5 = .ok (.ishl, 1) := by decide +kernel
theorem dX6_layWays_6 : decode cX6_layWays 6 = .ok (.istore_n 1, 1) := by decide +kernel
theorem dX6_layWays_7 : decode cX6_layWays 7 = .ok (.iconst 0, 1) := by decide +kernel
theorem dX6_layWays_8 : decode cX6_layWays 8 = .ok (.istore_n 2, 1) := by decide +kernel
theorem dX6_layWays_9 : decode cX6_layWays 9 = .ok (.iload_n 2, 1) := by decide +kernel
theorem dX6_layWays_10 : decode cX6_layWays 10 = .ok (.iload_n 1, 1) := by decide +kernel
theorem dX6_layWays_11 : decode cX6_layWays 11 = .ok (.if_icmp .ge 33, 3) := by decide +kernel
theorem dX6_layWays_14 : decode cX6_layWays 14 = .ok (.aload_n 0, 1) := by decide +kernel
theorem dX6_layWays_15 : decode cX6_layWays 15 = .ok (.getfield 23, 3) := by decide +kernel
theorem dX6_layWays_18 : decode cX6_layWays 18 = .ok (.sipush 256, 3) := by decide +kernel
theorem dX6_layWays_21 : decode cX6_layWays 21 = .ok (.aload_n 0, 1) := by decide +kernel
theorem dX6_layWays_22 : decode cX6_layWays 22 = .ok (.invokevirtual 80, 3) := by decide +kernel
theorem dX6_layWays_25 : decode cX6_layWays 25 = .ok (.imul, 1) := by decide +kernel
theorem dX6_layWays_26 : decode cX6_layWays 26 = .ok (.iload_n 2, 1) := by decide +kernel
theorem dX6_layWays_27 : decode cX6_layWays 27 = .ok (.iadd, 1) := by decide +kernel
theorem dX6_layWays_28 : decode cX6_layWays 28 = .ok (.iload_n 2, 1) := by decide +kernel
theorem dX6_layWays_29 : decode cX6_layWays 29 = .ok (.ifCond .ne 7, 3) := by decide +kernel
theorem dX6_layWays_32 : decode cX6_layWays 32 = .ok (.lconst 1, 1) := by decide +kernel
theorem dX6_layWays_33 : decode cX6_layWays 33 = .ok (.goto 4, 3) := by decide +kernel
theorem dX6_layWays_36 : decode cX6_layWays 36 = .ok (.lconst 0, 1) := by decide +kernel
theorem dX6_layWays_37 : decode cX6_layWays 37 = .ok (.lastore, 1) := by decide +kernel
theorem dX6_layWays_38 : decode cX6_layWays 38 = .ok (.iinc 2 1, 3) := by decide +kernel
theorem dX6_layWays_41 : decode cX6_layWays 41 = .ok (.goto (-32), 3) := by decide +kernel
theorem dX6_layWays_44 : decode cX6_layWays 44 = .ok (.aload_n 0, 1) := by decide +kernel
theorem dX6_layWays_45 : decode cX6_layWays 45 = .ok (.invokevirtual 80, 3) := by decide +kernel
theorem dX6_layWays_48 : decode cX6_layWays 48 = .ok (.iconst 1, 1) := by decide +kernel
theorem dX6_layWays_49 : decode cX6_layWays 49 = .ok (.isub, 1) := by decide +kernel
theorem dX6_layWays_50 : decode cX6_layWays 50 = .ok (.istore_n 2, 1) := by decide +kernel
theorem dX6_layWays_51 : decode cX6_layWays 51 = .ok (.iload_n 2, 1) := by decide +kernel
theorem dX6_layWays_52 : decode cX6_layWays 52 = .ok (.ifCond .lt 97, 3) := by decide +kernel
theorem dX6_layWays_55 : decode cX6_layWays 55 = .ok (.iconst 0, 1) := by decide +kernel
theorem dX6_layWays_56 : decode cX6_layWays 56 = .ok (.istore_n 3, 1) := by decide +kernel
theorem dX6_layWays_57 : decode cX6_layWays 57 = .ok (.iload_n 3, 1) := by decide +kernel
theorem dX6_layWays_58 : decode cX6_layWays 58 = .ok (.iload_n 1, 1) := by decide +kernel
theorem dX6_layWays_59 : decode cX6_layWays 59 = .ok (.if_icmp .ge 84, 3) := by decide +kernel
theorem dX6_layWays_62 : decode cX6_layWays 62 = .ok (.lconst 0, 1) := by decide +kernel
theorem dX6_layWays_63 : decode cX6_layWays 63 = .ok (.lstore 4, 2) := by decide +kernel
theorem dX6_layWays_65 : decode cX6_layWays 65 = .ok (.iconst 0, 1) := by decide +kernel
theorem dX6_layWays_66 : decode cX6_layWays 66 = .ok (.istore 6, 2) := by decide +kernel
theorem dX6_layWays_68 : decode cX6_layWays 68 = .ok (.iload 6, 2) := by decide +kernel
theorem dX6_layWays_70 : decode cX6_layWays 70 = .ok (.iconst 4, 1) := by decide +kernel
theorem dX6_layWays_71 : decode cX6_layWays 71 = .ok (.if_icmp .ge 52, 3) := by decide +kernel
theorem dX6_layWays_74 : decode cX6_layWays 74 = .ok (.aload_n 0, 1) := by decide +kernel
theorem dX6_layWays_75 : decode cX6_layWays 75 = .ok (.iload_n 2, 1) := by decide +kernel
theorem dX6_layWays_76 : decode cX6_layWays 76 = .ok (.iload_n 3, 1) := by decide +kernel
theorem dX6_layWays_77 : decode cX6_layWays 77 = .ok (.iload 6, 2) := by decide +kernel
theorem dX6_layWays_79 : decode cX6_layWays 79 = .ok (.invokevirtual 116, 3) := by decide +kernel
theorem dX6_layWays_82 : decode cX6_layWays 82 = .ok (.istore 7, 2) := by decide +kernel
theorem dX6_layWays_84 : decode cX6_layWays 84 = .ok (.lload 4, 2) := by decide +kernel
theorem dX6_layWays_86 : decode cX6_layWays 86 = .ok (.iload 7, 2) := by decide +kernel
theorem dX6_layWays_88 : decode cX6_layWays 88 = .ok (.ldc 112, 2) := by decide +kernel
theorem dX6_layWays_90 : decode cX6_layWays 90 = .ok (.if_icmp .ne 7, 3) := by decide +kernel
theorem dX6_layWays_93 : decode cX6_layWays 93 = .ok (.lconst 0, 1) := by decide +kernel
theorem dX6_layWays_94 : decode cX6_layWays 94 = .ok (.goto 20, 3) := by decide +kernel
theorem dX6_layWays_97 : decode cX6_layWays 97 = .ok (.aload_n 0, 1) := by decide +kernel
theorem dX6_layWays_98 : decode cX6_layWays 98 = .ok (.getfield 23, 3) := by decide +kernel
theorem dX6_layWays_101 : decode cX6_layWays 101 = .ok (.sipush 256, 3) := by decide +kernel
theorem dX6_layWays_104 : decode cX6_layWays 104 = .ok (.iload_n 2, 1) := by decide +kernel
theorem dX6_layWays_105 : decode cX6_layWays 105 = .ok (.imul, 1) := by decide +kernel
theorem dX6_layWays_106 : decode cX6_layWays 106 = .ok (.sipush 256, 3) := by decide +kernel
theorem dX6_layWays_109 : decode cX6_layWays 109 = .ok (.iadd, 1) := by decide +kernel
theorem dX6_layWays_110 : decode cX6_layWays 110 = .ok (.iload 7, 2) := by decide +kernel
theorem dX6_layWays_112 : decode cX6_layWays 112 = .ok (.iadd, 1) := by decide +kernel
theorem dX6_layWays_113 : decode cX6_layWays 113 = .ok (.laload, 1) := by decide +kernel
theorem dX6_layWays_114 : decode cX6_layWays 114 = .ok (.ladd, 1) := by decide +kernel
theorem dX6_layWays_115 : decode cX6_layWays 115 = .ok (.lstore 4, 2) := by decide +kernel
theorem dX6_layWays_117 : decode cX6_layWays 117 = .ok (.iinc 6 1, 3) := by decide +kernel
theorem dX6_layWays_120 : decode cX6_layWays 120 = .ok (.goto (-52), 3) := by decide +kernel
theorem dX6_layWays_123 : decode cX6_layWays 123 = .ok (.aload_n 0, 1) := by decide +kernel
theorem dX6_layWays_124 : decode cX6_layWays 124 = .ok (.getfield 23, 3) := by decide +kernel
theorem dX6_layWays_127 : decode cX6_layWays 127 = .ok (.sipush 256, 3) := by decide +kernel
theorem dX6_layWays_130 : decode cX6_layWays 130 = .ok (.iload_n 2, 1) := by decide +kernel
theorem dX6_layWays_131 : decode cX6_layWays 131 = .ok (.imul, 1) := by decide +kernel
theorem dX6_layWays_132 : decode cX6_layWays 132 = .ok (.iload_n 3, 1) := by decide +kernel
theorem dX6_layWays_133 : decode cX6_layWays 133 = .ok (.iadd, 1) := by decide +kernel
theorem dX6_layWays_134 : decode cX6_layWays 134 = .ok (.lload 4, 2) := by decide +kernel
theorem dX6_layWays_136 : decode cX6_layWays 136 = .ok (.lastore, 1) := by decide +kernel
theorem dX6_layWays_137 : decode cX6_layWays 137 = .ok (.iinc 3 1, 3) := by decide +kernel
theorem dX6_layWays_140 : decode cX6_layWays 140 = .ok (.goto (-83), 3) := by decide +kernel
theorem dX6_layWays_143 : decode cX6_layWays 143 = .ok (.iinc 2 (-1), 3) := by decide +kernel
theorem dX6_layWays_146 : decode cX6_layWays 146 = .ok (.goto (-95), 3) := by decide +kernel
theorem dX6_layWays_149 : decode cX6_layWays 149 = .ok (.return_, 1) := by decide +kernel
def f_X6_layWays_114 (k68 : Int32 → Int32 → Int32 → Int64 → Int32 → St → Option (Unit × St)) (x1 : Int32) (x2 : Int32) (x3 : Int32) (x6 : Int32) (s0 : Int64) (s1 : Int64) (σ : St) : Option (Unit × St) :=
  k68 x1 x2 x3 (s0 + s1) (x6 + 1) σ
set_option maxRecDepth 100000 in
set_option maxHeartbeats 4000000 in
theorem b_X6_layWays_114 {g : Geo} {x : Cx} (C : Ok g x cX6_layWays RX6 8 none rm_X6_layWays) (k68 : Int32 → Int32 → Int32 → Int64 → Int32 → St → Option (Unit × St)) (hk68 : ∀ (x1 : Int32) (x2 : Int32) (x3 : Int32) (x4 : Int64) (x6 : Int32) (τ : St) (r : Unit) (τ' : St), k68 x1 x2 x3 x4 x6 τ = some (r, τ') → V g x (qm g x none τ') 8 τ [(0, .ref (g.1 26)), (1, .int x1), (2, .int x2), (3, .int x3), (4, .long x4), (6, .int x6)] [] 68) : ∀ (x1 : Int32) (x2 : Int32) (x3 : Int32) (x6 : Int32) (s0 : Int64) (s1 : Int64) (σ : St) (r : Unit) (σ' : St), f_X6_layWays_114 k68 x1 x2 x3 x6 s0 s1 σ = some (r, σ') → V g x (qm g x none σ') 8 σ [(0, .ref (g.1 26)), (1, .int x1), (2, .int x2), (3, .int x3), (6, .int x6)] [.long s1, .long s0] 114 := by
  intro x1 x2 x3 x6 s0 s1 σ r σ' h
  unfold f_X6_layWays_114 at h
  refine v_ladd C dX6_layWays_114 ?_
  refine v_lstore C (lv' := [(4, .long _), (0, .ref _), (1, .int _), (2, .int _), (3, .int _), (6, .int _)]) dX6_layWays_115 (by decide) rfl ?_
  refine v_iinc C (v := (x6 + 1)) (lv' := [(6, .int _), (4, .long _), (0, .ref _), (1, .int _), (2, .int _), (3, .int _)]) dX6_layWays_117 5 rfl rfl (by decide) rfl ?_
  refine v_goto C (tgt := 68) dX6_layWays_120 (by decide) ?_
  refine V.sub (lv' := [(0, .ref _), (1, .int _), (2, .int _), (3, .int _), (4, .long _), (6, .int _)]) [2, 3, 4, 5, 1, 0] rfl ?_
  exact hk68 _ _ _ _ _  _ _ _ h
def f_X6_layWays_68 (k57 : Int32 → Int32 → Int32 → St → Option (Unit × St)) : Nat → Int32 → Int32 → Int32 → Int64 → Int32 → St → Option (Unit × St)
  | 0, _, _, _, _, _, _ => none
  | n + 1, x1, x2, x3, x4, x6, σ =>
    if (4 : Int32) ≤ x6 then
      wrL σ 31 (((256 : Int32) * x2) + x3) x4 fun σ1 =>
      k57 x1 x2 (x3 + 1) σ1
    else
      bd (f_X6_then x2 x3 x6 σ) fun v2 σ3 =>
      if v2 = (-900009 : Int32) then
        f_X6_layWays_114 (f_X6_layWays_68 k57 n) x1 x2 x3 x6 x4 (0 : Int64) σ3
      else
        rdL σ3 31 ((((256 : Int32) * x2) + (256 : Int32)) + v2) fun v4 =>
        f_X6_layWays_114 (f_X6_layWays_68 k57 n) x1 x2 x3 x6 x4 v4 σ3
set_option maxRecDepth 100000 in
set_option maxHeartbeats 4000000 in
theorem b_X6_layWays_68 {g : Geo} {x : Cx} (C : Ok g x cX6_layWays RX6 8 none rm_X6_layWays) (k57 : Int32 → Int32 → Int32 → St → Option (Unit × St)) (hk57 : ∀ (x1 : Int32) (x2 : Int32) (x3 : Int32) (τ : St) (r : Unit) (τ' : St), k57 x1 x2 x3 τ = some (r, τ') → V g x (qm g x none τ') 8 τ [(0, .ref (g.1 26)), (1, .int x1), (2, .int x2), (3, .int x3)] [] 57) : ∀ (n : Nat) (x1 : Int32) (x2 : Int32) (x3 : Int32) (x4 : Int64) (x6 : Int32) (σ : St) (r : Unit) (σ' : St), f_X6_layWays_68 k57 n x1 x2 x3 x4 x6 σ = some (r, σ') → V g x (qm g x none σ') 8 σ [(0, .ref (g.1 26)), (1, .int x1), (2, .int x2), (3, .int x3), (4, .long x4), (6, .int x6)] [] 68 := by
  intro n
  induction n with
  | zero =>
    intro x1 x2 x3 x4 x6 σ r σ' h
    rw [f_X6_layWays_68] at h
    cases h
  | succ n ih =>
    intro x1 x2 x3 x4 x6 σ r σ' h
    rw [f_X6_layWays_68] at h
    refine v_iload C dX6_layWays_68 5 rfl ?_
    refine v_iconst C (v := (4 : Int32)) dX6_layWays_70 (by decide) ?_
    refine v_icmp_ge C (tgt := 123) dX6_layWays_71 (by decide) (fun q6 => ?_) (fun q6 => ?_)
    · rw [if_pos q6] at h
      refine v_aload_n C dX6_layWays_123 rfl 0 rfl ?_
      refine v_getR C (p' := 31) fl_RX6_23 rfl rfl dX6_layWays_124 ?_
      refine v_sipush C (v := (256 : Int32)) dX6_layWays_127 (by decide) ?_
      refine v_iload_n C dX6_layWays_130 rfl 2 rfl ?_
      refine v_imul C dX6_layWays_131 ?_
      refine v_iload_n C dX6_layWays_132 rfl 3 rfl ?_
      refine v_iadd C dX6_layWays_133 ?_
      refine v_lload C dX6_layWays_134 4 rfl ?_
      obtain ⟨nσ1, σ1, eσ1, h⟩ := wrL_ex h
      refine x_last C rfl nσ1 eσ1 dX6_layWays_136 ?_
      refine v_iinc C (v := (x3 + 1)) (lv' := [(3, .int _), (0, .ref _), (1, .int _), (2, .int _), (4, .long _), (6, .int _)]) dX6_layWays_137 3 rfl rfl (by decide) rfl ?_
      refine v_goto C (tgt := 57) dX6_layWays_140 (by decide) ?_
      refine V.sub (lv' := [(0, .ref _), (1, .int _), (2, .int _), (3, .int _)]) [1, 2, 3, 0] rfl ?_
      exact hk57 _ _ _  _ _ _ h
    · rw [if_neg q6] at h
      refine v_aload_n C dX6_layWays_74 rfl 0 rfl ?_
      refine v_iload_n C dX6_layWays_75 rfl 2 rfl ?_
      refine v_iload_n C dX6_layWays_76 rfl 3 rfl ?_
      refine v_iload C dX6_layWays_77 5 rfl ?_
      obtain ⟨v2, σ3, cσ3, h⟩ := bd_some h
      refine callVi C (c_X6_then cσ3) km_X6_then kv_X6_then rfl ml_RX6_116 rfl rfl (by decide) (Nat.le_of_ble_eq_true rfl) dX6_layWays_79 ?_
      refine v_istore C (lv' := [(7, .int _), (0, .ref _), (1, .int _), (2, .int _), (3, .int _), (4, .long _), (6, .int _)]) dX6_layWays_82 (by decide) rfl ?_
      refine v_lload C dX6_layWays_84 5 rfl ?_
      refine v_iload C dX6_layWays_86 0 rfl ?_
      refine v_ldc C (v := (-900009 : Int32)) con_RX6_112 dX6_layWays_88 ?_
      refine v_icmp_ne C (tgt := 97) dX6_layWays_90 (by decide) (fun q5 => ?_) (fun q5 => ?_)
      · rw [if_neg q5] at h
        refine v_aload_n C dX6_layWays_97 rfl 1 rfl ?_
        refine v_getR C (p' := 31) fl_RX6_23 rfl rfl dX6_layWays_98 ?_
        refine v_sipush C (v := (256 : Int32)) dX6_layWays_101 (by decide) ?_
        refine v_iload_n C dX6_layWays_104 rfl 3 rfl ?_
        refine v_imul C dX6_layWays_105 ?_
        refine v_sipush C (v := (256 : Int32)) dX6_layWays_106 (by decide) ?_
        refine v_iadd C dX6_layWays_109 ?_
        refine v_iload C dX6_layWays_110 0 rfl ?_
        refine v_iadd C dX6_layWays_112 ?_
        obtain ⟨nv4, v4, ev4, h⟩ := rdL_ex h
        refine x_lald C rfl nv4 ev4 dX6_layWays_113 ?_
        refine V.sub (lv' := [(0, .ref _), (1, .int _), (2, .int _), (3, .int _), (6, .int _)]) [1, 2, 3, 4, 6] rfl ?_
        exact b_X6_layWays_114 C _ ih _ _ _ _ _ _  _ _ _ h
      · rw [if_pos q5] at h
        refine v_lconst C (v := (0 : Int64)) dX6_layWays_93 (by decide) ?_
        refine v_goto C (tgt := 114) dX6_layWays_94 (by decide) ?_
        refine V.sub (lv' := [(0, .ref _), (1, .int _), (2, .int _), (3, .int _), (6, .int _)]) [1, 2, 3, 4, 6] rfl ?_
        exact b_X6_layWays_114 C _ ih _ _ _ _ _ _  _ _ _ h
def f_X6_layWays_57 (k51 : Int32 → Int32 → St → Option (Unit × St)) : Nat → Int32 → Int32 → Int32 → St → Option (Unit × St)
  | 0, _, _, _, _ => none
  | n + 1, x1, x2, x3, σ =>
    if x1 ≤ x3 then
      k51 x1 (x2 + (-1)) σ
    else
      f_X6_layWays_68 (f_X6_layWays_57 k51 n) FU x1 x2 x3 (0 : Int64) (0 : Int32) σ
set_option maxRecDepth 100000 in
set_option maxHeartbeats 4000000 in
theorem b_X6_layWays_57 {g : Geo} {x : Cx} (C : Ok g x cX6_layWays RX6 8 none rm_X6_layWays) (k51 : Int32 → Int32 → St → Option (Unit × St)) (hk51 : ∀ (x1 : Int32) (x2 : Int32) (τ : St) (r : Unit) (τ' : St), k51 x1 x2 τ = some (r, τ') → V g x (qm g x none τ') 8 τ [(0, .ref (g.1 26)), (1, .int x1), (2, .int x2)] [] 51) : ∀ (n : Nat) (x1 : Int32) (x2 : Int32) (x3 : Int32) (σ : St) (r : Unit) (σ' : St), f_X6_layWays_57 k51 n x1 x2 x3 σ = some (r, σ') → V g x (qm g x none σ') 8 σ [(0, .ref (g.1 26)), (1, .int x1), (2, .int x2), (3, .int x3)] [] 57 := by
  intro n
  induction n with
  | zero =>
    intro x1 x2 x3 σ r σ' h
    rw [f_X6_layWays_57] at h
    cases h
  | succ n ih =>
    intro x1 x2 x3 σ r σ' h
    rw [f_X6_layWays_57] at h
    refine v_iload_n C dX6_layWays_57 rfl 3 rfl ?_
    refine v_iload_n C dX6_layWays_58 rfl 1 rfl ?_
    refine v_icmp_ge C (tgt := 143) dX6_layWays_59 (by decide) (fun q1 => ?_) (fun q1 => ?_)
    · rw [if_pos q1] at h
      refine v_iinc C (v := (x2 + (-1))) (lv' := [(2, .int _), (0, .ref _), (1, .int _), (3, .int _)]) dX6_layWays_143 2 rfl rfl (by decide) rfl ?_
      refine v_goto C (tgt := 51) dX6_layWays_146 (by decide) ?_
      refine V.sub (lv' := [(0, .ref _), (1, .int _), (2, .int _)]) [1, 2, 0] rfl ?_
      exact hk51 _ _  _ _ _ h
    · rw [if_neg q1] at h
      refine v_lconst C (v := (0 : Int64)) dX6_layWays_62 (by decide) ?_
      refine v_lstore C (lv' := [(4, .long _), (0, .ref _), (1, .int _), (2, .int _), (3, .int _)]) dX6_layWays_63 (by decide) rfl ?_
      refine v_iconst C (v := (0 : Int32)) dX6_layWays_65 (by decide) ?_
      refine v_istore C (lv' := [(6, .int _), (4, .long _), (0, .ref _), (1, .int _), (2, .int _), (3, .int _)]) dX6_layWays_66 (by decide) rfl ?_
      refine V.sub (lv' := [(0, .ref _), (1, .int _), (2, .int _), (3, .int _), (4, .long _), (6, .int _)]) [2, 3, 4, 5, 1, 0] rfl ?_
      exact b_X6_layWays_68 C _ ih FU _ _ _ _ _  _ _ _ h
def f_X6_layWays_51 : Nat → Int32 → Int32 → St → Option (Unit × St)
  | 0, _, _, _ => none
  | n + 1, x1, x2, σ =>
    if x2 < 0 then
      some ((), σ)
    else
      f_X6_layWays_57 (f_X6_layWays_51 n) FU x1 x2 (0 : Int32) σ
set_option maxRecDepth 100000 in
set_option maxHeartbeats 4000000 in
theorem b_X6_layWays_51 {g : Geo} {x : Cx} (C : Ok g x cX6_layWays RX6 8 none rm_X6_layWays) : ∀ (n : Nat) (x1 : Int32) (x2 : Int32) (σ : St) (r : Unit) (σ' : St), f_X6_layWays_51 n x1 x2 σ = some (r, σ') → V g x (qm g x none σ') 8 σ [(0, .ref (g.1 26)), (1, .int x1), (2, .int x2)] [] 51 := by
  intro n
  induction n with
  | zero =>
    intro x1 x2 σ r σ' h
    rw [f_X6_layWays_51] at h
    cases h
  | succ n ih =>
    intro x1 x2 σ r σ' h
    rw [f_X6_layWays_51] at h
    refine v_iload_n C dX6_layWays_51 rfl 2 rfl ?_
    refine v_if_lt C (tgt := 149) dX6_layWays_52 (by decide) (fun q1 => ?_) (fun q1 => ?_)
    · rw [if_pos q1] at h
      cases h
      exact v_vret C dX6_layWays_149
    · rw [if_neg q1] at h
      refine v_iconst C (v := (0 : Int32)) dX6_layWays_55 (by decide) ?_
      refine v_istore_n C (lv' := [(3, .int _), (0, .ref _), (1, .int _), (2, .int _)]) dX6_layWays_56 rfl (by decide) rfl ?_
      refine V.sub (lv' := [(0, .ref _), (1, .int _), (2, .int _), (3, .int _)]) [1, 2, 3, 0] rfl ?_
      exact b_X6_layWays_57 C _ ih FU _ _ _  _ _ _ h
def f_X6_layWays_37 (k9 : Int32 → Int32 → St → Option (Unit × St)) (x1 : Int32) (x2 : Int32) (s1 : Int32) (s2 : Int64) (σ : St) : Option (Unit × St) :=
  wrL σ 31 s1 s2 fun σ1 =>
  k9 x1 (x2 + 1) σ1
set_option maxRecDepth 100000 in
set_option maxHeartbeats 4000000 in
theorem b_X6_layWays_37 {g : Geo} {x : Cx} (C : Ok g x cX6_layWays RX6 8 none rm_X6_layWays) (k9 : Int32 → Int32 → St → Option (Unit × St)) (hk9 : ∀ (x1 : Int32) (x2 : Int32) (τ : St) (r : Unit) (τ' : St), k9 x1 x2 τ = some (r, τ') → V g x (qm g x none τ') 8 τ [(0, .ref (g.1 26)), (1, .int x1), (2, .int x2)] [] 9) : ∀ (x1 : Int32) (x2 : Int32) (s1 : Int32) (s2 : Int64) (σ : St) (r : Unit) (σ' : St), f_X6_layWays_37 k9 x1 x2 s1 s2 σ = some (r, σ') → V g x (qm g x none σ') 8 σ [(0, .ref (g.1 26)), (1, .int x1), (2, .int x2)] [.long s2, .int s1, .ref (g.1 31)] 37 := by
  intro x1 x2 s1 s2 σ r σ' h
  unfold f_X6_layWays_37 at h
  obtain ⟨nσ1, σ1, eσ1, h⟩ := wrL_ex h
  refine x_last C rfl nσ1 eσ1 dX6_layWays_37 ?_
  refine v_iinc C (v := (x2 + 1)) (lv' := [(2, .int _), (0, .ref _), (1, .int _)]) dX6_layWays_38 2 rfl rfl (by decide) rfl ?_
  refine v_goto C (tgt := 9) dX6_layWays_41 (by decide) ?_
  refine V.sub (lv' := [(0, .ref _), (1, .int _), (2, .int _)]) [1, 2, 0] rfl ?_
  exact hk9 _ _  _ _ _ h
def f_X6_layWays_9 : Nat → Int32 → Int32 → St → Option (Unit × St)
  | 0, _, _, _ => none
  | n + 1, x1, x2, σ =>
    if x1 ≤ x2 then
      bd (f_X6_cells σ) fun v1 σ2 =>
      f_X6_layWays_51 FU x1 (v1 - (1 : Int32)) σ2
    else
      bd (f_X6_cells σ) fun v3 σ4 =>
      if x2 = 0 then
        f_X6_layWays_37 (f_X6_layWays_9 n) x1 x2 (((256 : Int32) * v3) + x2) (1 : Int64) σ4
      else
        f_X6_layWays_37 (f_X6_layWays_9 n) x1 x2 (((256 : Int32) * v3) + x2) (0 : Int64) σ4
set_option maxRecDepth 100000 in
set_option maxHeartbeats 4000000 in
theorem b_X6_layWays_9 {g : Geo} {x : Cx} (C : Ok g x cX6_layWays RX6 8 none rm_X6_layWays) : ∀ (n : Nat) (x1 : Int32) (x2 : Int32) (σ : St) (r : Unit) (σ' : St), f_X6_layWays_9 n x1 x2 σ = some (r, σ') → V g x (qm g x none σ') 8 σ [(0, .ref (g.1 26)), (1, .int x1), (2, .int x2)] [] 9 := by
  intro n
  induction n with
  | zero =>
    intro x1 x2 σ r σ' h
    rw [f_X6_layWays_9] at h
    cases h
  | succ n ih =>
    intro x1 x2 σ r σ' h
    rw [f_X6_layWays_9] at h
    refine v_iload_n C dX6_layWays_9 rfl 2 rfl ?_
    refine v_iload_n C dX6_layWays_10 rfl 1 rfl ?_
    refine v_icmp_ge C (tgt := 44) dX6_layWays_11 (by decide) (fun q6 => ?_) (fun q6 => ?_)
    · rw [if_pos q6] at h
      refine v_aload_n C dX6_layWays_44 rfl 0 rfl ?_
      obtain ⟨v1, σ2, cσ2, h⟩ := bd_some h
      refine callVi C (c_X6_cells cσ2) km_X6_cells kv_X6_cells rfl ml_RX6_80 rfl rfl (by decide) (Nat.le_of_ble_eq_true rfl) dX6_layWays_45 ?_
      refine v_iconst C (v := (1 : Int32)) dX6_layWays_48 (by decide) ?_
      refine v_isub C dX6_layWays_49 ?_
      refine v_istore_n C (lv' := [(2, .int _), (0, .ref _), (1, .int _)]) dX6_layWays_50 rfl (by decide) rfl ?_
      refine V.sub (lv' := [(0, .ref _), (1, .int _), (2, .int _)]) [1, 2, 0] rfl ?_
      exact b_X6_layWays_51 C FU _ _  _ _ _ h
    · rw [if_neg q6] at h
      refine v_aload_n C dX6_layWays_14 rfl 0 rfl ?_
      refine v_getR C (p' := 31) fl_RX6_23 rfl rfl dX6_layWays_15 ?_
      refine v_sipush C (v := (256 : Int32)) dX6_layWays_18 (by decide) ?_
      refine v_aload_n C dX6_layWays_21 rfl 0 rfl ?_
      obtain ⟨v3, σ4, cσ4, h⟩ := bd_some h
      refine callVi C (c_X6_cells cσ4) km_X6_cells kv_X6_cells rfl ml_RX6_80 rfl rfl (by decide) (Nat.le_of_ble_eq_true rfl) dX6_layWays_22 ?_
      refine v_imul C dX6_layWays_25 ?_
      refine v_iload_n C dX6_layWays_26 rfl 2 rfl ?_
      refine v_iadd C dX6_layWays_27 ?_
      refine v_iload_n C dX6_layWays_28 rfl 2 rfl ?_
      refine v_if_ne C (tgt := 36) dX6_layWays_29 (by decide) (fun q5 => ?_) (fun q5 => ?_)
      · rw [if_neg q5] at h
        refine v_lconst C (v := (0 : Int64)) dX6_layWays_36 (by decide) ?_
        refine V.sub (lv' := [(0, .ref _), (1, .int _), (2, .int _)]) [0, 1, 2] rfl ?_
        exact b_X6_layWays_37 C _ ih _ _ _ _  _ _ _ h
      · rw [if_pos q5] at h
        refine v_lconst C (v := (1 : Int64)) dX6_layWays_32 (by decide) ?_
        refine v_goto C (tgt := 37) dX6_layWays_33 (by decide) ?_
        refine V.sub (lv' := [(0, .ref _), (1, .int _), (2, .int _)]) [0, 1, 2] rfl ?_
        exact b_X6_layWays_37 C _ ih _ _ _ _  _ _ _ h
def f_X6_layWays (σ : St) : Option (Unit × St) :=
  f_X6_layWays_9 FU (jshl (1 : Int32) (gi σ 26 0)) (0 : Int32) σ
set_option maxRecDepth 100000 in
set_option maxHeartbeats 4000000 in
theorem c_X6_layWays {g : Geo} {σ : St} {r : Unit} {σ' : St} (h : f_X6_layWays σ = some (r, σ')) : Ct g yX6_layWays cX6_layWays 8 none rm_X6_layWays [.ref (g.1 26)] σ none σ' := by
  refine ct_of (own := RX6) (by decide) rfl (Nat.le_of_ble_eq_true rfl) (fun x C => ?_) ⟨rfl, rfl⟩
  show V g x _ 8 σ [(0, .ref (g.1 26))] [] 0
  unfold f_X6_layWays at h
  refine v_iconst C (v := (1 : Int32)) dX6_layWays_0 (by decide) ?_
  refine v_aload_n C dX6_layWays_1 rfl 0 rfl ?_
  refine v_getI C fl_RX6_70 rfl dX6_layWays_2 ?_
  refine v_ishl C dX6_layWays_5 ?_
  refine v_istore_n C (lv' := [(1, .int _), (0, .ref _)]) dX6_layWays_6 rfl (by decide) rfl ?_
  refine v_iconst C (v := (0 : Int32)) dX6_layWays_7 (by decide) ?_
  refine v_istore_n C (lv' := [(2, .int _), (1, .int _), (0, .ref _)]) dX6_layWays_8 rfl (by decide) rfl ?_
  refine V.sub (lv' := [(0, .ref _), (1, .int _), (2, .int _)]) [2, 1, 0] rfl ?_
  exact b_X6_layWays_9 C FU _ _  _ _ _ h
theorem dX6_layCome_0 : decode cX6_layCome 0 = .ok (.iconst 1, 1) := by decide +kernel
theorem dX6_layCome_1 : decode cX6_layCome 1 = .ok (.aload_n 0, 1) := by decide +kernel
theorem dX6_layCome_2 : decode cX6_layCome 2 = .ok (.getfield 70, 3) := by decide +kernel
theorem dX6_layCome_5 : decode cX6_layCome 5 = .ok (.ishl, 1) := by decide +kernel
theorem dX6_layCome_6 : decode cX6_layCome 6 = .ok (.istore_n 1, 1) := by decide +kernel
theorem dX6_layCome_7 : decode cX6_layCome 7 = .ok (.iconst 0, 1) := by decide +kernel
theorem dX6_layCome_8 : decode cX6_layCome 8 = .ok (.istore_n 2, 1) := by decide +kernel
theorem dX6_layCome_9 : decode cX6_layCome 9 = .ok (.iload_n 2, 1) := by decide +kernel
theorem dX6_layCome_10 : decode cX6_layCome 10 = .ok (.sipush 16640, 3) := by decide +kernel
theorem dX6_layCome_13 : decode cX6_layCome 13 = .ok (.if_icmp .ge 16, 3) := by decide +kernel
theorem dX6_layCome_16 : decode cX6_layCome 16 = .ok (.aload_n 0, 1) := by decide +kernel
theorem dX6_layCome_17 : decode cX6_layCome 17 = .ok (.getfield 27, 3) := by decide +kernel
theorem dX6_layCome_20 : decode cX6_layCome 20 = .ok (.iload_n 2, 1) := by decide +kernel
theorem dX6_layCome_21 : decode cX6_layCome 21 = .ok (.lconst 0, 1) := by decide +kernel
theorem dX6_layCome_22 : decode cX6_layCome 22 = .ok (.lastore, 1) := by decide +kernel
theorem dX6_layCome_23 : decode cX6_layCome 23 = .ok (.iinc 2 1, 3) := by decide +kernel
theorem dX6_layCome_26 : decode cX6_layCome 26 = .ok (.goto (-17), 3) := by decide +kernel
theorem dX6_layCome_29 : decode cX6_layCome 29 = .ok (.aload_n 0, 1) := by decide +kernel
theorem dX6_layCome_30 : decode cX6_layCome 30 = .ok (.getfield 27, 3) := by decide +kernel
theorem dX6_layCome_33 : decode cX6_layCome 33 = .ok (.iconst 0, 1) := by decide +kernel
theorem dX6_layCome_34 : decode cX6_layCome 34 = .ok (.lconst 1, 1) := by decide +kernel
theorem dX6_layCome_35 : decode cX6_layCome 35 = .ok (.lastore, 1) := by decide +kernel
theorem dX6_layCome_36 : decode cX6_layCome 36 = .ok (.iconst 0, 1) := by decide +kernel
theorem dX6_layCome_37 : decode cX6_layCome 37 = .ok (.istore_n 2, 1) := by decide +kernel
theorem dX6_layCome_38 : decode cX6_layCome 38 = .ok (.iload_n 2, 1) := by decide +kernel
theorem dX6_layCome_39 : decode cX6_layCome 39 = .ok (.aload_n 0, 1) := by decide +kernel
theorem dX6_layCome_40 : decode cX6_layCome 40 = .ok (.invokevirtual 80, 3) := by decide +kernel
theorem dX6_layCome_43 : decode cX6_layCome 43 = .ok (.if_icmp .ge 86, 3) := by decide +kernel
theorem dX6_layCome_46 : decode cX6_layCome 46 = .ok (.iconst 0, 1) := by decide +kernel
theorem dX6_layCome_47 : decode cX6_layCome 47 = .ok (.istore_n 3, 1) := by decide +kernel
theorem dX6_layCome_48 : decode cX6_layCome 48 = .ok (.iload_n 3, 1) := by decide +kernel
theorem dX6_layCome_49 : decode cX6_layCome 49 = .ok (.iload_n 1, 1) := by decide +kernel
theorem dX6_layCome_50 : decode cX6_layCome 50 = .ok (.if_icmp .ge 73, 3) := by decide +kernel
theorem dX6_layCome_53 : decode cX6_layCome 53 = .ok (.iconst 0, 1) := by decide +kernel
theorem dX6_layCome_54 : decode cX6_layCome 54 = .ok (.istore 4, 2) := by decide +kernel
theorem dX6_layCome_56 : decode cX6_layCome 56 = .ok (.iload 4, 2) := by decide +kernel
theorem dX6_layCome_58 : decode cX6_layCome 58 = .ok (.iconst 4, 1) := by decide +kernel
theorem dX6_layCome_59 : decode cX6_layCome 59 = .ok (.if_icmp .ge 58, 3) := by decide +kernel
theorem dX6_layCome_62 : decode cX6_layCome 62 = .ok (.aload_n 0, 1) := by decide +kernel
theorem dX6_layCome_63 : decode cX6_layCome 63 = .ok (.iload_n 2, 1) := by decide +kernel
theorem dX6_layCome_64 : decode cX6_layCome 64 = .ok (.iload_n 3, 1) := by decide +kernel
theorem dX6_layCome_65 : decode cX6_layCome 65 = .ok (.iload 4, 2) := by decide +kernel
theorem dX6_layCome_67 : decode cX6_layCome 67 = .ok (.invokevirtual 116, 3) := by decide +kernel
theorem dX6_layCome_70 : decode cX6_layCome 70 = .ok (.istore 5, 2) := by decide +kernel
theorem dX6_layCome_72 : decode cX6_layCome 72 = .ok (.iload 5, 2) := by decide +kernel
theorem dX6_layCome_74 : decode cX6_layCome 74 = .ok (.ldc 112, 2) := by decide +kernel
theorem dX6_layCome_76 : decode cX6_layCome 76 = .ok (.if_icmp .eq 35, 3) := by decide +kernel
theorem dX6_layCome_79 : decode cX6_layCome 79 = .ok (.aload_n 0, 1) := by decide +kernel
theorem dX6_layCome_80 : decode cX6_layCome 80 = .ok (.getfield 27, 3) := by decide +kernel
theorem dX6_layCome_83 : decode cX6_layCome 83 = .ok (.sipush 256, 3) := by decide +kernel
theorem dX6_layCome_86 : decode cX6_layCome 86 = .ok (.iload_n 2, 1) := by decide +kernel
theorem dX6_layCome_87 : decode cX6_layCome 87 = .ok (.imul, 1) := by decide +kernel
theorem dX6_layCome_88 : decode cX6_layCome 88 = .ok (.sipush 256, 3) := by decide +kernel
theorem dX6_layCome_91 : decode cX6_layCome 91 = .ok (.iadd, 1) := by decide +kernel
theorem dX6_layCome_92 : decode cX6_layCome 92 = .ok (.iload 5, 2) := by decide +kernel
theorem dX6_layCome_94 : decode cX6_layCome 94 = .ok (.iadd, 1) := by decide +kernel
theorem dX6_layCome_95 : decode cX6_layCome 95 = .ok (.dup2, 1) := by decide +kernel
theorem dX6_layCome_96 : decode cX6_layCome 96 = .ok (.laload, 1) := by decide +kernel
theorem dX6_layCome_97 : decode cX6_layCome 97 = .ok (.aload_n 0, 1) := by decide +kernel
theorem dX6_layCome_98 : decode cX6_layCome 98 = .ok (.getfield 27, 3) := by decide +kernel
theorem dX6_layCome_101 : decode cX6_layCome 101 = .ok (.sipush 256, 3) := by decide +kernel
theorem dX6_layCome_104 : decode cX6_layCome 104 = .ok (.iload_n 2, 1) := by decide +kernel
theorem dX6_layCome_105 : decode cX6_layCome 105 = .ok (.imul, 1) := by decide +kernel
theorem dX6_layCome_106 : decode cX6_layCome 106 = .ok (.iload_n 3, 1) := by decide +kernel
theorem dX6_layCome_107 : decode cX6_layCome 107 = .ok (.iadd, 1) := by decide +kernel
theorem dX6_layCome_108 : decode cX6_layCome 108 = .ok (.laload, 1) := by decide +kernel
theorem dX6_layCome_109 : decode cX6_layCome 109 = .ok (.ladd, 1) := by decide +kernel
theorem dX6_layCome_110 : decode cX6_layCome 110 = .ok (.lastore, 1) := by decide +kernel
theorem dX6_layCome_111 : decode cX6_layCome 111 = .ok (.iinc 4 1, 3) := by decide +kernel
theorem dX6_layCome_114 : decode cX6_layCome 114 = .ok (.goto (-58), 3) := by decide +kernel
theorem dX6_layCome_117 : decode cX6_layCome 117 = .ok (.iinc 3 1, 3) := by decide +kernel
theorem dX6_layCome_120 : decode cX6_layCome 120 = .ok (.goto (-72), 3) := by decide +kernel
theorem dX6_layCome_123 : decode cX6_layCome 123 = .ok (.iinc 2 1, 3) := by decide +kernel
theorem dX6_layCome_126 : decode cX6_layCome 126 = .ok (.goto (-88), 3) := by decide +kernel
theorem dX6_layCome_129 : decode cX6_layCome 129 = .ok (.return_, 1) := by decide +kernel
def f_X6_layCome_111 (k56 : Int32 → Int32 → Int32 → Int32 → St → Option (Unit × St)) (x1 : Int32) (x2 : Int32) (x3 : Int32) (x4 : Int32) (σ : St) : Option (Unit × St) :=
  k56 x1 x2 x3 (x4 + 1) σ
set_option maxRecDepth 100000 in
set_option maxHeartbeats 4000000 in
theorem b_X6_layCome_111 {g : Geo} {x : Cx} (C : Ok g x cX6_layCome RX6 6 none rm_X6_layCome) (k56 : Int32 → Int32 → Int32 → Int32 → St → Option (Unit × St)) (hk56 : ∀ (x1 : Int32) (x2 : Int32) (x3 : Int32) (x4 : Int32) (τ : St) (r : Unit) (τ' : St), k56 x1 x2 x3 x4 τ = some (r, τ') → V g x (qm g x none τ') 6 τ [(0, .ref (g.1 26)), (1, .int x1), (2, .int x2), (3, .int x3), (4, .int x4)] [] 56) : ∀ (x1 : Int32) (x2 : Int32) (x3 : Int32) (x4 : Int32) (σ : St) (r : Unit) (σ' : St), f_X6_layCome_111 k56 x1 x2 x3 x4 σ = some (r, σ') → V g x (qm g x none σ') 6 σ [(0, .ref (g.1 26)), (1, .int x1), (2, .int x2), (3, .int x3), (4, .int x4)] [] 111 := by
  intro x1 x2 x3 x4 σ r σ' h
  unfold f_X6_layCome_111 at h
  refine v_iinc C (v := (x4 + 1)) (lv' := [(4, .int _), (0, .ref _), (1, .int _), (2, .int _), (3, .int _)]) dX6_layCome_111 4 rfl rfl (by decide) rfl ?_
  refine v_goto C (tgt := 56) dX6_layCome_114 (by decide) ?_
  refine V.sub (lv' := [(0, .ref _), (1, .int _), (2, .int _), (3, .int _), (4, .int _)]) [1, 2, 3, 4, 0] rfl ?_
  exact hk56 _ _ _ _  _ _ _ h
def f_X6_layCome_56 (k48 : Int32 → Int32 → Int32 → St → Option (Unit × St)) : Nat → Int32 → Int32 → Int32 → Int32 → St → Option (Unit × St)
  | 0, _, _, _, _, _ => none
  | n + 1, x1, x2, x3, x4, σ =>
    if (4 : Int32) ≤ x4 then
      k48 x1 x2 (x3 + 1) σ
    else
      bd (f_X6_then x2 x3 x4 σ) fun v1 σ2 =>
      if v1 = (-900009 : Int32) then
        f_X6_layCome_111 (f_X6_layCome_56 k48 n) x1 x2 x3 x4 σ2
      else
        rdL σ2 32 ((((256 : Int32) * x2) + (256 : Int32)) + v1) fun v3 =>
        rdL σ2 32 (((256 : Int32) * x2) + x3) fun v4 =>
        wrL σ2 32 ((((256 : Int32) * x2) + (256 : Int32)) + v1) (v3 + v4) fun σ5 =>
        f_X6_layCome_111 (f_X6_layCome_56 k48 n) x1 x2 x3 x4 σ5
set_option maxRecDepth 100000 in
set_option maxHeartbeats 4000000 in
theorem b_X6_layCome_56 {g : Geo} {x : Cx} (C : Ok g x cX6_layCome RX6 6 none rm_X6_layCome) (k48 : Int32 → Int32 → Int32 → St → Option (Unit × St)) (hk48 : ∀ (x1 : Int32) (x2 : Int32) (x3 : Int32) (τ : St) (r : Unit) (τ' : St), k48 x1 x2 x3 τ = some (r, τ') → V g x (qm g x none τ') 6 τ [(0, .ref (g.1 26)), (1, .int x1), (2, .int x2), (3, .int x3)] [] 48) : ∀ (n : Nat) (x1 : Int32) (x2 : Int32) (x3 : Int32) (x4 : Int32) (σ : St) (r : Unit) (σ' : St), f_X6_layCome_56 k48 n x1 x2 x3 x4 σ = some (r, σ') → V g x (qm g x none σ') 6 σ [(0, .ref (g.1 26)), (1, .int x1), (2, .int x2), (3, .int x3), (4, .int x4)] [] 56 := by
  intro n
  induction n with
  | zero =>
    intro x1 x2 x3 x4 σ r σ' h
    rw [f_X6_layCome_56] at h
    cases h
  | succ n ih =>
    intro x1 x2 x3 x4 σ r σ' h
    rw [f_X6_layCome_56] at h
    refine v_iload C dX6_layCome_56 4 rfl ?_
    refine v_iconst C (v := (4 : Int32)) dX6_layCome_58 (by decide) ?_
    refine v_icmp_ge C (tgt := 117) dX6_layCome_59 (by decide) (fun q7 => ?_) (fun q7 => ?_)
    · rw [if_pos q7] at h
      refine v_iinc C (v := (x3 + 1)) (lv' := [(3, .int _), (0, .ref _), (1, .int _), (2, .int _), (4, .int _)]) dX6_layCome_117 3 rfl rfl (by decide) rfl ?_
      refine v_goto C (tgt := 48) dX6_layCome_120 (by decide) ?_
      refine V.sub (lv' := [(0, .ref _), (1, .int _), (2, .int _), (3, .int _)]) [1, 2, 3, 0] rfl ?_
      exact hk48 _ _ _  _ _ _ h
    · rw [if_neg q7] at h
      refine v_aload_n C dX6_layCome_62 rfl 0 rfl ?_
      refine v_iload_n C dX6_layCome_63 rfl 2 rfl ?_
      refine v_iload_n C dX6_layCome_64 rfl 3 rfl ?_
      refine v_iload C dX6_layCome_65 4 rfl ?_
      obtain ⟨v1, σ2, cσ2, h⟩ := bd_some h
      refine callVi C (c_X6_then cσ2) km_X6_then kv_X6_then rfl ml_RX6_116 rfl rfl (by decide) (Nat.le_of_ble_eq_true rfl) dX6_layCome_67 ?_
      refine v_istore C (lv' := [(5, .int _), (0, .ref _), (1, .int _), (2, .int _), (3, .int _), (4, .int _)]) dX6_layCome_70 (by decide) rfl ?_
      refine v_iload C dX6_layCome_72 0 rfl ?_
      refine v_ldc C (v := (-900009 : Int32)) con_RX6_112 dX6_layCome_74 ?_
      refine v_icmp_eq C (tgt := 111) dX6_layCome_76 (by decide) (fun q6 => ?_) (fun q6 => ?_)
      · rw [if_pos q6] at h
        refine V.sub (lv' := [(0, .ref _), (1, .int _), (2, .int _), (3, .int _), (4, .int _)]) [1, 2, 3, 4, 5] rfl ?_
        exact b_X6_layCome_111 C _ ih _ _ _ _  _ _ _ h
      · rw [if_neg q6] at h
        refine v_aload_n C dX6_layCome_79 rfl 1 rfl ?_
        refine v_getR C (p' := 32) fl_RX6_27 rfl rfl dX6_layCome_80 ?_
        refine v_sipush C (v := (256 : Int32)) dX6_layCome_83 (by decide) ?_
        refine v_iload_n C dX6_layCome_86 rfl 3 rfl ?_
        refine v_imul C dX6_layCome_87 ?_
        refine v_sipush C (v := (256 : Int32)) dX6_layCome_88 (by decide) ?_
        refine v_iadd C dX6_layCome_91 ?_
        refine v_iload C dX6_layCome_92 0 rfl ?_
        refine v_iadd C dX6_layCome_94 ?_
        refine v_dup2 C dX6_layCome_95 rfl rfl ?_
        obtain ⟨nv3, v3, ev3, h⟩ := rdL_ex h
        refine x_lald C rfl nv3 ev3 dX6_layCome_96 ?_
        refine v_aload_n C dX6_layCome_97 rfl 1 rfl ?_
        refine v_getR C (p' := 32) fl_RX6_27 rfl rfl dX6_layCome_98 ?_
        refine v_sipush C (v := (256 : Int32)) dX6_layCome_101 (by decide) ?_
        refine v_iload_n C dX6_layCome_104 rfl 3 rfl ?_
        refine v_imul C dX6_layCome_105 ?_
        refine v_iload_n C dX6_layCome_106 rfl 4 rfl ?_
        refine v_iadd C dX6_layCome_107 ?_
        obtain ⟨nv4, v4, ev4, h⟩ := rdL_ex h
        refine x_lald C rfl nv4 ev4 dX6_layCome_108 ?_
        refine v_ladd C dX6_layCome_109 ?_
        obtain ⟨nσ5, σ5, eσ5, h⟩ := wrL_ex h
        refine x_last C rfl nσ5 eσ5 dX6_layCome_110 ?_
        refine V.sub (lv' := [(0, .ref _), (1, .int _), (2, .int _), (3, .int _), (4, .int _)]) [1, 2, 3, 4, 5] rfl ?_
        exact b_X6_layCome_111 C _ ih _ _ _ _  _ _ _ h
def f_X6_layCome_48 (k38 : Int32 → Int32 → St → Option (Unit × St)) : Nat → Int32 → Int32 → Int32 → St → Option (Unit × St)
  | 0, _, _, _, _ => none
  | n + 1, x1, x2, x3, σ =>
    if x1 ≤ x3 then
      k38 x1 (x2 + 1) σ
    else
      f_X6_layCome_56 (f_X6_layCome_48 k38 n) FU x1 x2 x3 (0 : Int32) σ
set_option maxRecDepth 100000 in
set_option maxHeartbeats 4000000 in
theorem b_X6_layCome_48 {g : Geo} {x : Cx} (C : Ok g x cX6_layCome RX6 6 none rm_X6_layCome) (k38 : Int32 → Int32 → St → Option (Unit × St)) (hk38 : ∀ (x1 : Int32) (x2 : Int32) (τ : St) (r : Unit) (τ' : St), k38 x1 x2 τ = some (r, τ') → V g x (qm g x none τ') 6 τ [(0, .ref (g.1 26)), (1, .int x1), (2, .int x2)] [] 38) : ∀ (n : Nat) (x1 : Int32) (x2 : Int32) (x3 : Int32) (σ : St) (r : Unit) (σ' : St), f_X6_layCome_48 k38 n x1 x2 x3 σ = some (r, σ') → V g x (qm g x none σ') 6 σ [(0, .ref (g.1 26)), (1, .int x1), (2, .int x2), (3, .int x3)] [] 48 := by
  intro n
  induction n with
  | zero =>
    intro x1 x2 x3 σ r σ' h
    rw [f_X6_layCome_48] at h
    cases h
  | succ n ih =>
    intro x1 x2 x3 σ r σ' h
    rw [f_X6_layCome_48] at h
    refine v_iload_n C dX6_layCome_48 rfl 3 rfl ?_
    refine v_iload_n C dX6_layCome_49 rfl 1 rfl ?_
    refine v_icmp_ge C (tgt := 123) dX6_layCome_50 (by decide) (fun q1 => ?_) (fun q1 => ?_)
    · rw [if_pos q1] at h
      refine v_iinc C (v := (x2 + 1)) (lv' := [(2, .int _), (0, .ref _), (1, .int _), (3, .int _)]) dX6_layCome_123 2 rfl rfl (by decide) rfl ?_
      refine v_goto C (tgt := 38) dX6_layCome_126 (by decide) ?_
      refine V.sub (lv' := [(0, .ref _), (1, .int _), (2, .int _)]) [1, 2, 0] rfl ?_
      exact hk38 _ _  _ _ _ h
    · rw [if_neg q1] at h
      refine v_iconst C (v := (0 : Int32)) dX6_layCome_53 (by decide) ?_
      refine v_istore C (lv' := [(4, .int _), (0, .ref _), (1, .int _), (2, .int _), (3, .int _)]) dX6_layCome_54 (by decide) rfl ?_
      refine V.sub (lv' := [(0, .ref _), (1, .int _), (2, .int _), (3, .int _), (4, .int _)]) [1, 2, 3, 4, 0] rfl ?_
      exact b_X6_layCome_56 C _ ih FU _ _ _ _  _ _ _ h
def f_X6_layCome_38 : Nat → Int32 → Int32 → St → Option (Unit × St)
  | 0, _, _, _ => none
  | n + 1, x1, x2, σ =>
    bd (f_X6_cells σ) fun v1 σ2 =>
    if v1 ≤ x2 then
      some ((), σ2)
    else
      f_X6_layCome_48 (f_X6_layCome_38 n) FU x1 x2 (0 : Int32) σ2
set_option maxRecDepth 100000 in
set_option maxHeartbeats 4000000 in
theorem b_X6_layCome_38 {g : Geo} {x : Cx} (C : Ok g x cX6_layCome RX6 6 none rm_X6_layCome) : ∀ (n : Nat) (x1 : Int32) (x2 : Int32) (σ : St) (r : Unit) (σ' : St), f_X6_layCome_38 n x1 x2 σ = some (r, σ') → V g x (qm g x none σ') 6 σ [(0, .ref (g.1 26)), (1, .int x1), (2, .int x2)] [] 38 := by
  intro n
  induction n with
  | zero =>
    intro x1 x2 σ r σ' h
    rw [f_X6_layCome_38] at h
    cases h
  | succ n ih =>
    intro x1 x2 σ r σ' h
    rw [f_X6_layCome_38] at h
    refine v_iload_n C dX6_layCome_38 rfl 2 rfl ?_
    refine v_aload_n C dX6_layCome_39 rfl 0 rfl ?_
    obtain ⟨v1, σ2, cσ2, h⟩ := bd_some h
    refine callVi C (c_X6_cells cσ2) km_X6_cells kv_X6_cells rfl ml_RX6_80 rfl rfl (by decide) (Nat.le_of_ble_eq_true rfl) dX6_layCome_40 ?_
    refine v_icmp_ge C (tgt := 129) dX6_layCome_43 (by decide) (fun q3 => ?_) (fun q3 => ?_)
    · rw [if_pos q3] at h
      cases h
      exact v_vret C dX6_layCome_129
    · rw [if_neg q3] at h
      refine v_iconst C (v := (0 : Int32)) dX6_layCome_46 (by decide) ?_
      refine v_istore_n C (lv' := [(3, .int _), (0, .ref _), (1, .int _), (2, .int _)]) dX6_layCome_47 rfl (by decide) rfl ?_
      refine V.sub (lv' := [(0, .ref _), (1, .int _), (2, .int _), (3, .int _)]) [1, 2, 3, 0] rfl ?_
      exact b_X6_layCome_48 C _ ih FU _ _ _  _ _ _ h
def f_X6_layCome_9 : Nat → Int32 → Int32 → St → Option (Unit × St)
  | 0, _, _, _ => none
  | n + 1, x1, x2, σ =>
    if (16640 : Int32) ≤ x2 then
      wrL σ 32 (0 : Int32) (1 : Int64) fun σ1 =>
      f_X6_layCome_38 FU x1 (0 : Int32) σ1
    else
      wrL σ 32 x2 (0 : Int64) fun σ2 =>
      f_X6_layCome_9 n x1 (x2 + 1) σ2
set_option maxRecDepth 100000 in
set_option maxHeartbeats 4000000 in
theorem b_X6_layCome_9 {g : Geo} {x : Cx} (C : Ok g x cX6_layCome RX6 6 none rm_X6_layCome) : ∀ (n : Nat) (x1 : Int32) (x2 : Int32) (σ : St) (r : Unit) (σ' : St), f_X6_layCome_9 n x1 x2 σ = some (r, σ') → V g x (qm g x none σ') 6 σ [(0, .ref (g.1 26)), (1, .int x1), (2, .int x2)] [] 9 := by
  intro n
  induction n with
  | zero =>
    intro x1 x2 σ r σ' h
    rw [f_X6_layCome_9] at h
    cases h
  | succ n ih =>
    intro x1 x2 σ r σ' h
    rw [f_X6_layCome_9] at h
    refine v_iload_n C dX6_layCome_9 rfl 2 rfl ?_
    refine v_sipush C (v := (16640 : Int32)) dX6_layCome_10 (by decide) ?_
    refine v_icmp_ge C (tgt := 29) dX6_layCome_13 (by decide) (fun q3 => ?_) (fun q3 => ?_)
    · rw [if_pos q3] at h
      refine v_aload_n C dX6_layCome_29 rfl 0 rfl ?_
      refine v_getR C (p' := 32) fl_RX6_27 rfl rfl dX6_layCome_30 ?_
      refine v_iconst C (v := (0 : Int32)) dX6_layCome_33 (by decide) ?_
      refine v_lconst C (v := (1 : Int64)) dX6_layCome_34 (by decide) ?_
      obtain ⟨nσ1, σ1, eσ1, h⟩ := wrL_ex h
      refine x_last C rfl nσ1 eσ1 dX6_layCome_35 ?_
      refine v_iconst C (v := (0 : Int32)) dX6_layCome_36 (by decide) ?_
      refine v_istore_n C (lv' := [(2, .int _), (0, .ref _), (1, .int _)]) dX6_layCome_37 rfl (by decide) rfl ?_
      refine V.sub (lv' := [(0, .ref _), (1, .int _), (2, .int _)]) [1, 2, 0] rfl ?_
      exact b_X6_layCome_38 C FU _ _  _ _ _ h
    · rw [if_neg q3] at h
      refine v_aload_n C dX6_layCome_16 rfl 0 rfl ?_
      refine v_getR C (p' := 32) fl_RX6_27 rfl rfl dX6_layCome_17 ?_
      refine v_iload_n C dX6_layCome_20 rfl 2 rfl ?_
      refine v_lconst C (v := (0 : Int64)) dX6_layCome_21 (by decide) ?_
      obtain ⟨nσ2, σ2, eσ2, h⟩ := wrL_ex h
      refine x_last C rfl nσ2 eσ2 dX6_layCome_22 ?_
      refine v_iinc C (v := (x2 + 1)) (lv' := [(2, .int _), (0, .ref _), (1, .int _)]) dX6_layCome_23 2 rfl rfl (by decide) rfl ?_
      refine v_goto C (tgt := 9) dX6_layCome_26 (by decide) ?_
      refine V.sub (lv' := [(0, .ref _), (1, .int _), (2, .int _)]) [1, 2, 0] rfl ?_
      exact ih _ _  _ _ _ h
def f_X6_layCome (σ : St) : Option (Unit × St) :=
  f_X6_layCome_9 FU (jshl (1 : Int32) (gi σ 26 0)) (0 : Int32) σ
set_option maxRecDepth 100000 in
set_option maxHeartbeats 4000000 in
theorem c_X6_layCome {g : Geo} {σ : St} {r : Unit} {σ' : St} (h : f_X6_layCome σ = some (r, σ')) : Ct g yX6_layCome cX6_layCome 6 none rm_X6_layCome [.ref (g.1 26)] σ none σ' := by
  refine ct_of (own := RX6) (by decide) rfl (Nat.le_of_ble_eq_true rfl) (fun x C => ?_) ⟨rfl, rfl⟩
  show V g x _ 6 σ [(0, .ref (g.1 26))] [] 0
  unfold f_X6_layCome at h
  refine v_iconst C (v := (1 : Int32)) dX6_layCome_0 (by decide) ?_
  refine v_aload_n C dX6_layCome_1 rfl 0 rfl ?_
  refine v_getI C fl_RX6_70 rfl dX6_layCome_2 ?_
  refine v_ishl C dX6_layCome_5 ?_
  refine v_istore_n C (lv' := [(1, .int _), (0, .ref _)]) dX6_layCome_6 rfl (by decide) rfl ?_
  refine v_iconst C (v := (0 : Int32)) dX6_layCome_7 (by decide) ?_
  refine v_istore_n C (lv' := [(2, .int _), (1, .int _), (0, .ref _)]) dX6_layCome_8 rfl (by decide) rfl ?_
  refine V.sub (lv' := [(0, .ref _), (1, .int _), (2, .int _)]) [2, 1, 0] rfl ?_
  exact b_X6_layCome_9 C FU _ _  _ _ _ h
theorem dX6_layings_0 : decode cX6_layings 0 = .ok (.aload_n 0, 1) := by decide +kernel
theorem dX6_layings_1 : decode cX6_layings 1 = .ok (.invokevirtual 120, 3) := by decide +kernel
theorem dX6_layings_4 : decode cX6_layings 4 = .ok (.aload_n 0, 1) := by decide +kernel
theorem dX6_layings_5 : decode cX6_layings 5 = .ok (.getfield 23, 3) := by decide +kernel
theorem dX6_layings_8 : decode cX6_layings 8 = .ok (.iconst 0, 1) := by decide +kernel
theorem dX6_layings_9 : decode cX6_layings 9 = .ok (.laload, 1) := by decide +kernel
theorem dX6_layings_10 : decode cX6_layings 10 = .ok (.lreturn, 1) := by decide +kernel
def f_X6_layings (σ : St) : Option (Int64 × St) :=
  bd (f_X6_layWays σ) fun _ σ2 =>
  rdL σ2 31 (0 : Int32) fun v3 =>
  some (v3, σ2)
set_option maxRecDepth 100000 in
set_option maxHeartbeats 4000000 in
theorem c_X6_layings {g : Geo} {σ : St} {r : Int64} {σ' : St} (h : f_X6_layings σ = some (r, σ')) : Ct g yX6_layings cX6_layings 1 (some .long) rm_X6_layings [.ref (g.1 26)] σ (some (.long r)) σ' := by
  refine ct_of (own := RX6) (by decide) rfl (Nat.le_of_ble_eq_true rfl) (fun x C => ?_) ⟨rfl, rfl⟩
  show V g x _ 1 σ [(0, .ref (g.1 26))] [] 0
  unfold f_X6_layings at h
  refine v_aload_n C dX6_layings_0 rfl 0 rfl ?_
  obtain ⟨v1, σ2, cσ2, h⟩ := bd_some h
  refine callVv C (c_X6_layWays cσ2) km_X6_layWays kv_X6_layWays rfl ml_RX6_120 rfl rfl (by decide) (Nat.le_of_ble_eq_true rfl) dX6_layings_1 ?_
  refine v_aload_n C dX6_layings_4 rfl 0 rfl ?_
  refine v_getR C (p' := 31) fl_RX6_23 rfl rfl dX6_layings_5 ?_
  refine v_iconst C (v := (0 : Int32)) dX6_layings_8 (by decide) ?_
  obtain ⟨nv3, v3, ev3, h⟩ := rdL_ex h
  refine x_lald C rfl nv3 ev3 dX6_layings_9 ?_
  cases h
  exact v_lret C dX6_layings_10
theorem dX6_withKind_0 : decode cX6_withKind 0 = .ok (.lconst 0, 1) := by decide +kernel
theorem dX6_withKind_1 : decode cX6_withKind 1 = .ok (.lstore_n 3, 1) := by decide +kernel
theorem dX6_withKind_2 : decode cX6_withKind 2 = .ok (.iconst 0, 1) := by decide +kernel
theorem dX6_withKind_3 : decode cX6_withKind 3 = .ok (.istore 5, 2) := by decide +kernel
theorem dX6_withKind_5 : decode cX6_withKind 5 = .ok (.iload 5, 2) := by decide +kernel
theorem dX6_withKind_7 : decode cX6_withKind 7 = .ok (.iconst 1, 1) := by decide +kernel
theorem dX6_withKind_8 : decode cX6_withKind 8 = .ok (.aload_n 0, 1) := by decide +kernel
theorem dX6_withKind_9 : decode cX6_withKind 9 = .ok (.getfield 70, 3) := by decide +kernel
theorem dX6_withKind_12 : decode cX6_withKind 12 = .ok (.ishl, 1) := by decide +kernel
theorem dX6_withKind_13 : decode cX6_withKind 13 = .ok (.if_icmp .ge 77, 3) := by decide +kernel
theorem dX6_withKind_16 : decode cX6_withKind 16 = .ok (.aload_n 0, 1) := by decide +kernel
theorem dX6_withKind_17 : decode cX6_withKind 17 = .ok (.iload_n 1, 1) := by decide +kernel
theorem dX6_withKind_18 : decode cX6_withKind 18 = .ok (.invokevirtual 108, 3) := by decide +kernel
theorem dX6_withKind_21 : decode cX6_withKind 21 = .ok (.ifCond .eq 14, 3) := by decide +kernel
theorem dX6_withKind_24 : decode cX6_withKind 24 = .ok (.aload_n 0, 1) := by decide +kernel
theorem dX6_withKind_25 : decode cX6_withKind 25 = .ok (.iload_n 1, 1) := by decide +kernel
theorem dX6_withKind_26 : decode cX6_withKind 26 = .ok (.iload 5, 2) := by decide +kernel
theorem dX6_withKind_28 : decode cX6_withKind 28 = .ok (.iload_n 2, 1) := by decide +kernel
theorem dX6_withKind_29 : decode cX6_withKind 29 = .ok (.invokevirtual 116, 3) := by decide +kernel
theorem dX6_withKind_32 : decode cX6_withKind 32 = .ok (.goto 5, 3) := by decide +kernel
theorem dX6_withKind_35 : decode cX6_withKind 35 = .ok (.ldc 112, 2) := by decide +kernel
theorem dX6_withKind_37 : decode cX6_withKind 37 = .ok (.istore 6, 2) := by decide +kernel
theorem dX6_withKind_39 : decode cX6_withKind 39 = .ok (.lload_n 3, 1) := by decide +kernel
theorem dX6_withKind_40 : decode cX6_withKind 40 = .ok (.iload 6, 2) := by decide +kernel
theorem dX6_withKind_42 : decode cX6_withKind 42 = .ok (.ldc 112, 2) := by decide +kernel
theorem dX6_withKind_44 : decode cX6_withKind 44 = .ok (.if_icmp .ne 7, 3) := by decide +kernel
theorem dX6_withKind_47 : decode cX6_withKind 47 = .ok (.lconst 0, 1) := by decide +kernel
theorem dX6_withKind_48 : decode cX6_withKind 48 = .ok (.goto 34, 3) := by decide +kernel
theorem dX6_withKind_51 : decode cX6_withKind 51 = .ok (.aload_n 0, 1) := by decide +kernel
theorem dX6_withKind_52 : decode cX6_withKind 52 = .ok (.getfield 27, 3) := by decide +kernel
theorem dX6_withKind_55 : decode cX6_withKind 55 = .ok (.sipush 256, 3) := by decide +kernel
theorem dX6_withKind_58 : decode cX6_withKind 58 = .ok (.iload_n 1, 1) := by decide +kernel
theorem dX6_withKind_59 : decode cX6_withKind 59 = .ok (.imul, 1) := by decide +kernel
theorem dX6_withKind_60 : decode cX6_withKind 60 = .ok (.iload 5, 2) := by decide +kernel
theorem dX6_withKind_62 : decode cX6_withKind 62 = .ok (.iadd, 1) := by decide +kernel
theorem dX6_withKind_63 : decode cX6_withKind 63 = .ok (.laload, 1) := by decide +kernel
theorem dX6_withKind_64 : decode cX6_withKind 64 = .ok (.aload_n 0, 1) := by decide +kernel
theorem dX6_withKind_65 : decode cX6_withKind 65 = .ok (.getfield 23, 3) := by decide +kernel
theorem dX6_withKind_68 : decode cX6_withKind 68 = .ok (.sipush 256, 3) := by decide +kernel
theorem dX6_withKind_71 : decode cX6_withKind 71 = .ok (.iload_n 1, 1) := by decide +kernel
theorem dX6_withKind_72 : decode cX6_withKind 72 = .ok (.imul, 1) := by decide +kernel
theorem dX6_withKind_73 : decode cX6_withKind 73 = .ok (.sipush 256, 3) := by decide +kernel
theorem dX6_withKind_76 : decode cX6_withKind 76 = .ok (.iadd, 1) := by decide +kernel
theorem dX6_withKind_77 : decode cX6_withKind 77 = .ok (.iload 6, 2) := by decide +kernel
theorem dX6_withKind_79 : decode cX6_withKind 79 = .ok (.iadd, 1) := by decide +kernel
theorem dX6_withKind_80 : decode cX6_withKind 80 = .ok (.laload, 1) := by decide +kernel
theorem dX6_withKind_81 : decode cX6_withKind 81 = .ok (.lmul, 1) := by decide +kernel
theorem dX6_withKind_82 : decode cX6_withKind 82 = .ok (.ladd, 1) := by decide +kernel
theorem dX6_withKind_83 : decode cX6_withKind 83 = .ok (.lstore_n 3, 1) := by decide +kernel
theorem dX6_withKind_84 : decode cX6_withKind 84 = .ok (.iinc 5 1, 3) := by decide +kernel
theorem dX6_withKind_87 : decode cX6_withKind 87 = .ok (.goto (-82), 3) := by decide +kernel
theorem dX6_withKind_90 : decode cX6_withKind 90 = .ok (.lload_n 3, 1) := by decide +kernel
theorem dX6_withKind_91 : decode cX6_withKind 91 = .ok (.lreturn, 1) := by decide +kernel
def f_X6_withKind_82 (k5 : Int32 → Int32 → Int64 → Int32 → St → Option (Int64 × St)) (x1 : Int32) (x2 : Int32) (x5 : Int32) (s0 : Int64) (s1 : Int64) (σ : St) : Option (Int64 × St) :=
  k5 x1 x2 (s0 + s1) (x5 + 1) σ
set_option maxRecDepth 100000 in
set_option maxHeartbeats 4000000 in
theorem b_X6_withKind_82 {g : Geo} {x : Cx} (C : Ok g x cX6_withKind RX6 7 (some .long) rm_X6_withKind) (k5 : Int32 → Int32 → Int64 → Int32 → St → Option (Int64 × St)) (hk5 : ∀ (x1 : Int32) (x2 : Int32) (x3 : Int64) (x5 : Int32) (τ : St) (r : Int64) (τ' : St), k5 x1 x2 x3 x5 τ = some (r, τ') → V g x (qm g x (some (.long r)) τ') 7 τ [(0, .ref (g.1 26)), (1, .int x1), (2, .int x2), (3, .long x3), (5, .int x5)] [] 5) : ∀ (x1 : Int32) (x2 : Int32) (x5 : Int32) (s0 : Int64) (s1 : Int64) (σ : St) (r : Int64) (σ' : St), f_X6_withKind_82 k5 x1 x2 x5 s0 s1 σ = some (r, σ') → V g x (qm g x (some (.long r)) σ') 7 σ [(0, .ref (g.1 26)), (1, .int x1), (2, .int x2), (5, .int x5)] [.long s1, .long s0] 82 := by
  intro x1 x2 x5 s0 s1 σ r σ' h
  unfold f_X6_withKind_82 at h
  refine v_ladd C dX6_withKind_82 ?_
  refine v_lstore_n C (lv' := [(3, .long _), (0, .ref _), (1, .int _), (2, .int _), (5, .int _)]) dX6_withKind_83 rfl (by decide) rfl ?_
  refine v_iinc C (v := (x5 + 1)) (lv' := [(5, .int _), (3, .long _), (0, .ref _), (1, .int _), (2, .int _)]) dX6_withKind_84 4 rfl rfl (by decide) rfl ?_
  refine v_goto C (tgt := 5) dX6_withKind_87 (by decide) ?_
  refine V.sub (lv' := [(0, .ref _), (1, .int _), (2, .int _), (3, .long _), (5, .int _)]) [2, 3, 4, 1, 0] rfl ?_
  exact hk5 _ _ _ _  _ _ _ h
def f_X6_withKind_37 (k5 : Int32 → Int32 → Int64 → Int32 → St → Option (Int64 × St)) (x1 : Int32) (x2 : Int32) (x3 : Int64) (x5 : Int32) (s0 : Int32) (σ : St) : Option (Int64 × St) :=
  if s0 = (-900009 : Int32) then
    f_X6_withKind_82 k5 x1 x2 x5 x3 (0 : Int64) σ
  else
    rdL σ 32 (((256 : Int32) * x1) + x5) fun v1 =>
    rdL σ 31 ((((256 : Int32) * x1) + (256 : Int32)) + s0) fun v2 =>
    f_X6_withKind_82 k5 x1 x2 x5 x3 (v1 * v2) σ
set_option maxRecDepth 100000 in
set_option maxHeartbeats 4000000 in
theorem b_X6_withKind_37 {g : Geo} {x : Cx} (C : Ok g x cX6_withKind RX6 7 (some .long) rm_X6_withKind) (k5 : Int32 → Int32 → Int64 → Int32 → St → Option (Int64 × St)) (hk5 : ∀ (x1 : Int32) (x2 : Int32) (x3 : Int64) (x5 : Int32) (τ : St) (r : Int64) (τ' : St), k5 x1 x2 x3 x5 τ = some (r, τ') → V g x (qm g x (some (.long r)) τ') 7 τ [(0, .ref (g.1 26)), (1, .int x1), (2, .int x2), (3, .long x3), (5, .int x5)] [] 5) : ∀ (x1 : Int32) (x2 : Int32) (x3 : Int64) (x5 : Int32) (s0 : Int32) (σ : St) (r : Int64) (σ' : St), f_X6_withKind_37 k5 x1 x2 x3 x5 s0 σ = some (r, σ') → V g x (qm g x (some (.long r)) σ') 7 σ [(0, .ref (g.1 26)), (1, .int x1), (2, .int x2), (3, .long x3), (5, .int x5)] [.int s0] 37 := by
  intro x1 x2 x3 x5 s0 σ r σ' h
  unfold f_X6_withKind_37 at h
  refine v_istore C (lv' := [(6, .int _), (0, .ref _), (1, .int _), (2, .int _), (3, .long _), (5, .int _)]) dX6_withKind_37 (by decide) rfl ?_
  refine v_lload_n C dX6_withKind_39 rfl 4 rfl ?_
  refine v_iload C dX6_withKind_40 0 rfl ?_
  refine v_ldc C (v := (-900009 : Int32)) con_RX6_112 dX6_withKind_42 ?_
  refine v_icmp_ne C (tgt := 51) dX6_withKind_44 (by decide) (fun q3 => ?_) (fun q3 => ?_)
  · rw [if_neg q3] at h
    refine v_aload_n C dX6_withKind_51 rfl 1 rfl ?_
    refine v_getR C (p' := 32) fl_RX6_27 rfl rfl dX6_withKind_52 ?_
    refine v_sipush C (v := (256 : Int32)) dX6_withKind_55 (by decide) ?_
    refine v_iload_n C dX6_withKind_58 rfl 2 rfl ?_
    refine v_imul C dX6_withKind_59 ?_
    refine v_iload C dX6_withKind_60 5 rfl ?_
    refine v_iadd C dX6_withKind_62 ?_
    obtain ⟨nv1, v1, ev1, h⟩ := rdL_ex h
    refine x_lald C rfl nv1 ev1 dX6_withKind_63 ?_
    refine v_aload_n C dX6_withKind_64 rfl 1 rfl ?_
    refine v_getR C (p' := 31) fl_RX6_23 rfl rfl dX6_withKind_65 ?_
    refine v_sipush C (v := (256 : Int32)) dX6_withKind_68 (by decide) ?_
    refine v_iload_n C dX6_withKind_71 rfl 2 rfl ?_
    refine v_imul C dX6_withKind_72 ?_
    refine v_sipush C (v := (256 : Int32)) dX6_withKind_73 (by decide) ?_
    refine v_iadd C dX6_withKind_76 ?_
    refine v_iload C dX6_withKind_77 0 rfl ?_
    refine v_iadd C dX6_withKind_79 ?_
    obtain ⟨nv2, v2, ev2, h⟩ := rdL_ex h
    refine x_lald C rfl nv2 ev2 dX6_withKind_80 ?_
    refine v_lmul C dX6_withKind_81 ?_
    refine V.sub (lv' := [(0, .ref _), (1, .int _), (2, .int _), (5, .int _)]) [1, 2, 3, 5] rfl ?_
    exact b_X6_withKind_82 C _ hk5 _ _ _ _ _  _ _ _ h
  · rw [if_pos q3] at h
    refine v_lconst C (v := (0 : Int64)) dX6_withKind_47 (by decide) ?_
    refine v_goto C (tgt := 82) dX6_withKind_48 (by decide) ?_
    refine V.sub (lv' := [(0, .ref _), (1, .int _), (2, .int _), (5, .int _)]) [1, 2, 3, 5] rfl ?_
    exact b_X6_withKind_82 C _ hk5 _ _ _ _ _  _ _ _ h
def f_X6_withKind_5 : Nat → Int32 → Int32 → Int64 → Int32 → St → Option (Int64 × St)
  | 0, _, _, _, _, _ => none
  | n + 1, x1, x2, x3, x5, σ =>
    if (jshl (1 : Int32) (gi σ 26 0)) ≤ x5 then
      some (x3, σ)
    else
      bd (f_X6_isUp x1 σ) fun v1 σ2 =>
      if v1 = 0 then
        f_X6_withKind_37 (f_X6_withKind_5 n) x1 x2 x3 x5 (-900009 : Int32) σ2
      else
        bd (f_X6_then x1 x5 x2 σ2) fun v3 σ4 =>
        f_X6_withKind_37 (f_X6_withKind_5 n) x1 x2 x3 x5 v3 σ4
set_option maxRecDepth 100000 in
set_option maxHeartbeats 4000000 in
theorem b_X6_withKind_5 {g : Geo} {x : Cx} (C : Ok g x cX6_withKind RX6 7 (some .long) rm_X6_withKind) : ∀ (n : Nat) (x1 : Int32) (x2 : Int32) (x3 : Int64) (x5 : Int32) (σ : St) (r : Int64) (σ' : St), f_X6_withKind_5 n x1 x2 x3 x5 σ = some (r, σ') → V g x (qm g x (some (.long r)) σ') 7 σ [(0, .ref (g.1 26)), (1, .int x1), (2, .int x2), (3, .long x3), (5, .int x5)] [] 5 := by
  intro n
  induction n with
  | zero =>
    intro x1 x2 x3 x5 σ r σ' h
    rw [f_X6_withKind_5] at h
    cases h
  | succ n ih =>
    intro x1 x2 x3 x5 σ r σ' h
    rw [f_X6_withKind_5] at h
    refine v_iload C dX6_withKind_5 4 rfl ?_
    refine v_iconst C (v := (1 : Int32)) dX6_withKind_7 (by decide) ?_
    refine v_aload_n C dX6_withKind_8 rfl 0 rfl ?_
    refine v_getI C fl_RX6_70 rfl dX6_withKind_9 ?_
    refine v_ishl C dX6_withKind_12 ?_
    refine v_icmp_ge C (tgt := 90) dX6_withKind_13 (by decide) (fun q6 => ?_) (fun q6 => ?_)
    · rw [if_pos q6] at h
      refine v_lload_n C dX6_withKind_90 rfl 3 rfl ?_
      cases h
      exact v_lret C dX6_withKind_91
    · rw [if_neg q6] at h
      refine v_aload_n C dX6_withKind_16 rfl 0 rfl ?_
      refine v_iload_n C dX6_withKind_17 rfl 1 rfl ?_
      obtain ⟨v1, σ2, cσ2, h⟩ := bd_some h
      refine callVi C (c_X6_isUp cσ2) km_X6_isUp kv_X6_isUp rfl ml_RX6_108 rfl rfl (by decide) (Nat.le_of_ble_eq_true rfl) dX6_withKind_18 ?_
      refine v_if_eq C (tgt := 35) dX6_withKind_21 (by decide) (fun q5 => ?_) (fun q5 => ?_)
      · rw [if_pos q5] at h
        refine v_ldc C (v := (-900009 : Int32)) con_RX6_112 dX6_withKind_35 ?_
        refine V.sub (lv' := [(0, .ref _), (1, .int _), (2, .int _), (3, .long _), (5, .int _)]) [0, 1, 2, 3, 4] rfl ?_
        exact b_X6_withKind_37 C _ ih _ _ _ _ _  _ _ _ h
      · rw [if_neg q5] at h
        refine v_aload_n C dX6_withKind_24 rfl 0 rfl ?_
        refine v_iload_n C dX6_withKind_25 rfl 1 rfl ?_
        refine v_iload C dX6_withKind_26 4 rfl ?_
        refine v_iload_n C dX6_withKind_28 rfl 2 rfl ?_
        obtain ⟨v3, σ4, cσ4, h⟩ := bd_some h
        refine callVi C (c_X6_then cσ4) km_X6_then kv_X6_then rfl ml_RX6_116 rfl rfl (by decide) (Nat.le_of_ble_eq_true rfl) dX6_withKind_29 ?_
        refine v_goto C (tgt := 37) dX6_withKind_32 (by decide) ?_
        refine V.sub (lv' := [(0, .ref _), (1, .int _), (2, .int _), (3, .long _), (5, .int _)]) [0, 1, 2, 3, 4] rfl ?_
        exact b_X6_withKind_37 C _ ih _ _ _ _ _  _ _ _ h
def f_X6_withKind (a1 : Int32) (a2 : Int32) (σ : St) : Option (Int64 × St) :=
  f_X6_withKind_5 FU a1 a2 (0 : Int64) (0 : Int32) σ
set_option maxRecDepth 100000 in
set_option maxHeartbeats 4000000 in
theorem c_X6_withKind {g : Geo} {a1 : Int32} {a2 : Int32} {σ : St} {r : Int64} {σ' : St} (h : f_X6_withKind a1 a2 σ = some (r, σ')) : Ct g yX6_withKind cX6_withKind 7 (some .long) rm_X6_withKind [.ref (g.1 26), .int a1, .int a2] σ (some (.long r)) σ' := by
  refine ct_of (own := RX6) (by decide) rfl (Nat.le_of_ble_eq_true rfl) (fun x C => ?_) ⟨rfl, rfl⟩
  show V g x _ 7 σ [(0, .ref (g.1 26)), (1, .int a1), (2, .int a2)] [] 0
  unfold f_X6_withKind at h
  refine v_lconst C (v := (0 : Int64)) dX6_withKind_0 (by decide) ?_
  refine v_lstore_n C (lv' := [(3, .long _), (0, .ref _), (1, .int _), (2, .int _)]) dX6_withKind_1 rfl (by decide) rfl ?_
  refine v_iconst C (v := (0 : Int32)) dX6_withKind_2 (by decide) ?_
  refine v_istore C (lv' := [(5, .int _), (3, .long _), (0, .ref _), (1, .int _), (2, .int _)]) dX6_withKind_3 (by decide) rfl ?_
  refine V.sub (lv' := [(0, .ref _), (1, .int _), (2, .int _), (3, .long _), (5, .int _)]) [2, 3, 4, 1, 0] rfl ?_
  exact b_X6_withKind_5 C FU _ _ _ _  _ _ _ h
theorem dX6_with_0 : decode cX6_with 0 = .ok (.aload_n 0, 1) := by decide +kernel
theorem dX6_with_1 : decode cX6_with 1 = .ok (.iload_n 1, 1) := by decide +kernel
theorem dX6_with_2 : decode cX6_with 2 = .ok (.invokevirtual 123, 3) := by decide +kernel
theorem dX6_with_5 : decode cX6_with 5 = .ok (.ifCond .eq 15, 3) := by decide +kernel
theorem dX6_with_8 : decode cX6_with 8 = .ok (.iload_n 2, 1) := by decide +kernel
theorem dX6_with_9 : decode cX6_with 9 = .ok (.i2l, 1) := by decide +kernel
theorem dX6_with_10 : decode cX6_with 10 = .ok (.lconst 0, 1) := by decide +kernel
theorem dX6_with_11 : decode cX6_with 11 = .ok (.ldc2_w 126, 3) := by decide +kernel
theorem dX6_with_14 : decode cX6_with 14 = .ok (.invokestatic 84, 3) := by decide +kernel
theorem dX6_with_17 : decode cX6_with 17 = .ok (.ifCond .ne 7, 3) := by decide +kernel
theorem dX6_with_20 : decode cX6_with 20 = .ok (.ldc2_w 128, 3) := by decide +kernel
theorem dX6_with_23 : decode cX6_with 23 = .ok (.lreturn, 1) := by decide +kernel
theorem dX6_with_24 : decode cX6_with 24 = .ok (.aload_n 0, 1) := by decide +kernel
theorem dX6_with_25 : decode cX6_with 25 = .ok (.invokevirtual 120, 3) := by decide +kernel
theorem dX6_with_28 : decode cX6_with 28 = .ok (.aload_n 0, 1) := by decide +kernel
theorem dX6_with_29 : decode cX6_with 29 = .ok (.invokevirtual 130, 3) := by decide +kernel
theorem dX6_with_32 : decode cX6_with 32 = .ok (.aload_n 0, 1) := by decide +kernel
theorem dX6_with_33 : decode cX6_with 33 = .ok (.iload_n 1, 1) := by decide +kernel
theorem dX6_with_34 : decode cX6_with 34 = .ok (.iload_n 2, 1) := by decide +kernel
theorem dX6_with_35 : decode cX6_with 35 = .ok (.invokevirtual 133, 3) := by decide +kernel
theorem dX6_with_38 : decode cX6_with 38 = .ok (.lreturn, 1) := by decide +kernel
def f_X6_with_20 (σ : St) : Option (Int64 × St) :=
  some ((-900001 : Int64), σ)
set_option maxRecDepth 100000 in
set_option maxHeartbeats 4000000 in
theorem b_X6_with_20 {g : Geo} {x : Cx} (C : Ok g x cX6_with RX6 3 (some .long) rm_X6_with) : ∀ (σ : St) (r : Int64) (σ' : St), f_X6_with_20 σ = some (r, σ') → V g x (qm g x (some (.long r)) σ') 3 σ [] [] 20 := by
  intro σ r σ' h
  unfold f_X6_with_20 at h
  refine v_ldc2_w C (v := (-900001 : Int64)) conl_RX6_128 dX6_with_20 ?_
  cases h
  exact v_lret C dX6_with_23
def f_X6_with (a1 : Int32) (a2 : Int32) (σ : St) : Option (Int64 × St) :=
  bd (f_X6_isCell a1 σ) fun v1 σ2 =>
  if v1 = 0 then
    f_X6_with_20 σ2
  else
    bd (f_X6_in ((a2).toInt64) (0 : Int64) (2 : Int64) σ2) fun v3 σ4 =>
    if v3 = 0 then
      f_X6_with_20 σ4
    else
      bd (f_X6_layWays σ4) fun _ σ6 =>
      bd (f_X6_layCome σ6) fun _ σ8 =>
      bd (f_X6_withKind a1 a2 σ8) fun v9 σ10 =>
      some (v9, σ10)
set_option maxRecDepth 100000 in
set_option maxHeartbeats 4000000 in
theorem c_X6_with {g : Geo} {a1 : Int32} {a2 : Int32} {σ : St} {r : Int64} {σ' : St} (h : f_X6_with a1 a2 σ = some (r, σ')) : Ct g yX6_with cX6_with 3 (some .long) rm_X6_with [.ref (g.1 26), .int a1, .int a2] σ (some (.long r)) σ' := by
  refine ct_of (own := RX6) (by decide) rfl (Nat.le_of_ble_eq_true rfl) (fun x C => ?_) ⟨rfl, rfl⟩
  show V g x _ 3 σ [(0, .ref (g.1 26)), (1, .int a1), (2, .int a2)] [] 0
  unfold f_X6_with at h
  refine v_aload_n C dX6_with_0 rfl 0 rfl ?_
  refine v_iload_n C dX6_with_1 rfl 1 rfl ?_
  obtain ⟨v1, σ2, cσ2, h⟩ := bd_some h
  refine callVi C (c_X6_isCell cσ2) km_X6_isCell kv_X6_isCell rfl ml_RX6_123 rfl rfl (by decide) (Nat.le_of_ble_eq_true rfl) dX6_with_2 ?_
  refine v_if_eq C (tgt := 20) dX6_with_5 (by decide) (fun q12 => ?_) (fun q12 => ?_)
  · rw [if_pos q12] at h
    refine V.sub (lv' := []) [] rfl ?_
    exact b_X6_with_20 C  _ _ _ h
  · rw [if_neg q12] at h
    refine v_iload_n C dX6_with_8 rfl 2 rfl ?_
    refine v_i2l C dX6_with_9 ?_
    refine v_lconst C (v := (0 : Int64)) dX6_with_10 (by decide) ?_
    refine v_ldc2_w C (v := (2 : Int64)) conl_RX6_126 dX6_with_11 ?_
    obtain ⟨v3, σ4, cσ4, h⟩ := bd_some h
    refine callSi C (c_X6_in cσ4) km_X6_in ks_X6_in ml_RX6_84 rfl rfl (by decide) (Nat.le_of_ble_eq_true rfl) dX6_with_14 ?_
    refine v_if_ne C (tgt := 24) dX6_with_17 (by decide) (fun q11 => ?_) (fun q11 => ?_)
    · rw [if_neg q11] at h
      refine v_aload_n C dX6_with_24 rfl 0 rfl ?_
      obtain ⟨v5, σ6, cσ6, h⟩ := bd_some h
      refine callVv C (c_X6_layWays cσ6) km_X6_layWays kv_X6_layWays rfl ml_RX6_120 rfl rfl (by decide) (Nat.le_of_ble_eq_true rfl) dX6_with_25 ?_
      refine v_aload_n C dX6_with_28 rfl 0 rfl ?_
      obtain ⟨v7, σ8, cσ8, h⟩ := bd_some h
      refine callVv C (c_X6_layCome cσ8) km_X6_layCome kv_X6_layCome rfl ml_RX6_130 rfl rfl (by decide) (Nat.le_of_ble_eq_true rfl) dX6_with_29 ?_
      refine v_aload_n C dX6_with_32 rfl 0 rfl ?_
      refine v_iload_n C dX6_with_33 rfl 1 rfl ?_
      refine v_iload_n C dX6_with_34 rfl 2 rfl ?_
      obtain ⟨v9, σ10, cσ10, h⟩ := bd_some h
      refine callVl C (c_X6_withKind cσ10) km_X6_withKind kv_X6_withKind rfl ml_RX6_133 rfl rfl (by decide) (Nat.le_of_ble_eq_true rfl) dX6_with_35 ?_
      cases h
      exact v_lret C dX6_with_38
    · rw [if_pos q11] at h
      refine V.sub (lv' := []) [] rfl ?_
      exact b_X6_with_20 C  _ _ _ h
theorem dX6_kindsOf_0 : decode cX6_kindsOf 0 = .ok (.iconst 0, 1) := by decide +kernel
theorem dX6_kindsOf_1 : decode cX6_kindsOf 1 = .ok (.istore_n 2, 1) := by decide +kernel
theorem dX6_kindsOf_2 : decode cX6_kindsOf 2 = .ok (.iconst 0, 1) := by decide +kernel
theorem dX6_kindsOf_3 : decode cX6_kindsOf 3 = .ok (.istore_n 3, 1) := by decide +kernel
theorem dX6_kindsOf_4 : decode cX6_kindsOf 4 = .ok (.iload_n 3, 1) := by decide +kernel
theorem dX6_kindsOf_5 : decode cX6_kindsOf 5 = .ok (.iconst 3, 1) := by decide +kernel
theorem dX6_kindsOf_6 : decode cX6_kindsOf 6 = .ok (.if_icmp .ge 30, 3) := by decide +kernel
theorem dX6_kindsOf_9 : decode cX6_kindsOf 9 = .ok (.iload_n 2, 1) := by decide +kernel
theorem dX6_kindsOf_10 : decode cX6_kindsOf 10 = .ok (.aload_n 0, 1) := by decide +kernel
theorem dX6_kindsOf_11 : decode cX6_kindsOf 11 = .ok (.iload_n 1, 1) := by decide +kernel
theorem dX6_kindsOf_12 : decode cX6_kindsOf 12 = .ok (.iload_n 3, 1) := by decide +kernel
theorem dX6_kindsOf_13 : decode cX6_kindsOf 13 = .ok (.invokevirtual 133, 3) := by decide +kernel
theorem dX6_kindsOf_16 : decode cX6_kindsOf 16 = .ok (.lconst 0, 1) := by decide +kernel
theorem dX6_kindsOf_17 : decode cX6_kindsOf 17 = .ok (.lcmp, 1) := by decide +kernel
theorem dX6_kindsOf_18 : decode cX6_kindsOf 18 = .ok (.ifCond .le 9, 3) := by decide +kernel
theorem dX6_kindsOf_21 : decode cX6_kindsOf 21 = .ok (.iconst 1, 1) := by decide +kernel
theorem dX6_kindsOf_22 : decode cX6_kindsOf 22 = .ok (.iload_n 3, 1) := by decide +kernel
theorem dX6_kindsOf_23 : decode cX6_kindsOf 23 = .ok (.ishl, 1) := by decide +kernel
theorem dX6_kindsOf_24 : decode cX6_kindsOf 24 = .ok (.goto 4, 3) := by decide +kernel
theorem dX6_kindsOf_27 : decode cX6_kindsOf 27 = .ok (.iconst 0, 1) := by decide +kernel
theorem dX6_kindsOf_28 : decode cX6_kindsOf 28 = .ok (.ior, 1) := by decide +kernel
theorem dX6_kindsOf_29 : decode cX6_kindsOf 29 = .ok (.istore_n 2, 1) := by decide +kernel
theorem dX6_kindsOf_30 : decode cX6_kindsOf 30 = .ok (.iinc 3 1, 3) := by decide +kernel
theorem dX6_kindsOf_33 : decode cX6_kindsOf 33 = .ok (.goto (-29), 3) := by decide +kernel
theorem dX6_kindsOf_36 : decode cX6_kindsOf 36 = .ok (.iload_n 2, 1) := by decide +kernel
theorem dX6_kindsOf_37 : decode cX6_kindsOf 37 = .ok (.ireturn, 1) := by decide +kernel
def f_X6_kindsOf_28 (k4 : Int32 → Int32 → Int32 → St → Option (Int32 × St)) (x1 : Int32) (x3 : Int32) (s0 : Int32) (s1 : Int32) (σ : St) : Option (Int32 × St) :=
  k4 x1 (s0 ||| s1) (x3 + 1) σ
set_option maxRecDepth 100000 in
set_option maxHeartbeats 4000000 in
theorem b_X6_kindsOf_28 {g : Geo} {x : Cx} (C : Ok g x cX6_kindsOf RX6 4 (some .int) rm_X6_kindsOf) (k4 : Int32 → Int32 → Int32 → St → Option (Int32 × St)) (hk4 : ∀ (x1 : Int32) (x2 : Int32) (x3 : Int32) (τ : St) (r : Int32) (τ' : St), k4 x1 x2 x3 τ = some (r, τ') → V g x (qm g x (some (.int r)) τ') 4 τ [(0, .ref (g.1 26)), (1, .int x1), (2, .int x2), (3, .int x3)] [] 4) : ∀ (x1 : Int32) (x3 : Int32) (s0 : Int32) (s1 : Int32) (σ : St) (r : Int32) (σ' : St), f_X6_kindsOf_28 k4 x1 x3 s0 s1 σ = some (r, σ') → V g x (qm g x (some (.int r)) σ') 4 σ [(0, .ref (g.1 26)), (1, .int x1), (3, .int x3)] [.int s1, .int s0] 28 := by
  intro x1 x3 s0 s1 σ r σ' h
  unfold f_X6_kindsOf_28 at h
  refine v_ior C dX6_kindsOf_28 ?_
  refine v_istore_n C (lv' := [(2, .int _), (0, .ref _), (1, .int _), (3, .int _)]) dX6_kindsOf_29 rfl (by decide) rfl ?_
  refine v_iinc C (v := (x3 + 1)) (lv' := [(3, .int _), (2, .int _), (0, .ref _), (1, .int _)]) dX6_kindsOf_30 3 rfl rfl (by decide) rfl ?_
  refine v_goto C (tgt := 4) dX6_kindsOf_33 (by decide) ?_
  refine V.sub (lv' := [(0, .ref _), (1, .int _), (2, .int _), (3, .int _)]) [2, 3, 1, 0] rfl ?_
  exact hk4 _ _ _  _ _ _ h
def f_X6_kindsOf_4 : Nat → Int32 → Int32 → Int32 → St → Option (Int32 × St)
  | 0, _, _, _, _ => none
  | n + 1, x1, x2, x3, σ =>
    if (3 : Int32) ≤ x3 then
      some (x2, σ)
    else
      bd (f_X6_withKind x1 x3 σ) fun v1 σ2 =>
      if v1 ≤ (0 : Int64) then
        f_X6_kindsOf_28 (f_X6_kindsOf_4 n) x1 x3 x2 (0 : Int32) σ2
      else
        f_X6_kindsOf_28 (f_X6_kindsOf_4 n) x1 x3 x2 (jshl (1 : Int32) x3) σ2
set_option maxRecDepth 100000 in
set_option maxHeartbeats 4000000 in
theorem b_X6_kindsOf_4 {g : Geo} {x : Cx} (C : Ok g x cX6_kindsOf RX6 4 (some .int) rm_X6_kindsOf) : ∀ (n : Nat) (x1 : Int32) (x2 : Int32) (x3 : Int32) (σ : St) (r : Int32) (σ' : St), f_X6_kindsOf_4 n x1 x2 x3 σ = some (r, σ') → V g x (qm g x (some (.int r)) σ') 4 σ [(0, .ref (g.1 26)), (1, .int x1), (2, .int x2), (3, .int x3)] [] 4 := by
  intro n
  induction n with
  | zero =>
    intro x1 x2 x3 σ r σ' h
    rw [f_X6_kindsOf_4] at h
    cases h
  | succ n ih =>
    intro x1 x2 x3 σ r σ' h
    rw [f_X6_kindsOf_4] at h
    refine v_iload_n C dX6_kindsOf_4 rfl 3 rfl ?_
    refine v_iconst C (v := (3 : Int32)) dX6_kindsOf_5 (by decide) ?_
    refine v_icmp_ge C (tgt := 36) dX6_kindsOf_6 (by decide) (fun q4 => ?_) (fun q4 => ?_)
    · rw [if_pos q4] at h
      refine v_iload_n C dX6_kindsOf_36 rfl 2 rfl ?_
      cases h
      exact v_iret C dX6_kindsOf_37
    · rw [if_neg q4] at h
      refine v_iload_n C dX6_kindsOf_9 rfl 2 rfl ?_
      refine v_aload_n C dX6_kindsOf_10 rfl 0 rfl ?_
      refine v_iload_n C dX6_kindsOf_11 rfl 1 rfl ?_
      refine v_iload_n C dX6_kindsOf_12 rfl 3 rfl ?_
      obtain ⟨v1, σ2, cσ2, h⟩ := bd_some h
      refine callVl C (c_X6_withKind cσ2) km_X6_withKind kv_X6_withKind rfl ml_RX6_133 rfl rfl (by decide) (Nat.le_of_ble_eq_true rfl) dX6_kindsOf_13 ?_
      refine v_lconst C (v := (0 : Int64)) dX6_kindsOf_16 (by decide) ?_
      refine v_lcmp_le C (tgt := 27) dX6_kindsOf_17 dX6_kindsOf_18 (by decide) (fun q3 => ?_) (fun q3 => ?_)
      · rw [if_pos q3] at h
        refine v_iconst C (v := (0 : Int32)) dX6_kindsOf_27 (by decide) ?_
        refine V.sub (lv' := [(0, .ref _), (1, .int _), (3, .int _)]) [0, 1, 3] rfl ?_
        exact b_X6_kindsOf_28 C _ ih _ _ _ _  _ _ _ h
      · rw [if_neg q3] at h
        refine v_iconst C (v := (1 : Int32)) dX6_kindsOf_21 (by decide) ?_
        refine v_iload_n C dX6_kindsOf_22 rfl 3 rfl ?_
        refine v_ishl C dX6_kindsOf_23 ?_
        refine v_goto C (tgt := 28) dX6_kindsOf_24 (by decide) ?_
        refine V.sub (lv' := [(0, .ref _), (1, .int _), (3, .int _)]) [0, 1, 3] rfl ?_
        exact b_X6_kindsOf_28 C _ ih _ _ _ _  _ _ _ h
def f_X6_kindsOf (a1 : Int32) (σ : St) : Option (Int32 × St) :=
  f_X6_kindsOf_4 FU a1 (0 : Int32) (0 : Int32) σ
set_option maxRecDepth 100000 in
set_option maxHeartbeats 4000000 in
theorem c_X6_kindsOf {g : Geo} {a1 : Int32} {σ : St} {r : Int32} {σ' : St} (h : f_X6_kindsOf a1 σ = some (r, σ')) : Ct g yX6_kindsOf cX6_kindsOf 4 (some .int) rm_X6_kindsOf [.ref (g.1 26), .int a1] σ (some (.int r)) σ' := by
  refine ct_of (own := RX6) (by decide) rfl (Nat.le_of_ble_eq_true rfl) (fun x C => ?_) ⟨rfl, rfl⟩
  show V g x _ 4 σ [(0, .ref (g.1 26)), (1, .int a1)] [] 0
  unfold f_X6_kindsOf at h
  refine v_iconst C (v := (0 : Int32)) dX6_kindsOf_0 (by decide) ?_
  refine v_istore_n C (lv' := [(2, .int _), (0, .ref _), (1, .int _)]) dX6_kindsOf_1 rfl (by decide) rfl ?_
  refine v_iconst C (v := (0 : Int32)) dX6_kindsOf_2 (by decide) ?_
  refine v_istore_n C (lv' := [(3, .int _), (2, .int _), (0, .ref _), (1, .int _)]) dX6_kindsOf_3 rfl (by decide) rfl ?_
  refine V.sub (lv' := [(0, .ref _), (1, .int _), (2, .int _), (3, .int _)]) [2, 3, 1, 0] rfl ?_
  exact b_X6_kindsOf_4 C FU _ _ _  _ _ _ h
theorem dX6_kinds_0 : decode cX6_kinds 0 = .ok (.aload_n 0, 1) := by decide +kernel
theorem dX6_kinds_1 : decode cX6_kinds 1 = .ok (.iload_n 1, 1) := by decide +kernel
theorem dX6_kinds_2 : decode cX6_kinds 2 = .ok (.invokevirtual 123, 3) := by decide +kernel
theorem dX6_kinds_5 : decode cX6_kinds 5 = .ok (.ifCond .ne 6, 3) := by decide +kernel
theorem dX6_kinds_8 : decode cX6_kinds 8 = .ok (.ldc 97, 2) := by decide +kernel
theorem dX6_kinds_10 : decode cX6_kinds 10 = .ok (.ireturn, 1) := by decide +kernel
theorem dX6_kinds_11 : decode cX6_kinds 11 = .ok (.aload_n 0, 1) := by decide +kernel
theorem dX6_kinds_12 : decode cX6_kinds 12 = .ok (.invokevirtual 120, 3) := by decide +kernel
theorem dX6_kinds_15 : decode cX6_kinds 15 = .ok (.aload_n 0, 1) := by decide +kernel
theorem dX6_kinds_16 : decode cX6_kinds 16 = .ok (.invokevirtual 130, 3) := by decide +kernel
theorem dX6_kinds_19 : decode cX6_kinds 19 = .ok (.aload_n 0, 1) := by decide +kernel
theorem dX6_kinds_20 : decode cX6_kinds 20 = .ok (.iload_n 1, 1) := by decide +kernel
theorem dX6_kinds_21 : decode cX6_kinds 21 = .ok (.invokevirtual 137, 3) := by decide +kernel
theorem dX6_kinds_24 : decode cX6_kinds 24 = .ok (.ireturn, 1) := by decide +kernel
def f_X6_kinds (a1 : Int32) (σ : St) : Option (Int32 × St) :=
  bd (f_X6_isCell a1 σ) fun v1 σ2 =>
  if v1 = 0 then
    some ((-900001 : Int32), σ2)
  else
    bd (f_X6_layWays σ2) fun _ σ4 =>
    bd (f_X6_layCome σ4) fun _ σ6 =>
    bd (f_X6_kindsOf a1 σ6) fun v7 σ8 =>
    some (v7, σ8)
set_option maxRecDepth 100000 in
set_option maxHeartbeats 4000000 in
theorem c_X6_kinds {g : Geo} {a1 : Int32} {σ : St} {r : Int32} {σ' : St} (h : f_X6_kinds a1 σ = some (r, σ')) : Ct g yX6_kinds cX6_kinds 2 (some .int) rm_X6_kinds [.ref (g.1 26), .int a1] σ (some (.int r)) σ' := by
  refine ct_of (own := RX6) (by decide) rfl (Nat.le_of_ble_eq_true rfl) (fun x C => ?_) ⟨rfl, rfl⟩
  show V g x _ 2 σ [(0, .ref (g.1 26)), (1, .int a1)] [] 0
  unfold f_X6_kinds at h
  refine v_aload_n C dX6_kinds_0 rfl 0 rfl ?_
  refine v_iload_n C dX6_kinds_1 rfl 1 rfl ?_
  obtain ⟨v1, σ2, cσ2, h⟩ := bd_some h
  refine callVi C (c_X6_isCell cσ2) km_X6_isCell kv_X6_isCell rfl ml_RX6_123 rfl rfl (by decide) (Nat.le_of_ble_eq_true rfl) dX6_kinds_2 ?_
  refine v_if_ne C (tgt := 11) dX6_kinds_5 (by decide) (fun q9 => ?_) (fun q9 => ?_)
  · rw [if_neg q9] at h
    refine v_aload_n C dX6_kinds_11 rfl 0 rfl ?_
    obtain ⟨v3, σ4, cσ4, h⟩ := bd_some h
    refine callVv C (c_X6_layWays cσ4) km_X6_layWays kv_X6_layWays rfl ml_RX6_120 rfl rfl (by decide) (Nat.le_of_ble_eq_true rfl) dX6_kinds_12 ?_
    refine v_aload_n C dX6_kinds_15 rfl 0 rfl ?_
    obtain ⟨v5, σ6, cσ6, h⟩ := bd_some h
    refine callVv C (c_X6_layCome cσ6) km_X6_layCome kv_X6_layCome rfl ml_RX6_130 rfl rfl (by decide) (Nat.le_of_ble_eq_true rfl) dX6_kinds_16 ?_
    refine v_aload_n C dX6_kinds_19 rfl 0 rfl ?_
    refine v_iload_n C dX6_kinds_20 rfl 1 rfl ?_
    obtain ⟨v7, σ8, cσ8, h⟩ := bd_some h
    refine callVi C (c_X6_kindsOf cσ8) km_X6_kindsOf kv_X6_kindsOf rfl ml_RX6_137 rfl rfl (by decide) (Nat.le_of_ble_eq_true rfl) dX6_kinds_21 ?_
    cases h
    exact v_iret C dX6_kinds_24
  · rw [if_pos q9] at h
    refine v_ldc C (v := (-900001 : Int32)) con_RX6_97 dX6_kinds_8 ?_
    cases h
    exact v_iret C dX6_kinds_10
