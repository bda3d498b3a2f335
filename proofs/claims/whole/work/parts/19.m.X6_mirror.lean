/-! ===== printed: X6_mirror, X6_downOf, X6_look, X6_join, X6_layMost, X6_mostNow, X6_most, X6_lack, X6_layBar, X6_bar, X6_barred ===== -/
theorem dX6_mirror_0 : decode cX6_mirror 0 = .ok (.iload_n 1, 1) := by decide +kernel
theorem dX6_mirror_1 : decode cX6_mirror 1 = .ok (.invokestatic 155, 3) := by decide +kernel
theorem dX6_mirror_4 : decode cX6_mirror 4 = .ok (.ifCond .ne 6, 3) := by decide +kernel
theorem dX6_mirror_7 : decode cX6_mirror 7 = .ok (.ldc 97, 2) := by decide +kernel
theorem dX6_mirror_9 : decode cX6_mirror 9 = .ok (.ireturn, 1) := by decide +kernel
theorem dX6_mirror_10 : decode cX6_mirror 10 = .ok (.aload_n 0, 1) := by decide +kernel
theorem dX6_mirror_11 : decode cX6_mirror 11 = .ok (.getfield 17, 3) := by decide +kernel
theorem dX6_mirror_14 : decode cX6_mirror 14 = .ok (.iload_n 1, 1) := by decide +kernel
theorem dX6_mirror_15 : decode cX6_mirror 15 = .ok (.baload, 1) := by decide +kernel
theorem dX6_mirror_16 : decode cX6_mirror 16 = .ok (.ifCond .eq 18, 3) := by decide +kernel
theorem dX6_mirror_19 : decode cX6_mirror 19 = .ok (.aload_n 0, 1) := by decide +kernel
theorem dX6_mirror_20 : decode cX6_mirror 20 = .ok (.getfield 70, 3) := by decide +kernel
theorem dX6_mirror_23 : decode cX6_mirror 23 = .ok (.aload_n 0, 1) := by decide +kernel
theorem dX6_mirror_24 : decode cX6_mirror 24 = .ok (.getfield 74, 3) := by decide +kernel
theorem dX6_mirror_27 : decode cX6_mirror 27 = .ok (.if_icmp .ne 7, 3) := by decide +kernel
theorem dX6_mirror_30 : decode cX6_mirror 30 = .ok (.iconst 1, 1) := by decide +kernel
theorem dX6_mirror_31 : decode cX6_mirror 31 = .ok (.goto 4, 3) := by decide +kernel
theorem dX6_mirror_34 : decode cX6_mirror 34 = .ok (.iconst 0, 1) := by decide +kernel
theorem dX6_mirror_35 : decode cX6_mirror 35 = .ok (.istore_n 2, 1) := by decide +kernel
theorem dX6_mirror_36 : decode cX6_mirror 36 = .ok (.iconst 0, 1) := by decide +kernel
theorem dX6_mirror_37 : decode cX6_mirror 37 = .ok (.istore_n 3, 1) := by decide +kernel
theorem dX6_mirror_38 : decode cX6_mirror 38 = .ok (.iload_n 3, 1) := by decide +kernel
theorem dX6_mirror_39 : decode cX6_mirror 39 = .ok (.aload_n 0, 1) := by decide +kernel
theorem dX6_mirror_40 : decode cX6_mirror 40 = .ok (.invokevirtual 80, 3) := by decide +kernel
theorem dX6_mirror_43 : decode cX6_mirror 43 = .ok (.if_icmp .ge 67, 3) := by decide +kernel
theorem dX6_mirror_46 : decode cX6_mirror 46 = .ok (.iload_n 2, 1) := by decide +kernel
theorem dX6_mirror_47 : decode cX6_mirror 47 = .ok (.ifCond .eq 63, 3) := by decide +kernel
theorem dX6_mirror_50 : decode cX6_mirror 50 = .ok (.iload_n 3, 1) := by decide +kernel
theorem dX6_mirror_51 : decode cX6_mirror 51 = .ok (.aload_n 0, 1) := by decide +kernel
theorem dX6_mirror_52 : decode cX6_mirror 52 = .ok (.getfield 70, 3) := by decide +kernel
theorem dX6_mirror_55 : decode cX6_mirror 55 = .ok (.irem, 1) := by decide +kernel
theorem dX6_mirror_56 : decode cX6_mirror 56 = .ok (.aload_n 0, 1) := by decide +kernel
theorem dX6_mirror_57 : decode cX6_mirror 57 = .ok (.getfield 70, 3) := by decide +kernel
theorem dX6_mirror_60 : decode cX6_mirror 60 = .ok (.imul, 1) := by decide +kernel
theorem dX6_mirror_61 : decode cX6_mirror 61 = .ok (.iload_n 3, 1) := by decide +kernel
theorem dX6_mirror_62 : decode cX6_mirror 62 = .ok (.aload_n 0, 1) := by decide +kernel
theorem dX6_mirror_63 : decode cX6_mirror 63 = .ok (.getfield 70, 3) := by decide +kernel
theorem dX6_mirror_66 : decode cX6_mirror 66 = .ok (.idiv, 1) := by decide +kernel
theorem dX6_mirror_67 : decode cX6_mirror 67 = .ok (.iadd, 1) := by decide +kernel
theorem dX6_mirror_68 : decode cX6_mirror 68 = .ok (.istore 4, 2) := by decide +kernel
theorem dX6_mirror_70 : decode cX6_mirror 70 = .ok (.aload_n 0, 1) := by decide +kernel
theorem dX6_mirror_71 : decode cX6_mirror 71 = .ok (.iload_n 3, 1) := by decide +kernel
theorem dX6_mirror_72 : decode cX6_mirror 72 = .ok (.invokevirtual 108, 3) := by decide +kernel
theorem dX6_mirror_75 : decode cX6_mirror 75 = .ok (.aload_n 0, 1) := by decide +kernel
theorem dX6_mirror_76 : decode cX6_mirror 76 = .ok (.iload 4, 2) := by decide +kernel
theorem dX6_mirror_78 : decode cX6_mirror 78 = .ok (.invokevirtual 108, 3) := by decide +kernel
theorem dX6_mirror_81 : decode cX6_mirror 81 = .ok (.if_icmp .ne 21, 3) := by decide +kernel
theorem dX6_mirror_84 : decode cX6_mirror 84 = .ok (.aload_n 0, 1) := by decide +kernel
theorem dX6_mirror_85 : decode cX6_mirror 85 = .ok (.iload_n 3, 1) := by decide +kernel
theorem dX6_mirror_86 : decode cX6_mirror 86 = .ok (.invokevirtual 113, 3) := by decide +kernel
theorem dX6_mirror_89 : decode cX6_mirror 89 = .ok (.aload_n 0, 1) := by decide +kernel
theorem dX6_mirror_90 : decode cX6_mirror 90 = .ok (.iload 4, 2) := by decide +kernel
theorem dX6_mirror_92 : decode cX6_mirror 92 = .ok (.invokevirtual 113, 3) := by decide +kernel
theorem dX6_mirror_95 : decode cX6_mirror 95 = .ok (.if_icmp .ne 7, 3) := by decide +kernel
theorem dX6_mirror_98 : decode cX6_mirror 98 = .ok (.iconst 1, 1) := by decide +kernel
theorem dX6_mirror_99 : decode cX6_mirror 99 = .ok (.goto 4, 3) := by decide +kernel
theorem dX6_mirror_102 : decode cX6_mirror 102 = .ok (.iconst 0, 1) := by decide +kernel
theorem dX6_mirror_103 : decode cX6_mirror 103 = .ok (.istore_n 2, 1) := by decide +kernel
theorem dX6_mirror_104 : decode cX6_mirror 104 = .ok (.iinc 3 1, 3) := by decide +kernel
theorem dX6_mirror_107 : decode cX6_mirror 107 = .ok (.goto (-69), 3) := by decide +kernel
theorem dX6_mirror_110 : decode cX6_mirror 110 = .ok (.iload_n 2, 1) := by decide +kernel
theorem dX6_mirror_111 : decode cX6_mirror 111 = .ok (.ifCond .ne 6, 3) := by decide +kernel
theorem dX6_mirror_114 : decode cX6_mirror 114 = .ok (.ldc 158, 2) := by decide +kernel
theorem dX6_mirror_116 : decode cX6_mirror 116 = .ok (.ireturn, 1) := by decide +kernel
theorem dX6_mirror_117 : decode cX6_mirror 117 = .ok (.iconst 0, 1) := by decide +kernel
theorem dX6_mirror_118 : decode cX6_mirror 118 = .ok (.istore_n 3, 1) := by decide +kernel
theorem dX6_mirror_119 : decode cX6_mirror 119 = .ok (.iconst 0, 1) := by decide +kernel
theorem dX6_mirror_120 : decode cX6_mirror 120 = .ok (.istore 4, 2) := by decide +kernel
theorem dX6_mirror_122 : decode cX6_mirror 122 = .ok (.iload 4, 2) := by decide +kernel
theorem dX6_mirror_124 : decode cX6_mirror 124 = .ok (.aload_n 0, 1) := by decide +kernel
theorem dX6_mirror_125 : decode cX6_mirror 125 = .ok (.invokevirtual 80, 3) := by decide +kernel
theorem dX6_mirror_128 : decode cX6_mirror 128 = .ok (.if_icmp .ge 28, 3) := by decide +kernel
theorem dX6_mirror_131 : decode cX6_mirror 131 = .ok (.aload_n 0, 1) := by decide +kernel
theorem dX6_mirror_132 : decode cX6_mirror 132 = .ok (.getfield 48, 3) := by decide +kernel
theorem dX6_mirror_135 : decode cX6_mirror 135 = .ok (.iload 4, 2) := by decide +kernel
theorem dX6_mirror_137 : decode cX6_mirror 137 = .ok (.aload_n 0, 1) := by decide +kernel
theorem dX6_mirror_138 : decode cX6_mirror 138 = .ok (.getfield 20, 3) := by decide +kernel
theorem dX6_mirror_141 : decode cX6_mirror 141 = .ok (.bipush 64, 2) := by decide +kernel
theorem dX6_mirror_143 : decode cX6_mirror 143 = .ok (.iload_n 1, 1) := by decide +kernel
theorem dX6_mirror_144 : decode cX6_mirror 144 = .ok (.imul, 1) := by decide +kernel
theorem dX6_mirror_145 : decode cX6_mirror 145 = .ok (.iload 4, 2) := by decide +kernel
theorem dX6_mirror_147 : decode cX6_mirror 147 = .ok (.iadd, 1) := by decide +kernel
theorem dX6_mirror_148 : decode cX6_mirror 148 = .ok (.iaload, 1) := by decide +kernel
theorem dX6_mirror_149 : decode cX6_mirror 149 = .ok (.iastore, 1) := by decide +kernel
theorem dX6_mirror_150 : decode cX6_mirror 150 = .ok (.iinc 4 1, 3) := by decide +kernel
theorem dX6_mirror_153 : decode cX6_mirror 153 = .ok (.goto (-31), 3) := by decide +kernel
theorem dX6_mirror_156 : decode cX6_mirror 156 = .ok (.iconst 0, 1) := by decide +kernel
theorem dX6_mirror_157 : decode cX6_mirror 157 = .ok (.istore 4, 2) := by decide +kernel
theorem dX6_mirror_159 : decode cX6_mirror 159 = .ok (.iload 4, 2) := by decide +kernel
theorem dX6_mirror_161 : decode cX6_mirror 161 = .ok (.aload_n 0, 1) := by decide +kernel
theorem dX6_mirror_162 : decode cX6_mirror 162 = .ok (.invokevirtual 80, 3) := by decide +kernel
theorem dX6_mirror_165 : decode cX6_mirror 165 = .ok (.if_icmp .ge 100, 3) := by decide +kernel
theorem dX6_mirror_168 : decode cX6_mirror 168 = .ok (.aload_n 0, 1) := by decide +kernel
theorem dX6_mirror_169 : decode cX6_mirror 169 = .ok (.getfield 48, 3) := by decide +kernel
theorem dX6_mirror_172 : decode cX6_mirror 172 = .ok (.iload 4, 2) := by decide +kernel
theorem dX6_mirror_174 : decode cX6_mirror 174 = .ok (.aload_n 0, 1) := by decide +kernel
theorem dX6_mirror_175 : decode cX6_mirror 175 = .ok (.getfield 70, 3) := by decide +kernel
theorem dX6_mirror_178 : decode cX6_mirror 178 = .ok (.irem, 1) := by decide +kernel
theorem dX6_mirror_179 : decode cX6_mirror 179 = .ok (.aload_n 0, 1) := by decide +kernel
theorem dX6_mirror_180 : decode cX6_mirror 180 = .ok (.getfield 70, 3) := by decide +kernel
theorem dX6_mirror_183 : decode cX6_mirror 183 = .ok (.imul, 1) := by decide +kernel
theorem dX6_mirror_184 : decode cX6_mirror 184 = .ok (.iload 4, 2) := by decide +kernel
theorem dX6_mirror_186 : decode cX6_mirror 186 = .ok (.aload_n 0, 1) := by decide +kernel
theorem dX6_mirror_187 : decode cX6_mirror 187 = .ok (.getfield 70, 3) := by decide +kernel
theorem dX6_mirror_190 : decode cX6_mirror 190 = .ok (.idiv, 1) := by decide +kernel
theorem dX6_mirror_191 : decode cX6_mirror 191 = .ok (.iadd, 1) := by decide +kernel
theorem dX6_mirror_192 : decode cX6_mirror 192 = .ok (.iaload, 1) := by decide +kernel
theorem dX6_mirror_193 : decode cX6_mirror 193 = .ok (.istore 5, 2) := by decide +kernel
theorem dX6_mirror_195 : decode cX6_mirror 195 = .ok (.aload_n 0, 1) := by decide +kernel
theorem dX6_mirror_196 : decode cX6_mirror 196 = .ok (.getfield 20, 3) := by decide +kernel
theorem dX6_mirror_199 : decode cX6_mirror 199 = .ok (.bipush 64, 2) := by decide +kernel
theorem dX6_mirror_201 : decode cX6_mirror 201 = .ok (.iload_n 1, 1) := by decide +kernel
theorem dX6_mirror_202 : decode cX6_mirror 202 = .ok (.imul, 1) := by decide +kernel
theorem dX6_mirror_203 : decode cX6_mirror 203 = .ok (.iload 4, 2) := by decide +kernel
theorem dX6_mirror_205 : decode cX6_mirror 205 = .ok (.iadd, 1) := by decide +kernel
theorem dX6_mirror_206 : decode cX6_mirror 206 = .ok (.iload 5, 2) := by decide +kernel
theorem dX6_mirror_208 : decode cX6_mirror 208 = .ok (.iconst 1, 1) := by decide +kernel
theorem dX6_mirror_209 : decode cX6_mirror 209 = .ok (.if_icmp .ne 7, 3) := by decide +kernel
theorem dX6_mirror_212 : decode cX6_mirror 212 = .ok (.iconst 2, 1) := by decide +kernel
theorem dX6_mirror_213 : decode cX6_mirror 213 = .ok (.goto 15, 3) := by decide +kernel
theorem dX6_mirror_216 : decode cX6_mirror 216 = .ok (.iload 5, 2) := by decide +kernel
theorem dX6_mirror_218 : decode cX6_mirror 218 = .ok (.iconst 2, 1) := by decide +kernel
theorem dX6_mirror_219 : decode cX6_mirror 219 = .ok (.if_icmp .ne 7, 3) := by decide +kernel
theorem dX6_mirror_222 : decode cX6_mirror 222 = .ok (.iconst 1, 1) := by decide +kernel
theorem dX6_mirror_223 : decode cX6_mirror 223 = .ok (.goto 5, 3) := by decide +kernel
theorem dX6_mirror_226 : decode cX6_mirror 226 = .ok (.iload 5, 2) := by decide +kernel
theorem dX6_mirror_228 : decode cX6_mirror 228 = .ok (.iastore, 1) := by decide +kernel
theorem dX6_mirror_229 : decode cX6_mirror 229 = .ok (.iload_n 3, 1) := by decide +kernel
theorem dX6_mirror_230 : decode cX6_mirror 230 = .ok (.aload_n 0, 1) := by decide +kernel
theorem dX6_mirror_231 : decode cX6_mirror 231 = .ok (.getfield 20, 3) := by decide +kernel
theorem dX6_mirror_234 : decode cX6_mirror 234 = .ok (.bipush 64, 2) := by decide +kernel
theorem dX6_mirror_236 : decode cX6_mirror 236 = .ok (.iload_n 1, 1) := by decide +kernel
theorem dX6_mirror_237 : decode cX6_mirror 237 = .ok (.imul, 1) := by decide +kernel
theorem dX6_mirror_238 : decode cX6_mirror 238 = .ok (.iload 4, 2) := by decide +kernel
theorem dX6_mirror_240 : decode cX6_mirror 240 = .ok (.iadd, 1) := by decide +kernel
theorem dX6_mirror_241 : decode cX6_mirror 241 = .ok (.iaload, 1) := by decide +kernel
theorem dX6_mirror_242 : decode cX6_mirror 242 = .ok (.aload_n 0, 1) := by decide +kernel
theorem dX6_mirror_243 : decode cX6_mirror 243 = .ok (.getfield 48, 3) := by decide +kernel
theorem dX6_mirror_246 : decode cX6_mirror 246 = .ok (.iload 4, 2) := by decide +kernel
theorem dX6_mirror_248 : decode cX6_mirror 248 = .ok (.iaload, 1) := by decide +kernel
theorem dX6_mirror_249 : decode cX6_mirror 249 = .ok (.if_icmp .eq 7, 3) := by decide +kernel
theorem dX6_mirror_252 : decode cX6_mirror 252 = .ok (.iconst 1, 1) := by decide +kernel
theorem dX6_mirror_253 : decode cX6_mirror 253 = .ok (.goto 4, 3) := by decide +kernel
theorem dX6_mirror_256 : decode cX6_mirror 256 = .ok (.iconst 0, 1) := by decide +kernel
theorem dX6_mirror_257 : decode cX6_mirror 257 = .ok (.iadd, 1) := by decide +kernel
theorem dX6_mirror_258 : decode cX6_mirror 258 = .ok (.istore_n 3, 1) := by decide +kernel
theorem dX6_mirror_259 : decode cX6_mirror 259 = .ok (.iinc 4 1, 3) := by decide +kernel
theorem dX6_mirror_262 : decode cX6_mirror 262 = .ok (.goto (-103), 3) := by decide +kernel
theorem dX6_mirror_265 : decode cX6_mirror 265 = .ok (.iload_n 3, 1) := by decide +kernel
theorem dX6_mirror_266 : decode cX6_mirror 266 = .ok (.ireturn, 1) := by decide +kernel
def f_X6_mirror_257 (k159 : Int32 → Int32 → Int32 → St → Option (Int32 × St)) (x1 : Int32) (x4 : Int32) (s0 : Int32) (s1 : Int32) (σ : St) : Option (Int32 × St) :=
  k159 x1 (s0 + s1) (x4 + 1) σ
set_option maxRecDepth 100000 in
set_option maxHeartbeats 4000000 in
theorem b_X6_mirror_257 {g : Geo} {x : Cx} (C : Ok g x cX6_mirror RX6 6 (some .int) rm_X6_mirror) (k159 : Int32 → Int32 → Int32 → St → Option (Int32 × St)) (hk159 : ∀ (x1 : Int32) (x3 : Int32) (x4 : Int32) (τ : St) (r : Int32) (τ' : St), k159 x1 x3 x4 τ = some (r, τ') → V g x (qm g x (some (.int r)) τ') 6 τ [(0, .ref (g.1 26)), (1, .int x1), (3, .int x3), (4, .int x4)] [] 159) : ∀ (x1 : Int32) (x4 : Int32) (s0 : Int32) (s1 : Int32) (σ : St) (r : Int32) (σ' : St), f_X6_mirror_257 k159 x1 x4 s0 s1 σ = some (r, σ') → V g x (qm g x (some (.int r)) σ') 6 σ [(0, .ref (g.1 26)), (1, .int x1), (4, .int x4)] [.int s1, .int s0] 257 := by
  intro x1 x4 s0 s1 σ r σ' h
  unfold f_X6_mirror_257 at h
  refine v_iadd C dX6_mirror_257 ?_
  refine v_istore_n C (lv' := [(3, .int _), (0, .ref _), (1, .int _), (4, .int _)]) dX6_mirror_258 rfl (by decide) rfl ?_
  refine v_iinc C (v := (x4 + 1)) (lv' := [(4, .int _), (3, .int _), (0, .ref _), (1, .int _)]) dX6_mirror_259 3 rfl rfl (by decide) rfl ?_
  refine v_goto C (tgt := 159) dX6_mirror_262 (by decide) ?_
  refine V.sub (lv' := [(0, .ref _), (1, .int _), (3, .int _), (4, .int _)]) [2, 3, 1, 0] rfl ?_
  exact hk159 _ _ _  _ _ _ h
def f_X6_mirror_228 (k159 : Int32 → Int32 → Int32 → St → Option (Int32 × St)) (x1 : Int32) (x3 : Int32) (x4 : Int32) (s1 : Int32) (s2 : Int32) (σ : St) : Option (Int32 × St) :=
  wrI σ 30 s1 s2 fun σ1 =>
  rdI σ1 30 (((64 : Int32) * x1) + x4) fun v2 =>
  rdI σ1 39 x4 fun v3 =>
  if v2 = v3 then
    f_X6_mirror_257 k159 x1 x4 x3 (0 : Int32) σ1
  else
    f_X6_mirror_257 k159 x1 x4 x3 (1 : Int32) σ1
set_option maxRecDepth 100000 in
set_option maxHeartbeats 4000000 in
theorem b_X6_mirror_228 {g : Geo} {x : Cx} (C : Ok g x cX6_mirror RX6 6 (some .int) rm_X6_mirror) (k159 : Int32 → Int32 → Int32 → St → Option (Int32 × St)) (hk159 : ∀ (x1 : Int32) (x3 : Int32) (x4 : Int32) (τ : St) (r : Int32) (τ' : St), k159 x1 x3 x4 τ = some (r, τ') → V g x (qm g x (some (.int r)) τ') 6 τ [(0, .ref (g.1 26)), (1, .int x1), (3, .int x3), (4, .int x4)] [] 159) : ∀ (x1 : Int32) (x3 : Int32) (x4 : Int32) (s1 : Int32) (s2 : Int32) (σ : St) (r : Int32) (σ' : St), f_X6_mirror_228 k159 x1 x3 x4 s1 s2 σ = some (r, σ') → V g x (qm g x (some (.int r)) σ') 6 σ [(0, .ref (g.1 26)), (1, .int x1), (3, .int x3), (4, .int x4)] [.int s2, .int s1, .ref (g.1 30)] 228 := by
  intro x1 x3 x4 s1 s2 σ r σ' h
  unfold f_X6_mirror_228 at h
  obtain ⟨nσ1, σ1, eσ1, h⟩ := wrI_ex h
  refine x_iast C rfl nσ1 eσ1 dX6_mirror_228 ?_
  refine v_iload_n C dX6_mirror_229 rfl 2 rfl ?_
  refine v_aload_n C dX6_mirror_230 rfl 0 rfl ?_
  refine v_getR C (p' := 30) fl_RX6_20 rfl rfl dX6_mirror_231 ?_
  refine v_bipush C (v := (64 : Int32)) dX6_mirror_234 (by decide) ?_
  refine v_iload_n C dX6_mirror_236 rfl 1 rfl ?_
  refine v_imul C dX6_mirror_237 ?_
  refine v_iload C dX6_mirror_238 3 rfl ?_
  refine v_iadd C dX6_mirror_240 ?_
  obtain ⟨nv2, v2, ev2, h⟩ := rdI_ex h
  refine x_iald C rfl nv2 ev2 dX6_mirror_241 ?_
  refine v_aload_n C dX6_mirror_242 rfl 0 rfl ?_
  refine v_getR C (p' := 39) fl_RX6_48 rfl rfl dX6_mirror_243 ?_
  refine v_iload C dX6_mirror_246 3 rfl ?_
  obtain ⟨nv3, v3, ev3, h⟩ := rdI_ex h
  refine x_iald C rfl nv3 ev3 dX6_mirror_248 ?_
  refine v_icmp_eq C (tgt := 256) dX6_mirror_249 (by decide) (fun q4 => ?_) (fun q4 => ?_)
  · rw [if_pos q4] at h
    refine v_iconst C (v := (0 : Int32)) dX6_mirror_256 (by decide) ?_
    refine V.sub (lv' := [(0, .ref _), (1, .int _), (4, .int _)]) [0, 1, 3] rfl ?_
    exact b_X6_mirror_257 C _ hk159 _ _ _ _  _ _ _ h
  · rw [if_neg q4] at h
    refine v_iconst C (v := (1 : Int32)) dX6_mirror_252 (by decide) ?_
    refine v_goto C (tgt := 257) dX6_mirror_253 (by decide) ?_
    refine V.sub (lv' := [(0, .ref _), (1, .int _), (4, .int _)]) [0, 1, 3] rfl ?_
    exact b_X6_mirror_257 C _ hk159 _ _ _ _  _ _ _ h
def f_X6_mirror_159 : Nat → Int32 → Int32 → Int32 → St → Option (Int32 × St)
  | 0, _, _, _, _ => none
  | n + 1, x1, x3, x4, σ =>
    bd (f_X6_cells σ) fun v1 σ2 =>
    if v1 ≤ x4 then
      some (x3, σ2)
    else
      rmI x4 (gi σ2 26 0) fun v3 =>
      dvI x4 (gi σ2 26 0) fun v4 =>
      rdI σ2 39 ((v3 * (gi σ2 26 0)) + v4) fun v5 =>
      if v5 = (1 : Int32) then
        f_X6_mirror_228 (f_X6_mirror_159 n) x1 x3 x4 (((64 : Int32) * x1) + x4) (2 : Int32) σ2
      else
        if v5 = (2 : Int32) then
          f_X6_mirror_228 (f_X6_mirror_159 n) x1 x3 x4 (((64 : Int32) * x1) + x4) (1 : Int32) σ2
        else
          f_X6_mirror_228 (f_X6_mirror_159 n) x1 x3 x4 (((64 : Int32) * x1) + x4) v5 σ2
set_option maxRecDepth 100000 in
set_option maxHeartbeats 4000000 in
theorem b_X6_mirror_159 {g : Geo} {x : Cx} (C : Ok g x cX6_mirror RX6 6 (some .int) rm_X6_mirror) : ∀ (n : Nat) (x1 : Int32) (x3 : Int32) (x4 : Int32) (σ : St) (r : Int32) (σ' : St), f_X6_mirror_159 n x1 x3 x4 σ = some (r, σ') → V g x (qm g x (some (.int r)) σ') 6 σ [(0, .ref (g.1 26)), (1, .int x1), (3, .int x3), (4, .int x4)] [] 159 := by
  intro n
  induction n with
  | zero =>
    intro x1 x3 x4 σ r σ' h
    rw [f_X6_mirror_159] at h
    cases h
  | succ n ih =>
    intro x1 x3 x4 σ r σ' h
    rw [f_X6_mirror_159] at h
    refine v_iload C dX6_mirror_159 3 rfl ?_
    refine v_aload_n C dX6_mirror_161 rfl 0 rfl ?_
    obtain ⟨v1, σ2, cσ2, h⟩ := bd_some h
    refine callVi C (c_X6_cells cσ2) km_X6_cells kv_X6_cells rfl ml_RX6_80 rfl rfl (by decide) (Nat.le_of_ble_eq_true rfl) dX6_mirror_162 ?_
    refine v_icmp_ge C (tgt := 265) dX6_mirror_165 (by decide) (fun q8 => ?_) (fun q8 => ?_)
    · rw [if_pos q8] at h
      refine v_iload_n C dX6_mirror_265 rfl 2 rfl ?_
      cases h
      exact v_iret C dX6_mirror_266
    · rw [if_neg q8] at h
      refine v_aload_n C dX6_mirror_168 rfl 0 rfl ?_
      refine v_getR C (p' := 39) fl_RX6_48 rfl rfl dX6_mirror_169 ?_
      refine v_iload C dX6_mirror_172 3 rfl ?_
      refine v_aload_n C dX6_mirror_174 rfl 0 rfl ?_
      refine v_getI C fl_RX6_70 rfl dX6_mirror_175 ?_
      obtain ⟨nv3, v3, ev3, h⟩ := rmI_ex h
      refine x_irem C nv3 ev3 dX6_mirror_178 ?_
      refine v_aload_n C dX6_mirror_179 rfl 0 rfl ?_
      refine v_getI C fl_RX6_70 rfl dX6_mirror_180 ?_
      refine v_imul C dX6_mirror_183 ?_
      refine v_iload C dX6_mirror_184 3 rfl ?_
      refine v_aload_n C dX6_mirror_186 rfl 0 rfl ?_
      refine v_getI C fl_RX6_70 rfl dX6_mirror_187 ?_
      obtain ⟨nv4, v4, ev4, h⟩ := dvI_ex h
      refine x_idiv C nv4 ev4 dX6_mirror_190 ?_
      refine v_iadd C dX6_mirror_191 ?_
      obtain ⟨nv5, v5, ev5, h⟩ := rdI_ex h
      refine x_iald C rfl nv5 ev5 dX6_mirror_192 ?_
      refine v_istore C (lv' := [(5, .int _), (0, .ref _), (1, .int _), (3, .int _), (4, .int _)]) dX6_mirror_193 (by decide) rfl ?_
      refine v_aload_n C dX6_mirror_195 rfl 1 rfl ?_
      refine v_getR C (p' := 30) fl_RX6_20 rfl rfl dX6_mirror_196 ?_
      refine v_bipush C (v := (64 : Int32)) dX6_mirror_199 (by decide) ?_
      refine v_iload_n C dX6_mirror_201 rfl 2 rfl ?_
      refine v_imul C dX6_mirror_202 ?_
      refine v_iload C dX6_mirror_203 4 rfl ?_
      refine v_iadd C dX6_mirror_205 ?_
      refine v_iload C dX6_mirror_206 0 rfl ?_
      refine v_iconst C (v := (1 : Int32)) dX6_mirror_208 (by decide) ?_
      refine v_icmp_ne C (tgt := 216) dX6_mirror_209 (by decide) (fun q7 => ?_) (fun q7 => ?_)
      · rw [if_neg q7] at h
        refine v_iload C dX6_mirror_216 0 rfl ?_
        refine v_iconst C (v := (2 : Int32)) dX6_mirror_218 (by decide) ?_
        refine v_icmp_ne C (tgt := 226) dX6_mirror_219 (by decide) (fun q6 => ?_) (fun q6 => ?_)
        · rw [if_neg q6] at h
          refine v_iload C dX6_mirror_226 0 rfl ?_
          refine V.sub (lv' := [(0, .ref _), (1, .int _), (3, .int _), (4, .int _)]) [1, 2, 3, 4] rfl ?_
          exact b_X6_mirror_228 C _ ih _ _ _ _ _  _ _ _ h
        · rw [if_pos q6] at h
          refine v_iconst C (v := (1 : Int32)) dX6_mirror_222 (by decide) ?_
          refine v_goto C (tgt := 228) dX6_mirror_223 (by decide) ?_
          refine V.sub (lv' := [(0, .ref _), (1, .int _), (3, .int _), (4, .int _)]) [1, 2, 3, 4] rfl ?_
          exact b_X6_mirror_228 C _ ih _ _ _ _ _  _ _ _ h
      · rw [if_pos q7] at h
        refine v_iconst C (v := (2 : Int32)) dX6_mirror_212 (by decide) ?_
        refine v_goto C (tgt := 228) dX6_mirror_213 (by decide) ?_
        refine V.sub (lv' := [(0, .ref _), (1, .int _), (3, .int _), (4, .int _)]) [1, 2, 3, 4] rfl ?_
        exact b_X6_mirror_228 C _ ih _ _ _ _ _  _ _ _ h
def f_X6_mirror_122 : Nat → Int32 → Int32 → Int32 → St → Option (Int32 × St)
  | 0, _, _, _, _ => none
  | n + 1, x1, x3, x4, σ =>
    bd (f_X6_cells σ) fun v1 σ2 =>
    if v1 ≤ x4 then
      f_X6_mirror_159 FU x1 x3 (0 : Int32) σ2
    else
      rdI σ2 30 (((64 : Int32) * x1) + x4) fun v3 =>
      wrI σ2 39 x4 v3 fun σ4 =>
      f_X6_mirror_122 n x1 x3 (x4 + 1) σ4
set_option maxRecDepth 100000 in
set_option maxHeartbeats 4000000 in
theorem b_X6_mirror_122 {g : Geo} {x : Cx} (C : Ok g x cX6_mirror RX6 6 (some .int) rm_X6_mirror) : ∀ (n : Nat) (x1 : Int32) (x3 : Int32) (x4 : Int32) (σ : St) (r : Int32) (σ' : St), f_X6_mirror_122 n x1 x3 x4 σ = some (r, σ') → V g x (qm g x (some (.int r)) σ') 6 σ [(0, .ref (g.1 26)), (1, .int x1), (3, .int x3), (4, .int x4)] [] 122 := by
  intro n
  induction n with
  | zero =>
    intro x1 x3 x4 σ r σ' h
    rw [f_X6_mirror_122] at h
    cases h
  | succ n ih =>
    intro x1 x3 x4 σ r σ' h
    rw [f_X6_mirror_122] at h
    refine v_iload C dX6_mirror_122 3 rfl ?_
    refine v_aload_n C dX6_mirror_124 rfl 0 rfl ?_
    obtain ⟨v1, σ2, cσ2, h⟩ := bd_some h
    refine callVi C (c_X6_cells cσ2) km_X6_cells kv_X6_cells rfl ml_RX6_80 rfl rfl (by decide) (Nat.le_of_ble_eq_true rfl) dX6_mirror_125 ?_
    refine v_icmp_ge C (tgt := 156) dX6_mirror_128 (by decide) (fun q5 => ?_) (fun q5 => ?_)
    · rw [if_pos q5] at h
      refine v_iconst C (v := (0 : Int32)) dX6_mirror_156 (by decide) ?_
      refine v_istore C (lv' := [(4, .int _), (0, .ref _), (1, .int _), (3, .int _)]) dX6_mirror_157 (by decide) rfl ?_
      refine V.sub (lv' := [(0, .ref _), (1, .int _), (3, .int _), (4, .int _)]) [1, 2, 3, 0] rfl ?_
      exact b_X6_mirror_159 C FU _ _ _  _ _ _ h
    · rw [if_neg q5] at h
      refine v_aload_n C dX6_mirror_131 rfl 0 rfl ?_
      refine v_getR C (p' := 39) fl_RX6_48 rfl rfl dX6_mirror_132 ?_
      refine v_iload C dX6_mirror_135 3 rfl ?_
      refine v_aload_n C dX6_mirror_137 rfl 0 rfl ?_
      refine v_getR C (p' := 30) fl_RX6_20 rfl rfl dX6_mirror_138 ?_
      refine v_bipush C (v := (64 : Int32)) dX6_mirror_141 (by decide) ?_
      refine v_iload_n C dX6_mirror_143 rfl 1 rfl ?_
      refine v_imul C dX6_mirror_144 ?_
      refine v_iload C dX6_mirror_145 3 rfl ?_
      refine v_iadd C dX6_mirror_147 ?_
      obtain ⟨nv3, v3, ev3, h⟩ := rdI_ex h
      refine x_iald C rfl nv3 ev3 dX6_mirror_148 ?_
      obtain ⟨nσ4, σ4, eσ4, h⟩ := wrI_ex h
      refine x_iast C rfl nσ4 eσ4 dX6_mirror_149 ?_
      refine v_iinc C (v := (x4 + 1)) (lv' := [(4, .int _), (0, .ref _), (1, .int _), (3, .int _)]) dX6_mirror_150 3 rfl rfl (by decide) rfl ?_
      refine v_goto C (tgt := 122) dX6_mirror_153 (by decide) ?_
      refine V.sub (lv' := [(0, .ref _), (1, .int _), (3, .int _), (4, .int _)]) [1, 2, 3, 0] rfl ?_
      exact ih _ _ _  _ _ _ h
def f_X6_mirror_110 (x1 : Int32) (x2 : Int32) (σ : St) : Option (Int32 × St) :=
  if x2 = 0 then
    some ((-900003 : Int32), σ)
  else
    f_X6_mirror_122 FU x1 (0 : Int32) (0 : Int32) σ
set_option maxRecDepth 100000 in
set_option maxHeartbeats 4000000 in
theorem b_X6_mirror_110 {g : Geo} {x : Cx} (C : Ok g x cX6_mirror RX6 6 (some .int) rm_X6_mirror) : ∀ (x1 : Int32) (x2 : Int32) (σ : St) (r : Int32) (σ' : St), f_X6_mirror_110 x1 x2 σ = some (r, σ') → V g x (qm g x (some (.int r)) σ') 6 σ [(0, .ref (g.1 26)), (1, .int x1), (2, .int x2)] [] 110 := by
  intro x1 x2 σ r σ' h
  unfold f_X6_mirror_110 at h
  refine v_iload_n C dX6_mirror_110 rfl 2 rfl ?_
  refine v_if_ne C (tgt := 117) dX6_mirror_111 (by decide) (fun q1 => ?_) (fun q1 => ?_)
  · rw [if_neg q1] at h
    refine v_iconst C (v := (0 : Int32)) dX6_mirror_117 (by decide) ?_
    refine v_istore_n C (lv' := [(3, .int _), (0, .ref _), (1, .int _), (2, .int _)]) dX6_mirror_118 rfl (by decide) rfl ?_
    refine v_iconst C (v := (0 : Int32)) dX6_mirror_119 (by decide) ?_
    refine v_istore C (lv' := [(4, .int _), (3, .int _), (0, .ref _), (1, .int _), (2, .int _)]) dX6_mirror_120 (by decide) rfl ?_
    refine V.sub (lv' := [(0, .ref _), (1, .int _), (3, .int _), (4, .int _)]) [2, 3, 1, 0] rfl ?_
    exact b_X6_mirror_122 C FU _ _ _  _ _ _ h
  · rw [if_pos q1] at h
    refine v_ldc C (v := (-900003 : Int32)) con_RX6_158 dX6_mirror_114 ?_
    cases h
    exact v_iret C dX6_mirror_116
def f_X6_mirror_103 (k38 : Int32 → Int32 → Int32 → St → Option (Int32 × St)) (x1 : Int32) (x3 : Int32) (s0 : Int32) (σ : St) : Option (Int32 × St) :=
  k38 x1 s0 (x3 + 1) σ
set_option maxRecDepth 100000 in
set_option maxHeartbeats 4000000 in
theorem b_X6_mirror_103 {g : Geo} {x : Cx} (C : Ok g x cX6_mirror RX6 6 (some .int) rm_X6_mirror) (k38 : Int32 → Int32 → Int32 → St → Option (Int32 × St)) (hk38 : ∀ (x1 : Int32) (x2 : Int32) (x3 : Int32) (τ : St) (r : Int32) (τ' : St), k38 x1 x2 x3 τ = some (r, τ') → V g x (qm g x (some (.int r)) τ') 6 τ [(0, .ref (g.1 26)), (1, .int x1), (2, .int x2), (3, .int x3)] [] 38) : ∀ (x1 : Int32) (x3 : Int32) (s0 : Int32) (σ : St) (r : Int32) (σ' : St), f_X6_mirror_103 k38 x1 x3 s0 σ = some (r, σ') → V g x (qm g x (some (.int r)) σ') 6 σ [(0, .ref (g.1 26)), (1, .int x1), (3, .int x3)] [.int s0] 103 := by
  intro x1 x3 s0 σ r σ' h
  unfold f_X6_mirror_103 at h
  refine v_istore_n C (lv' := [(2, .int _), (0, .ref _), (1, .int _), (3, .int _)]) dX6_mirror_103 rfl (by decide) rfl ?_
  refine v_iinc C (v := (x3 + 1)) (lv' := [(3, .int _), (2, .int _), (0, .ref _), (1, .int _)]) dX6_mirror_104 3 rfl rfl (by decide) rfl ?_
  refine v_goto C (tgt := 38) dX6_mirror_107 (by decide) ?_
  refine V.sub (lv' := [(0, .ref _), (1, .int _), (2, .int _), (3, .int _)]) [2, 3, 1, 0] rfl ?_
  exact hk38 _ _ _  _ _ _ h
def f_X6_mirror_102 (k38 : Int32 → Int32 → Int32 → St → Option (Int32 × St)) (x1 : Int32) (x3 : Int32) (σ : St) : Option (Int32 × St) :=
  f_X6_mirror_103 k38 x1 x3 (0 : Int32) σ
set_option maxRecDepth 100000 in
set_option maxHeartbeats 4000000 in
theorem b_X6_mirror_102 {g : Geo} {x : Cx} (C : Ok g x cX6_mirror RX6 6 (some .int) rm_X6_mirror) (k38 : Int32 → Int32 → Int32 → St → Option (Int32 × St)) (hk38 : ∀ (x1 : Int32) (x2 : Int32) (x3 : Int32) (τ : St) (r : Int32) (τ' : St), k38 x1 x2 x3 τ = some (r, τ') → V g x (qm g x (some (.int r)) τ') 6 τ [(0, .ref (g.1 26)), (1, .int x1), (2, .int x2), (3, .int x3)] [] 38) : ∀ (x1 : Int32) (x3 : Int32) (σ : St) (r : Int32) (σ' : St), f_X6_mirror_102 k38 x1 x3 σ = some (r, σ') → V g x (qm g x (some (.int r)) σ') 6 σ [(0, .ref (g.1 26)), (1, .int x1), (3, .int x3)] [] 102 := by
  intro x1 x3 σ r σ' h
  unfold f_X6_mirror_102 at h
  refine v_iconst C (v := (0 : Int32)) dX6_mirror_102 (by decide) ?_
  refine V.sub (lv' := [(0, .ref _), (1, .int _), (3, .int _)]) [0, 1, 2] rfl ?_
  exact b_X6_mirror_103 C _ hk38 _ _ _  _ _ _ h
def f_X6_mirror_38 : Nat → Int32 → Int32 → Int32 → St → Option (Int32 × St)
  | 0, _, _, _, _ => none
  | n + 1, x1, x2, x3, σ =>
    bd (f_X6_cells σ) fun v1 σ2 =>
    if v1 ≤ x3 then
      f_X6_mirror_110 x1 x2 σ2
    else
      if x2 = 0 then
        f_X6_mirror_110 x1 x2 σ2
      else
        rmI x3 (gi σ2 26 0) fun v3 =>
        dvI x3 (gi σ2 26 0) fun v4 =>
        bd (f_X6_isUp x3 σ2) fun v5 σ6 =>
        bd (f_X6_isUp ((v3 * (gi σ2 26 0)) + v4) σ6) fun v7 σ8 =>
        if v5 = v7 then
          bd (f_X6_isDown x3 σ8) fun v9 σ10 =>
          bd (f_X6_isDown ((v3 * (gi σ2 26 0)) + v4) σ10) fun v11 σ12 =>
          if v9 = v11 then
            f_X6_mirror_103 (f_X6_mirror_38 n) x1 x3 (1 : Int32) σ12
          else
            f_X6_mirror_102 (f_X6_mirror_38 n) x1 x3 σ12
        else
          f_X6_mirror_102 (f_X6_mirror_38 n) x1 x3 σ8
set_option maxRecDepth 100000 in
set_option maxHeartbeats 4000000 in
theorem b_X6_mirror_38 {g : Geo} {x : Cx} (C : Ok g x cX6_mirror RX6 6 (some .int) rm_X6_mirror) : ∀ (n : Nat) (x1 : Int32) (x2 : Int32) (x3 : Int32) (σ : St) (r : Int32) (σ' : St), f_X6_mirror_38 n x1 x2 x3 σ = some (r, σ') → V g x (qm g x (some (.int r)) σ') 6 σ [(0, .ref (g.1 26)), (1, .int x1), (2, .int x2), (3, .int x3)] [] 38 := by
  intro n
  induction n with
  | zero =>
    intro x1 x2 x3 σ r σ' h
    rw [f_X6_mirror_38] at h
    cases h
  | succ n ih =>
    intro x1 x2 x3 σ r σ' h
    rw [f_X6_mirror_38] at h
    refine v_iload_n C dX6_mirror_38 rfl 3 rfl ?_
    refine v_aload_n C dX6_mirror_39 rfl 0 rfl ?_
    obtain ⟨v1, σ2, cσ2, h⟩ := bd_some h
    refine callVi C (c_X6_cells cσ2) km_X6_cells kv_X6_cells rfl ml_RX6_80 rfl rfl (by decide) (Nat.le_of_ble_eq_true rfl) dX6_mirror_40 ?_
    refine v_icmp_ge C (tgt := 110) dX6_mirror_43 (by decide) (fun q16 => ?_) (fun q16 => ?_)
    · rw [if_pos q16] at h
      refine V.sub (lv' := [(0, .ref _), (1, .int _), (2, .int _)]) [0, 1, 2] rfl ?_
      exact b_X6_mirror_110 C _ _  _ _ _ h
    · rw [if_neg q16] at h
      refine v_iload_n C dX6_mirror_46 rfl 2 rfl ?_
      refine v_if_eq C (tgt := 110) dX6_mirror_47 (by decide) (fun q15 => ?_) (fun q15 => ?_)
      · rw [if_pos q15] at h
        refine V.sub (lv' := [(0, .ref _), (1, .int _), (2, .int _)]) [0, 1, 2] rfl ?_
        exact b_X6_mirror_110 C _ _  _ _ _ h
      · rw [if_neg q15] at h
        refine v_iload_n C dX6_mirror_50 rfl 3 rfl ?_
        refine v_aload_n C dX6_mirror_51 rfl 0 rfl ?_
        refine v_getI C fl_RX6_70 rfl dX6_mirror_52 ?_
        obtain ⟨nv3, v3, ev3, h⟩ := rmI_ex h
        refine x_irem C nv3 ev3 dX6_mirror_55 ?_
        refine v_aload_n C dX6_mirror_56 rfl 0 rfl ?_
        refine v_getI C fl_RX6_70 rfl dX6_mirror_57 ?_
        refine v_imul C dX6_mirror_60 ?_
        refine v_iload_n C dX6_mirror_61 rfl 3 rfl ?_
        refine v_aload_n C dX6_mirror_62 rfl 0 rfl ?_
        refine v_getI C fl_RX6_70 rfl dX6_mirror_63 ?_
        obtain ⟨nv4, v4, ev4, h⟩ := dvI_ex h
        refine x_idiv C nv4 ev4 dX6_mirror_66 ?_
        refine v_iadd C dX6_mirror_67 ?_
        refine v_istore C (lv' := [(4, .int _), (0, .ref _), (1, .int _), (2, .int _), (3, .int _)]) dX6_mirror_68 (by decide) rfl ?_
        refine v_aload_n C dX6_mirror_70 rfl 1 rfl ?_
        refine v_iload_n C dX6_mirror_71 rfl 4 rfl ?_
        obtain ⟨v5, σ6, cσ6, h⟩ := bd_some h
        refine callVi C (c_X6_isUp cσ6) km_X6_isUp kv_X6_isUp rfl ml_RX6_108 rfl rfl (by decide) (Nat.le_of_ble_eq_true rfl) dX6_mirror_72 ?_
        refine v_aload_n C dX6_mirror_75 rfl 1 rfl ?_
        refine v_iload C dX6_mirror_76 0 rfl ?_
        obtain ⟨v7, σ8, cσ8, h⟩ := bd_some h
        refine callVi C (c_X6_isUp cσ8) km_X6_isUp kv_X6_isUp rfl ml_RX6_108 rfl rfl (by decide) (Nat.le_of_ble_eq_true rfl) dX6_mirror_78 ?_
        refine v_icmp_ne C (tgt := 102) dX6_mirror_81 (by decide) (fun q14 => ?_) (fun q14 => ?_)
        · rw [if_neg q14] at h
          refine V.sub (lv' := [(0, .ref _), (1, .int _), (3, .int _)]) [1, 2, 4] rfl ?_
          exact b_X6_mirror_102 C _ ih _ _  _ _ _ h
        · rw [if_pos q14] at h
          refine v_aload_n C dX6_mirror_84 rfl 1 rfl ?_
          refine v_iload_n C dX6_mirror_85 rfl 4 rfl ?_
          obtain ⟨v9, σ10, cσ10, h⟩ := bd_some h
          refine callVi C (c_X6_isDown cσ10) km_X6_isDown kv_X6_isDown rfl ml_RX6_113 rfl rfl (by decide) (Nat.le_of_ble_eq_true rfl) dX6_mirror_86 ?_
          refine v_aload_n C dX6_mirror_89 rfl 1 rfl ?_
          refine v_iload C dX6_mirror_90 0 rfl ?_
          obtain ⟨v11, σ12, cσ12, h⟩ := bd_some h
          refine callVi C (c_X6_isDown cσ12) km_X6_isDown kv_X6_isDown rfl ml_RX6_113 rfl rfl (by decide) (Nat.le_of_ble_eq_true rfl) dX6_mirror_92 ?_
          refine v_icmp_ne C (tgt := 102) dX6_mirror_95 (by decide) (fun q13 => ?_) (fun q13 => ?_)
          · rw [if_neg q13] at h
            refine V.sub (lv' := [(0, .ref _), (1, .int _), (3, .int _)]) [1, 2, 4] rfl ?_
            exact b_X6_mirror_102 C _ ih _ _  _ _ _ h
          · rw [if_pos q13] at h
            refine v_iconst C (v := (1 : Int32)) dX6_mirror_98 (by decide) ?_
            refine v_goto C (tgt := 103) dX6_mirror_99 (by decide) ?_
            refine V.sub (lv' := [(0, .ref _), (1, .int _), (3, .int _)]) [1, 2, 4] rfl ?_
            exact b_X6_mirror_103 C _ ih _ _ _  _ _ _ h
def f_X6_mirror_35 (x1 : Int32) (s0 : Int32) (σ : St) : Option (Int32 × St) :=
  f_X6_mirror_38 FU x1 s0 (0 : Int32) σ
set_option maxRecDepth 100000 in
set_option maxHeartbeats 4000000 in
theorem b_X6_mirror_35 {g : Geo} {x : Cx} (C : Ok g x cX6_mirror RX6 6 (some .int) rm_X6_mirror) : ∀ (x1 : Int32) (s0 : Int32) (σ : St) (r : Int32) (σ' : St), f_X6_mirror_35 x1 s0 σ = some (r, σ') → V g x (qm g x (some (.int r)) σ') 6 σ [(0, .ref (g.1 26)), (1, .int x1)] [.int s0] 35 := by
  intro x1 s0 σ r σ' h
  unfold f_X6_mirror_35 at h
  refine v_istore_n C (lv' := [(2, .int _), (0, .ref _), (1, .int _)]) dX6_mirror_35 rfl (by decide) rfl ?_
  refine v_iconst C (v := (0 : Int32)) dX6_mirror_36 (by decide) ?_
  refine v_istore_n C (lv' := [(3, .int _), (2, .int _), (0, .ref _), (1, .int _)]) dX6_mirror_37 rfl (by decide) rfl ?_
  refine V.sub (lv' := [(0, .ref _), (1, .int _), (2, .int _), (3, .int _)]) [2, 3, 1, 0] rfl ?_
  exact b_X6_mirror_38 C FU _ _ _  _ _ _ h
def f_X6_mirror_34 (x1 : Int32) (σ : St) : Option (Int32 × St) :=
  f_X6_mirror_35 x1 (0 : Int32) σ
set_option maxRecDepth 100000 in
set_option maxHeartbeats 4000000 in
theorem b_X6_mirror_34 {g : Geo} {x : Cx} (C : Ok g x cX6_mirror RX6 6 (some .int) rm_X6_mirror) : ∀ (x1 : Int32) (σ : St) (r : Int32) (σ' : St), f_X6_mirror_34 x1 σ = some (r, σ') → V g x (qm g x (some (.int r)) σ') 6 σ [(0, .ref (g.1 26)), (1, .int x1)] [] 34 := by
  intro x1 σ r σ' h
  unfold f_X6_mirror_34 at h
  refine v_iconst C (v := (0 : Int32)) dX6_mirror_34 (by decide) ?_
  refine V.sub (lv' := [(0, .ref _), (1, .int _)]) [0, 1] rfl ?_
  exact b_X6_mirror_35 C _ _  _ _ _ h
def f_X6_mirror (a1 : Int32) (σ : St) : Option (Int32 × St) :=
  bd (f_X6_isSlot a1 σ) fun v1 σ2 =>
  if v1 = 0 then
    some ((-900001 : Int32), σ2)
  else
    rdI σ2 29 a1 fun v3 =>
    if v3 = 0 then
      f_X6_mirror_34 a1 σ2
    else
      if (gi σ2 26 0) = (gi σ2 26 1) then
        f_X6_mirror_35 a1 (1 : Int32) σ2
      else
        f_X6_mirror_34 a1 σ2
set_option maxRecDepth 100000 in
set_option maxHeartbeats 4000000 in
theorem c_X6_mirror {g : Geo} {a1 : Int32} {σ : St} {r : Int32} {σ' : St} (h : f_X6_mirror a1 σ = some (r, σ')) : Ct g yX6_mirror cX6_mirror 6 (some .int) rm_X6_mirror [.ref (g.1 26), .int a1] σ (some (.int r)) σ' := by
  refine ct_of (own := RX6) (by decide) rfl (Nat.le_of_ble_eq_true rfl) (fun x C => ?_) ⟨rfl, rfl⟩
  show V g x _ 6 σ [(0, .ref (g.1 26)), (1, .int a1)] [] 0
  unfold f_X6_mirror at h
  refine v_iload_n C dX6_mirror_0 rfl 1 rfl ?_
  obtain ⟨v1, σ2, cσ2, h⟩ := bd_some h
  refine callSi C (c_X6_isSlot cσ2) km_X6_isSlot ks_X6_isSlot ml_RX6_155 rfl rfl (by decide) (Nat.le_of_ble_eq_true rfl) dX6_mirror_1 ?_
  refine v_if_ne C (tgt := 10) dX6_mirror_4 (by decide) (fun q6 => ?_) (fun q6 => ?_)
  · rw [if_neg q6] at h
    refine v_aload_n C dX6_mirror_10 rfl 0 rfl ?_
    refine v_getR C (p' := 29) fl_RX6_17 rfl rfl dX6_mirror_11 ?_
    refine v_iload_n C dX6_mirror_14 rfl 1 rfl ?_
    obtain ⟨nv3, v3, ev3, h⟩ := rdI_ex h
    refine x_zald C rfl nv3 ev3 dX6_mirror_15 ?_
    refine v_if_eq C (tgt := 34) dX6_mirror_16 (by decide) (fun q5 => ?_) (fun q5 => ?_)
    · rw [if_pos q5] at h
      refine V.sub (lv' := [(0, .ref _), (1, .int _)]) [0, 1] rfl ?_
      exact b_X6_mirror_34 C _  _ _ _ h
    · rw [if_neg q5] at h
      refine v_aload_n C dX6_mirror_19 rfl 0 rfl ?_
      refine v_getI C fl_RX6_70 rfl dX6_mirror_20 ?_
      refine v_aload_n C dX6_mirror_23 rfl 0 rfl ?_
      refine v_getI C fl_RX6_74 rfl dX6_mirror_24 ?_
      refine v_icmp_ne C (tgt := 34) dX6_mirror_27 (by decide) (fun q4 => ?_) (fun q4 => ?_)
      · rw [if_neg q4] at h
        refine V.sub (lv' := [(0, .ref _), (1, .int _)]) [0, 1] rfl ?_
        exact b_X6_mirror_34 C _  _ _ _ h
      · rw [if_pos q4] at h
        refine v_iconst C (v := (1 : Int32)) dX6_mirror_30 (by decide) ?_
        refine v_goto C (tgt := 35) dX6_mirror_31 (by decide) ?_
        refine V.sub (lv' := [(0, .ref _), (1, .int _)]) [0, 1] rfl ?_
        exact b_X6_mirror_35 C _ _  _ _ _ h
  · rw [if_pos q6] at h
    refine v_ldc C (v := (-900001 : Int32)) con_RX6_97 dX6_mirror_7 ?_
    cases h
    exact v_iret C dX6_mirror_9
theorem dX6_downOf_0 : decode cX6_downOf 0 = .ok (.iload_n 1, 1) := by decide +kernel
theorem dX6_downOf_1 : decode cX6_downOf 1 = .ok (.aload_n 0, 1) := by decide +kernel
theorem dX6_downOf_2 : decode cX6_downOf 2 = .ok (.getfield 70, 3) := by decide +kernel
theorem dX6_downOf_5 : decode cX6_downOf 5 = .ok (.irem, 1) := by decide +kernel
theorem dX6_downOf_6 : decode cX6_downOf 6 = .ok (.iload_n 2, 1) := by decide +kernel
theorem dX6_downOf_7 : decode cX6_downOf 7 = .ok (.iconst 1, 1) := by decide +kernel
theorem dX6_downOf_8 : decode cX6_downOf 8 = .ok (.if_icmp .ne 7, 3) := by decide +kernel
theorem dX6_downOf_11 : decode cX6_downOf 11 = .ok (.iconst 1, 1) := by decide +kernel
theorem dX6_downOf_12 : decode cX6_downOf 12 = .ok (.goto 4, 3) := by decide +kernel
theorem dX6_downOf_15 : decode cX6_downOf 15 = .ok (.iconst 0, 1) := by decide +kernel
theorem dX6_downOf_16 : decode cX6_downOf 16 = .ok (.isub, 1) := by decide +kernel
theorem dX6_downOf_17 : decode cX6_downOf 17 = .ok (.istore_n 3, 1) := by decide +kernel
theorem dX6_downOf_18 : decode cX6_downOf 18 = .ok (.iload_n 1, 1) := by decide +kernel
theorem dX6_downOf_19 : decode cX6_downOf 19 = .ok (.aload_n 0, 1) := by decide +kernel
theorem dX6_downOf_20 : decode cX6_downOf 20 = .ok (.getfield 70, 3) := by decide +kernel
theorem dX6_downOf_23 : decode cX6_downOf 23 = .ok (.idiv, 1) := by decide +kernel
theorem dX6_downOf_24 : decode cX6_downOf 24 = .ok (.iload_n 2, 1) := by decide +kernel
theorem dX6_downOf_25 : decode cX6_downOf 25 = .ok (.iconst 2, 1) := by decide +kernel
theorem dX6_downOf_26 : decode cX6_downOf 26 = .ok (.if_icmp .ne 7, 3) := by decide +kernel
theorem dX6_downOf_29 : decode cX6_downOf 29 = .ok (.iconst 1, 1) := by decide +kernel
theorem dX6_downOf_30 : decode cX6_downOf 30 = .ok (.goto 4, 3) := by decide +kernel
theorem dX6_downOf_33 : decode cX6_downOf 33 = .ok (.iconst 0, 1) := by decide +kernel
theorem dX6_downOf_34 : decode cX6_downOf 34 = .ok (.isub, 1) := by decide +kernel
theorem dX6_downOf_35 : decode cX6_downOf 35 = .ok (.istore 4, 2) := by decide +kernel
theorem dX6_downOf_37 : decode cX6_downOf 37 = .ok (.aload_n 0, 1) := by decide +kernel
theorem dX6_downOf_38 : decode cX6_downOf 38 = .ok (.iload_n 3, 1) := by decide +kernel
theorem dX6_downOf_39 : decode cX6_downOf 39 = .ok (.iload 4, 2) := by decide +kernel
theorem dX6_downOf_41 : decode cX6_downOf 41 = .ok (.iconst 0, 1) := by decide +kernel
theorem dX6_downOf_42 : decode cX6_downOf 42 = .ok (.invokevirtual 164, 3) := by decide +kernel
theorem dX6_downOf_45 : decode cX6_downOf 45 = .ok (.ifCond .eq 15, 3) := by decide +kernel
theorem dX6_downOf_48 : decode cX6_downOf 48 = .ok (.iload 4, 2) := by decide +kernel
theorem dX6_downOf_50 : decode cX6_downOf 50 = .ok (.aload_n 0, 1) := by decide +kernel
theorem dX6_downOf_51 : decode cX6_downOf 51 = .ok (.getfield 70, 3) := by decide +kernel
theorem dX6_downOf_54 : decode cX6_downOf 54 = .ok (.imul, 1) := by decide +kernel
theorem dX6_downOf_55 : decode cX6_downOf 55 = .ok (.iload_n 3, 1) := by decide +kernel
theorem dX6_downOf_56 : decode cX6_downOf 56 = .ok (.iadd, 1) := by decide +kernel
theorem dX6_downOf_57 : decode cX6_downOf 57 = .ok (.goto 5, 3) := by decide +kernel
theorem dX6_downOf_60 : decode cX6_downOf 60 = .ok (.ldc 112, 2) := by decide +kernel
theorem dX6_downOf_62 : decode cX6_downOf 62 = .ok (.ireturn, 1) := by decide +kernel
def f_X6_downOf_62 (s0 : Int32) (σ : St) : Option (Int32 × St) :=
  some (s0, σ)
set_option maxRecDepth 100000 in
set_option maxHeartbeats 4000000 in
theorem b_X6_downOf_62 {g : Geo} {x : Cx} (C : Ok g x cX6_downOf RX6 5 (some .int) rm_X6_downOf) : ∀ (s0 : Int32) (σ : St) (r : Int32) (σ' : St), f_X6_downOf_62 s0 σ = some (r, σ') → V g x (qm g x (some (.int r)) σ') 5 σ [] [.int s0] 62 := by
  intro s0 σ r σ' h
  unfold f_X6_downOf_62 at h
  cases h
  exact v_iret C dX6_downOf_62
def f_X6_downOf_34 (x3 : Int32) (s0 : Int32) (s1 : Int32) (σ : St) : Option (Int32 × St) :=
  bd (f_X6_isThere x3 (s0 - s1) (0 : Int32) σ) fun v1 σ2 =>
  if v1 = 0 then
    f_X6_downOf_62 (-900009 : Int32) σ2
  else
    f_X6_downOf_62 (((s0 - s1) * (gi σ2 26 0)) + x3) σ2
set_option maxRecDepth 100000 in
set_option maxHeartbeats 4000000 in
theorem b_X6_downOf_34 {g : Geo} {x : Cx} (C : Ok g x cX6_downOf RX6 5 (some .int) rm_X6_downOf) : ∀ (x3 : Int32) (s0 : Int32) (s1 : Int32) (σ : St) (r : Int32) (σ' : St), f_X6_downOf_34 x3 s0 s1 σ = some (r, σ') → V g x (qm g x (some (.int r)) σ') 5 σ [(0, .ref (g.1 26)), (3, .int x3)] [.int s1, .int s0] 34 := by
  intro x3 s0 s1 σ r σ' h
  unfold f_X6_downOf_34 at h
  refine v_isub C dX6_downOf_34 ?_
  refine v_istore C (lv' := [(4, .int _), (0, .ref _), (3, .int _)]) dX6_downOf_35 (by decide) rfl ?_
  refine v_aload_n C dX6_downOf_37 rfl 1 rfl ?_
  refine v_iload_n C dX6_downOf_38 rfl 2 rfl ?_
  refine v_iload C dX6_downOf_39 0 rfl ?_
  refine v_iconst C (v := (0 : Int32)) dX6_downOf_41 (by decide) ?_
  obtain ⟨v1, σ2, cσ2, h⟩ := bd_some h
  refine callVi C (c_X6_isThere cσ2) km_X6_isThere kv_X6_isThere rfl ml_RX6_164 rfl rfl (by decide) (Nat.le_of_ble_eq_true rfl) dX6_downOf_42 ?_
  refine v_if_eq C (tgt := 60) dX6_downOf_45 (by decide) (fun q3 => ?_) (fun q3 => ?_)
  · rw [if_pos q3] at h
    refine v_ldc C (v := (-900009 : Int32)) con_RX6_112 dX6_downOf_60 ?_
    refine V.sub (lv' := []) [] rfl ?_
    exact b_X6_downOf_62 C _  _ _ _ h
  · rw [if_neg q3] at h
    refine v_iload C dX6_downOf_48 0 rfl ?_
    refine v_aload_n C dX6_downOf_50 rfl 1 rfl ?_
    refine v_getI C fl_RX6_70 rfl dX6_downOf_51 ?_
    refine v_imul C dX6_downOf_54 ?_
    refine v_iload_n C dX6_downOf_55 rfl 2 rfl ?_
    refine v_iadd C dX6_downOf_56 ?_
    refine v_goto C (tgt := 62) dX6_downOf_57 (by decide) ?_
    refine V.sub (lv' := []) [] rfl ?_
    exact b_X6_downOf_62 C _  _ _ _ h
def f_X6_downOf_16 (x1 : Int32) (x2 : Int32) (s0 : Int32) (s1 : Int32) (σ : St) : Option (Int32 × St) :=
  dvI x1 (gi σ 26 0) fun v1 =>
  if x2 = (2 : Int32) then
    f_X6_downOf_34 (s0 - s1) v1 (1 : Int32) σ
  else
    f_X6_downOf_34 (s0 - s1) v1 (0 : Int32) σ
set_option maxRecDepth 100000 in
set_option maxHeartbeats 4000000 in
theorem b_X6_downOf_16 {g : Geo} {x : Cx} (C : Ok g x cX6_downOf RX6 5 (some .int) rm_X6_downOf) : ∀ (x1 : Int32) (x2 : Int32) (s0 : Int32) (s1 : Int32) (σ : St) (r : Int32) (σ' : St), f_X6_downOf_16 x1 x2 s0 s1 σ = some (r, σ') → V g x (qm g x (some (.int r)) σ') 5 σ [(0, .ref (g.1 26)), (1, .int x1), (2, .int x2)] [.int s1, .int s0] 16 := by
  intro x1 x2 s0 s1 σ r σ' h
  unfold f_X6_downOf_16 at h
  refine v_isub C dX6_downOf_16 ?_
  refine v_istore_n C (lv' := [(3, .int _), (0, .ref _), (1, .int _), (2, .int _)]) dX6_downOf_17 rfl (by decide) rfl ?_
  refine v_iload_n C dX6_downOf_18 rfl 2 rfl ?_
  refine v_aload_n C dX6_downOf_19 rfl 1 rfl ?_
  refine v_getI C fl_RX6_70 rfl dX6_downOf_20 ?_
  obtain ⟨nv1, v1, ev1, h⟩ := dvI_ex h
  refine x_idiv C nv1 ev1 dX6_downOf_23 ?_
  refine v_iload_n C dX6_downOf_24 rfl 3 rfl ?_
  refine v_iconst C (v := (2 : Int32)) dX6_downOf_25 (by decide) ?_
  refine v_icmp_ne C (tgt := 33) dX6_downOf_26 (by decide) (fun q2 => ?_) (fun q2 => ?_)
  · rw [if_neg q2] at h
    refine v_iconst C (v := (0 : Int32)) dX6_downOf_33 (by decide) ?_
    refine V.sub (lv' := [(0, .ref _), (3, .int _)]) [1, 0] rfl ?_
    exact b_X6_downOf_34 C _ _ _  _ _ _ h
  · rw [if_pos q2] at h
    refine v_iconst C (v := (1 : Int32)) dX6_downOf_29 (by decide) ?_
    refine v_goto C (tgt := 34) dX6_downOf_30 (by decide) ?_
    refine V.sub (lv' := [(0, .ref _), (3, .int _)]) [1, 0] rfl ?_
    exact b_X6_downOf_34 C _ _ _  _ _ _ h
def f_X6_downOf (a1 : Int32) (a2 : Int32) (σ : St) : Option (Int32 × St) :=
  rmI a1 (gi σ 26 0) fun v1 =>
  if a2 = (1 : Int32) then
    f_X6_downOf_16 a1 a2 v1 (1 : Int32) σ
  else
    f_X6_downOf_16 a1 a2 v1 (0 : Int32) σ
set_option maxRecDepth 100000 in
set_option maxHeartbeats 4000000 in
theorem c_X6_downOf {g : Geo} {a1 : Int32} {a2 : Int32} {σ : St} {r : Int32} {σ' : St} (h : f_X6_downOf a1 a2 σ = some (r, σ')) : Ct g yX6_downOf cX6_downOf 5 (some .int) rm_X6_downOf [.ref (g.1 26), .int a1, .int a2] σ (some (.int r)) σ' := by
  refine ct_of (own := RX6) (by decide) rfl (Nat.le_of_ble_eq_true rfl) (fun x C => ?_) ⟨rfl, rfl⟩
  show V g x _ 5 σ [(0, .ref (g.1 26)), (1, .int a1), (2, .int a2)] [] 0
  unfold f_X6_downOf at h
  refine v_iload_n C dX6_downOf_0 rfl 1 rfl ?_
  refine v_aload_n C dX6_downOf_1 rfl 0 rfl ?_
  refine v_getI C fl_RX6_70 rfl dX6_downOf_2 ?_
  obtain ⟨nv1, v1, ev1, h⟩ := rmI_ex h
  refine x_irem C nv1 ev1 dX6_downOf_5 ?_
  refine v_iload_n C dX6_downOf_6 rfl 2 rfl ?_
  refine v_iconst C (v := (1 : Int32)) dX6_downOf_7 (by decide) ?_
  refine v_icmp_ne C (tgt := 15) dX6_downOf_8 (by decide) (fun q2 => ?_) (fun q2 => ?_)
  · rw [if_neg q2] at h
    refine v_iconst C (v := (0 : Int32)) dX6_downOf_15 (by decide) ?_
    refine V.sub (lv' := [(0, .ref _), (1, .int _), (2, .int _)]) [0, 1, 2] rfl ?_
    exact b_X6_downOf_16 C _ _ _ _  _ _ _ h
  · rw [if_pos q2] at h
    refine v_iconst C (v := (1 : Int32)) dX6_downOf_11 (by decide) ?_
    refine v_goto C (tgt := 16) dX6_downOf_12 (by decide) ?_
    refine V.sub (lv' := [(0, .ref _), (1, .int _), (2, .int _)]) [0, 1, 2] rfl ?_
    exact b_X6_downOf_16 C _ _ _ _  _ _ _ h
theorem dX6_look_0 : decode cX6_look 0 = .ok (.iload_n 1, 1) := by decide +kernel
theorem dX6_look_1 : decode cX6_look 1 = .ok (.istore_n 2, 1) := by decide +kernel
theorem dX6_look_2 : decode cX6_look 2 = .ok (.iconst 0, 1) := by decide +kernel
theorem dX6_look_3 : decode cX6_look 3 = .ok (.istore_n 3, 1) := by decide +kernel
theorem dX6_look_4 : decode cX6_look 4 = .ok (.iload_n 3, 1) := by decide +kernel
theorem dX6_look_5 : decode cX6_look 5 = .ok (.iload_n 2, 1) := by decide +kernel
theorem dX6_look_6 : decode cX6_look 6 = .ok (.if_icmp .ge 143, 3) := by decide +kernel
theorem dX6_look_9 : decode cX6_look 9 = .ok (.iconst 0, 1) := by decide +kernel
theorem dX6_look_10 : decode cX6_look 10 = .ok (.istore 4, 2) := by decide +kernel
theorem dX6_look_12 : decode cX6_look 12 = .ok (.iload 4, 2) := by decide +kernel
theorem dX6_look_14 : decode cX6_look 14 = .ok (.iconst 3, 1) := by decide +kernel
theorem dX6_look_15 : decode cX6_look 15 = .ok (.if_icmp .ge 128, 3) := by decide +kernel
theorem dX6_look_18 : decode cX6_look 18 = .ok (.aload_n 0, 1) := by decide +kernel
theorem dX6_look_19 : decode cX6_look 19 = .ok (.aload_n 0, 1) := by decide +kernel
theorem dX6_look_20 : decode cX6_look 20 = .ok (.getfield 60, 3) := by decide +kernel
theorem dX6_look_23 : decode cX6_look 23 = .ok (.iload_n 3, 1) := by decide +kernel
theorem dX6_look_24 : decode cX6_look 24 = .ok (.iaload, 1) := by decide +kernel
theorem dX6_look_25 : decode cX6_look 25 = .ok (.iload 4, 2) := by decide +kernel
theorem dX6_look_27 : decode cX6_look 27 = .ok (.invokevirtual 218, 3) := by decide +kernel
theorem dX6_look_30 : decode cX6_look 30 = .ok (.istore 5, 2) := by decide +kernel
theorem dX6_look_32 : decode cX6_look 32 = .ok (.iload 5, 2) := by decide +kernel
theorem dX6_look_34 : decode cX6_look 34 = .ok (.ldc 112, 2) := by decide +kernel
theorem dX6_look_36 : decode cX6_look 36 = .ok (.if_icmp .eq 27, 3) := by decide +kernel
theorem dX6_look_39 : decode cX6_look 39 = .ok (.aload_n 0, 1) := by decide +kernel
theorem dX6_look_40 : decode cX6_look 40 = .ok (.getfield 54, 3) := by decide +kernel
theorem dX6_look_43 : decode cX6_look 43 = .ok (.iload 5, 2) := by decide +kernel
theorem dX6_look_45 : decode cX6_look 45 = .ok (.iaload, 1) := by decide +kernel
theorem dX6_look_46 : decode cX6_look 46 = .ok (.ldc 112, 2) := by decide +kernel
theorem dX6_look_48 : decode cX6_look 48 = .ok (.if_icmp .ne 15, 3) := by decide +kernel
theorem dX6_look_51 : decode cX6_look 51 = .ok (.iconst 4, 1) := by decide +kernel
theorem dX6_look_52 : decode cX6_look 52 = .ok (.aload_n 0, 1) := by decide +kernel
theorem dX6_look_53 : decode cX6_look 53 = .ok (.getfield 60, 3) := by decide +kernel
theorem dX6_look_56 : decode cX6_look 56 = .ok (.iload_n 3, 1) := by decide +kernel
theorem dX6_look_57 : decode cX6_look 57 = .ok (.iaload, 1) := by decide +kernel
theorem dX6_look_58 : decode cX6_look 58 = .ok (.imul, 1) := by decide +kernel
theorem dX6_look_59 : decode cX6_look 59 = .ok (.iload 4, 2) := by decide +kernel
theorem dX6_look_61 : decode cX6_look 61 = .ok (.iadd, 1) := by decide +kernel
theorem dX6_look_62 : decode cX6_look 62 = .ok (.ireturn, 1) := by decide +kernel
theorem dX6_look_63 : decode cX6_look 63 = .ok (.iload 5, 2) := by decide +kernel
theorem dX6_look_65 : decode cX6_look 65 = .ok (.ldc 112, 2) := by decide +kernel
theorem dX6_look_67 : decode cX6_look 67 = .ok (.if_icmp .eq 70, 3) := by decide +kernel
theorem dX6_look_70 : decode cX6_look 70 = .ok (.aload_n 0, 1) := by decide +kernel
theorem dX6_look_71 : decode cX6_look 71 = .ok (.getfield 57, 3) := by decide +kernel
theorem dX6_look_74 : decode cX6_look 74 = .ok (.aload_n 0, 1) := by decide +kernel
theorem dX6_look_75 : decode cX6_look 75 = .ok (.getfield 54, 3) := by decide +kernel
theorem dX6_look_78 : decode cX6_look 78 = .ok (.iload 5, 2) := by decide +kernel
theorem dX6_look_80 : decode cX6_look 80 = .ok (.iaload, 1) := by decide +kernel
theorem dX6_look_81 : decode cX6_look 81 = .ok (.baload, 1) := by decide +kernel
theorem dX6_look_82 : decode cX6_look 82 = .ok (.ifCond .ne 55, 3) := by decide +kernel
theorem dX6_look_85 : decode cX6_look 85 = .ok (.aload_n 0, 1) := by decide +kernel
theorem dX6_look_86 : decode cX6_look 86 = .ok (.getfield 57, 3) := by decide +kernel
theorem dX6_look_89 : decode cX6_look 89 = .ok (.aload_n 0, 1) := by decide +kernel
theorem dX6_look_90 : decode cX6_look 90 = .ok (.getfield 54, 3) := by decide +kernel
theorem dX6_look_93 : decode cX6_look 93 = .ok (.iload 5, 2) := by decide +kernel
theorem dX6_look_95 : decode cX6_look 95 = .ok (.iaload, 1) := by decide +kernel
theorem dX6_look_96 : decode cX6_look 96 = .ok (.iconst 1, 1) := by decide +kernel
theorem dX6_look_97 : decode cX6_look 97 = .ok (.bastore, 1) := by decide +kernel
theorem dX6_look_98 : decode cX6_look 98 = .ok (.aload_n 0, 1) := by decide +kernel
theorem dX6_look_99 : decode cX6_look 99 = .ok (.getfield 63, 3) := by decide +kernel
theorem dX6_look_102 : decode cX6_look 102 = .ok (.aload_n 0, 1) := by decide +kernel
theorem dX6_look_103 : decode cX6_look 103 = .ok (.getfield 54, 3) := by decide +kernel
theorem dX6_look_106 : decode cX6_look 106 = .ok (.iload 5, 2) := by decide +kernel
theorem dX6_look_108 : decode cX6_look 108 = .ok (.iaload, 1) := by decide +kernel
theorem dX6_look_109 : decode cX6_look 109 = .ok (.iconst 4, 1) := by decide +kernel
theorem dX6_look_110 : decode cX6_look 110 = .ok (.aload_n 0, 1) := by decide +kernel
theorem dX6_look_111 : decode cX6_look 111 = .ok (.getfield 60, 3) := by decide +kernel
theorem dX6_look_114 : decode cX6_look 114 = .ok (.iload_n 3, 1) := by decide +kernel
theorem dX6_look_115 : decode cX6_look 115 = .ok (.iaload, 1) := by decide +kernel
theorem dX6_look_116 : decode cX6_look 116 = .ok (.imul, 1) := by decide +kernel
theorem dX6_look_117 : decode cX6_look 117 = .ok (.iload 4, 2) := by decide +kernel
theorem dX6_look_119 : decode cX6_look 119 = .ok (.iadd, 1) := by decide +kernel
theorem dX6_look_120 : decode cX6_look 120 = .ok (.iastore, 1) := by decide +kernel
theorem dX6_look_121 : decode cX6_look 121 = .ok (.aload_n 0, 1) := by decide +kernel
theorem dX6_look_122 : decode cX6_look 122 = .ok (.getfield 60, 3) := by decide +kernel
theorem dX6_look_125 : decode cX6_look 125 = .ok (.iload_n 2, 1) := by decide +kernel
theorem dX6_look_126 : decode cX6_look 126 = .ok (.aload_n 0, 1) := by decide +kernel
theorem dX6_look_127 : decode cX6_look 127 = .ok (.getfield 54, 3) := by decide +kernel
theorem dX6_look_130 : decode cX6_look 130 = .ok (.iload 5, 2) := by decide +kernel
theorem dX6_look_132 : decode cX6_look 132 = .ok (.iaload, 1) := by decide +kernel
theorem dX6_look_133 : decode cX6_look 133 = .ok (.iastore, 1) := by decide +kernel
theorem dX6_look_134 : decode cX6_look 134 = .ok (.iinc 2 1, 3) := by decide +kernel
theorem dX6_look_137 : decode cX6_look 137 = .ok (.iinc 4 1, 3) := by decide +kernel
theorem dX6_look_140 : decode cX6_look 140 = .ok (.goto (-128), 3) := by decide +kernel
theorem dX6_look_143 : decode cX6_look 143 = .ok (.iinc 3 1, 3) := by decide +kernel
theorem dX6_look_146 : decode cX6_look 146 = .ok (.goto (-142), 3) := by decide +kernel
theorem dX6_look_149 : decode cX6_look 149 = .ok (.ldc 112, 2) := by decide +kernel
theorem dX6_look_151 : decode cX6_look 151 = .ok (.ireturn, 1) := by decide +kernel
def f_X6_look_137 (k12 : Int32 → Int32 → Int32 → St → Option (Int32 × St)) (x2 : Int32) (x3 : Int32) (x4 : Int32) (σ : St) : Option (Int32 × St) :=
  k12 x2 x3 (x4 + 1) σ
set_option maxRecDepth 100000 in
set_option maxHeartbeats 4000000 in
theorem b_X6_look_137 {g : Geo} {x : Cx} (C : Ok g x cX6_look RX6 6 (some .int) rm_X6_look) (k12 : Int32 → Int32 → Int32 → St → Option (Int32 × St)) (hk12 : ∀ (x2 : Int32) (x3 : Int32) (x4 : Int32) (τ : St) (r : Int32) (τ' : St), k12 x2 x3 x4 τ = some (r, τ') → V g x (qm g x (some (.int r)) τ') 6 τ [(0, .ref (g.1 26)), (2, .int x2), (3, .int x3), (4, .int x4)] [] 12) : ∀ (x2 : Int32) (x3 : Int32) (x4 : Int32) (σ : St) (r : Int32) (σ' : St), f_X6_look_137 k12 x2 x3 x4 σ = some (r, σ') → V g x (qm g x (some (.int r)) σ') 6 σ [(0, .ref (g.1 26)), (2, .int x2), (3, .int x3), (4, .int x4)] [] 137 := by
  intro x2 x3 x4 σ r σ' h
  unfold f_X6_look_137 at h
  refine v_iinc C (v := (x4 + 1)) (lv' := [(4, .int _), (0, .ref _), (2, .int _), (3, .int _)]) dX6_look_137 3 rfl rfl (by decide) rfl ?_
  refine v_goto C (tgt := 12) dX6_look_140 (by decide) ?_
  refine V.sub (lv' := [(0, .ref _), (2, .int _), (3, .int _), (4, .int _)]) [1, 2, 3, 0] rfl ?_
  exact hk12 _ _ _  _ _ _ h
def f_X6_look_63 (k12 : Int32 → Int32 → Int32 → St → Option (Int32 × St)) (x2 : Int32) (x3 : Int32) (x4 : Int32) (x5 : Int32) (σ : St) : Option (Int32 × St) :=
  if x5 = (-900009 : Int32) then
    f_X6_look_137 k12 x2 x3 x4 σ
  else
    rdI σ 41 x5 fun v1 =>
    rdI σ 42 v1 fun v2 =>
    if v2 = 0 then
      rdI σ 41 x5 fun v3 =>
      wrZ σ 42 v3 (1 : Int32) fun σ4 =>
      rdI σ4 41 x5 fun v5 =>
      rdI σ4 43 x3 fun v6 =>
      wrI σ4 44 v5 (((4 : Int32) * v6) + x4) fun σ7 =>
      rdI σ7 41 x5 fun v8 =>
      wrI σ7 43 x2 v8 fun σ9 =>
      f_X6_look_137 k12 (x2 + 1) x3 x4 σ9
    else
      f_X6_look_137 k12 x2 x3 x4 σ
set_option maxRecDepth 100000 in
set_option maxHeartbeats 4000000 in
theorem b_X6_look_63 {g : Geo} {x : Cx} (C : Ok g x cX6_look RX6 6 (some .int) rm_X6_look) (k12 : Int32 → Int32 → Int32 → St → Option (Int32 × St)) (hk12 : ∀ (x2 : Int32) (x3 : Int32) (x4 : Int32) (τ : St) (r : Int32) (τ' : St), k12 x2 x3 x4 τ = some (r, τ') → V g x (qm g x (some (.int r)) τ') 6 τ [(0, .ref (g.1 26)), (2, .int x2), (3, .int x3), (4, .int x4)] [] 12) : ∀ (x2 : Int32) (x3 : Int32) (x4 : Int32) (x5 : Int32) (σ : St) (r : Int32) (σ' : St), f_X6_look_63 k12 x2 x3 x4 x5 σ = some (r, σ') → V g x (qm g x (some (.int r)) σ') 6 σ [(0, .ref (g.1 26)), (2, .int x2), (3, .int x3), (4, .int x4), (5, .int x5)] [] 63 := by
  intro x2 x3 x4 x5 σ r σ' h
  unfold f_X6_look_63 at h
  refine v_iload C dX6_look_63 4 rfl ?_
  refine v_ldc C (v := (-900009 : Int32)) con_RX6_112 dX6_look_65 ?_
  refine v_icmp_eq C (tgt := 137) dX6_look_67 (by decide) (fun q11 => ?_) (fun q11 => ?_)
  · rw [if_pos q11] at h
    refine V.sub (lv' := [(0, .ref _), (2, .int _), (3, .int _), (4, .int _)]) [0, 1, 2, 3] rfl ?_
    exact b_X6_look_137 C _ hk12 _ _ _  _ _ _ h
  · rw [if_neg q11] at h
    refine v_aload_n C dX6_look_70 rfl 0 rfl ?_
    refine v_getR C (p' := 42) fl_RX6_57 rfl rfl dX6_look_71 ?_
    refine v_aload_n C dX6_look_74 rfl 0 rfl ?_
    refine v_getR C (p' := 41) fl_RX6_54 rfl rfl dX6_look_75 ?_
    refine v_iload C dX6_look_78 4 rfl ?_
    obtain ⟨nv1, v1, ev1, h⟩ := rdI_ex h
    refine x_iald C rfl nv1 ev1 dX6_look_80 ?_
    obtain ⟨nv2, v2, ev2, h⟩ := rdI_ex h
    refine x_zald C rfl nv2 ev2 dX6_look_81 ?_
    refine v_if_ne C (tgt := 137) dX6_look_82 (by decide) (fun q10 => ?_) (fun q10 => ?_)
    · rw [if_neg q10] at h
      refine V.sub (lv' := [(0, .ref _), (2, .int _), (3, .int _), (4, .int _)]) [0, 1, 2, 3] rfl ?_
      exact b_X6_look_137 C _ hk12 _ _ _  _ _ _ h
    · rw [if_pos q10] at h
      refine v_aload_n C dX6_look_85 rfl 0 rfl ?_
      refine v_getR C (p' := 42) fl_RX6_57 rfl rfl dX6_look_86 ?_
      refine v_aload_n C dX6_look_89 rfl 0 rfl ?_
      refine v_getR C (p' := 41) fl_RX6_54 rfl rfl dX6_look_90 ?_
      refine v_iload C dX6_look_93 4 rfl ?_
      obtain ⟨nv3, v3, ev3, h⟩ := rdI_ex h
      refine x_iald C rfl nv3 ev3 dX6_look_95 ?_
      refine v_iconst C (v := (1 : Int32)) dX6_look_96 (by decide) ?_
      obtain ⟨nσ4, σ4, eσ4, h⟩ := wrZ_ex h
      refine x_zast C rfl nσ4 eσ4 dX6_look_97 ?_
      refine v_aload_n C dX6_look_98 rfl 0 rfl ?_
      refine v_getR C (p' := 44) fl_RX6_63 rfl rfl dX6_look_99 ?_
      refine v_aload_n C dX6_look_102 rfl 0 rfl ?_
      refine v_getR C (p' := 41) fl_RX6_54 rfl rfl dX6_look_103 ?_
      refine v_iload C dX6_look_106 4 rfl ?_
      obtain ⟨nv5, v5, ev5, h⟩ := rdI_ex h
      refine x_iald C rfl nv5 ev5 dX6_look_108 ?_
      refine v_iconst C (v := (4 : Int32)) dX6_look_109 (by decide) ?_
      refine v_aload_n C dX6_look_110 rfl 0 rfl ?_
      refine v_getR C (p' := 43) fl_RX6_60 rfl rfl dX6_look_111 ?_
      refine v_iload_n C dX6_look_114 rfl 2 rfl ?_
      obtain ⟨nv6, v6, ev6, h⟩ := rdI_ex h
      refine x_iald C rfl nv6 ev6 dX6_look_115 ?_
      refine v_imul C dX6_look_116 ?_
      refine v_iload C dX6_look_117 3 rfl ?_
      refine v_iadd C dX6_look_119 ?_
      obtain ⟨nσ7, σ7, eσ7, h⟩ := wrI_ex h
      refine x_iast C rfl nσ7 eσ7 dX6_look_120 ?_
      refine v_aload_n C dX6_look_121 rfl 0 rfl ?_
      refine v_getR C (p' := 43) fl_RX6_60 rfl rfl dX6_look_122 ?_
      refine v_iload_n C dX6_look_125 rfl 1 rfl ?_
      refine v_aload_n C dX6_look_126 rfl 0 rfl ?_
      refine v_getR C (p' := 41) fl_RX6_54 rfl rfl dX6_look_127 ?_
      refine v_iload C dX6_look_130 4 rfl ?_
      obtain ⟨nv8, v8, ev8, h⟩ := rdI_ex h
      refine x_iald C rfl nv8 ev8 dX6_look_132 ?_
      obtain ⟨nσ9, σ9, eσ9, h⟩ := wrI_ex h
      refine x_iast C rfl nσ9 eσ9 dX6_look_133 ?_
      refine v_iinc C (v := (x2 + 1)) (lv' := [(2, .int _), (0, .ref _), (3, .int _), (4, .int _), (5, .int _)]) dX6_look_134 1 rfl rfl (by decide) rfl ?_
      refine V.sub (lv' := [(0, .ref _), (2, .int _), (3, .int _), (4, .int _)]) [1, 0, 2, 3] rfl ?_
      exact b_X6_look_137 C _ hk12 _ _ _  _ _ _ h
def f_X6_look_12 (k4 : Int32 → Int32 → St → Option (Int32 × St)) : Nat → Int32 → Int32 → Int32 → St → Option (Int32 × St)
  | 0, _, _, _, _ => none
  | n + 1, x2, x3, x4, σ =>
    if (3 : Int32) ≤ x4 then
      k4 x2 (x3 + 1) σ
    else
      rdI σ 43 x3 fun v1 =>
      bd (f_X6_downOf v1 x4 σ) fun v2 σ3 =>
      if v2 = (-900009 : Int32) then
        f_X6_look_63 (f_X6_look_12 k4 n) x2 x3 x4 v2 σ3
      else
        rdI σ3 41 v2 fun v4 =>
        if v4 = (-900009 : Int32) then
          rdI σ3 43 x3 fun v5 =>
          some ((((4 : Int32) * v5) + x4), σ3)
        else
          f_X6_look_63 (f_X6_look_12 k4 n) x2 x3 x4 v2 σ3
set_option maxRecDepth 100000 in
set_option maxHeartbeats 4000000 in
theorem b_X6_look_12 {g : Geo} {x : Cx} (C : Ok g x cX6_look RX6 6 (some .int) rm_X6_look) (k4 : Int32 → Int32 → St → Option (Int32 × St)) (hk4 : ∀ (x2 : Int32) (x3 : Int32) (τ : St) (r : Int32) (τ' : St), k4 x2 x3 τ = some (r, τ') → V g x (qm g x (some (.int r)) τ') 6 τ [(0, .ref (g.1 26)), (2, .int x2), (3, .int x3)] [] 4) : ∀ (n : Nat) (x2 : Int32) (x3 : Int32) (x4 : Int32) (σ : St) (r : Int32) (σ' : St), f_X6_look_12 k4 n x2 x3 x4 σ = some (r, σ') → V g x (qm g x (some (.int r)) σ') 6 σ [(0, .ref (g.1 26)), (2, .int x2), (3, .int x3), (4, .int x4)] [] 12 := by
  intro n
  induction n with
  | zero =>
    intro x2 x3 x4 σ r σ' h
    rw [f_X6_look_12] at h
    cases h
  | succ n ih =>
    intro x2 x3 x4 σ r σ' h
    rw [f_X6_look_12] at h
    refine v_iload C dX6_look_12 3 rfl ?_
    refine v_iconst C (v := (3 : Int32)) dX6_look_14 (by decide) ?_
    refine v_icmp_ge C (tgt := 143) dX6_look_15 (by decide) (fun q8 => ?_) (fun q8 => ?_)
    · rw [if_pos q8] at h
      refine v_iinc C (v := (x3 + 1)) (lv' := [(3, .int _), (0, .ref _), (2, .int _), (4, .int _)]) dX6_look_143 2 rfl rfl (by decide) rfl ?_
      refine v_goto C (tgt := 4) dX6_look_146 (by decide) ?_
      refine V.sub (lv' := [(0, .ref _), (2, .int _), (3, .int _)]) [1, 2, 0] rfl ?_
      exact hk4 _ _  _ _ _ h
    · rw [if_neg q8] at h
      refine v_aload_n C dX6_look_18 rfl 0 rfl ?_
      refine v_aload_n C dX6_look_19 rfl 0 rfl ?_
      refine v_getR C (p' := 43) fl_RX6_60 rfl rfl dX6_look_20 ?_
      refine v_iload_n C dX6_look_23 rfl 2 rfl ?_
      obtain ⟨nv1, v1, ev1, h⟩ := rdI_ex h
      refine x_iald C rfl nv1 ev1 dX6_look_24 ?_
      refine v_iload C dX6_look_25 3 rfl ?_
      obtain ⟨v2, σ3, cσ3, h⟩ := bd_some h
      refine callVi C (c_X6_downOf cσ3) km_X6_downOf kv_X6_downOf rfl ml_RX6_218 rfl rfl (by decide) (Nat.le_of_ble_eq_true rfl) dX6_look_27 ?_
      refine v_istore C (lv' := [(5, .int _), (0, .ref _), (2, .int _), (3, .int _), (4, .int _)]) dX6_look_30 (by decide) rfl ?_
      refine v_iload C dX6_look_32 0 rfl ?_
      refine v_ldc C (v := (-900009 : Int32)) con_RX6_112 dX6_look_34 ?_
      refine v_icmp_eq C (tgt := 63) dX6_look_36 (by decide) (fun q7 => ?_) (fun q7 => ?_)
      · rw [if_pos q7] at h
        refine V.sub (lv' := [(0, .ref _), (2, .int _), (3, .int _), (4, .int _), (5, .int _)]) [1, 2, 3, 4, 0] rfl ?_
        exact b_X6_look_63 C _ ih _ _ _ _  _ _ _ h
      · rw [if_neg q7] at h
        refine v_aload_n C dX6_look_39 rfl 1 rfl ?_
        refine v_getR C (p' := 41) fl_RX6_54 rfl rfl dX6_look_40 ?_
        refine v_iload C dX6_look_43 0 rfl ?_
        obtain ⟨nv4, v4, ev4, h⟩ := rdI_ex h
        refine x_iald C rfl nv4 ev4 dX6_look_45 ?_
        refine v_ldc C (v := (-900009 : Int32)) con_RX6_112 dX6_look_46 ?_
        refine v_icmp_ne C (tgt := 63) dX6_look_48 (by decide) (fun q6 => ?_) (fun q6 => ?_)
        · rw [if_neg q6] at h
          refine V.sub (lv' := [(0, .ref _), (2, .int _), (3, .int _), (4, .int _), (5, .int _)]) [1, 2, 3, 4, 0] rfl ?_
          exact b_X6_look_63 C _ ih _ _ _ _  _ _ _ h
        · rw [if_pos q6] at h
          refine v_iconst C (v := (4 : Int32)) dX6_look_51 (by decide) ?_
          refine v_aload_n C dX6_look_52 rfl 1 rfl ?_
          refine v_getR C (p' := 43) fl_RX6_60 rfl rfl dX6_look_53 ?_
          refine v_iload_n C dX6_look_56 rfl 3 rfl ?_
          obtain ⟨nv5, v5, ev5, h⟩ := rdI_ex h
          refine x_iald C rfl nv5 ev5 dX6_look_57 ?_
          refine v_imul C dX6_look_58 ?_
          refine v_iload C dX6_look_59 4 rfl ?_
          refine v_iadd C dX6_look_61 ?_
          cases h
          exact v_iret C dX6_look_62
def f_X6_look_4 : Nat → Int32 → Int32 → St → Option (Int32 × St)
  | 0, _, _, _ => none
  | n + 1, x2, x3, σ =>
    if x2 ≤ x3 then
      some ((-900009 : Int32), σ)
    else
      f_X6_look_12 (f_X6_look_4 n) FU x2 x3 (0 : Int32) σ
set_option maxRecDepth 100000 in
set_option maxHeartbeats 4000000 in
theorem b_X6_look_4 {g : Geo} {x : Cx} (C : Ok g x cX6_look RX6 6 (some .int) rm_X6_look) : ∀ (n : Nat) (x2 : Int32) (x3 : Int32) (σ : St) (r : Int32) (σ' : St), f_X6_look_4 n x2 x3 σ = some (r, σ') → V g x (qm g x (some (.int r)) σ') 6 σ [(0, .ref (g.1 26)), (2, .int x2), (3, .int x3)] [] 4 := by
  intro n
  induction n with
  | zero =>
    intro x2 x3 σ r σ' h
    rw [f_X6_look_4] at h
    cases h
  | succ n ih =>
    intro x2 x3 σ r σ' h
    rw [f_X6_look_4] at h
    refine v_iload_n C dX6_look_4 rfl 2 rfl ?_
    refine v_iload_n C dX6_look_5 rfl 1 rfl ?_
    refine v_icmp_ge C (tgt := 149) dX6_look_6 (by decide) (fun q1 => ?_) (fun q1 => ?_)
    · rw [if_pos q1] at h
      refine v_ldc C (v := (-900009 : Int32)) con_RX6_112 dX6_look_149 ?_
      cases h
      exact v_iret C dX6_look_151
    · rw [if_neg q1] at h
      refine v_iconst C (v := (0 : Int32)) dX6_look_9 (by decide) ?_
      refine v_istore C (lv' := [(4, .int _), (0, .ref _), (2, .int _), (3, .int _)]) dX6_look_10 (by decide) rfl ?_
      refine V.sub (lv' := [(0, .ref _), (2, .int _), (3, .int _), (4, .int _)]) [1, 2, 3, 0] rfl ?_
      exact b_X6_look_12 C _ ih FU _ _ _  _ _ _ h
def f_X6_look (a1 : Int32) (σ : St) : Option (Int32 × St) :=
  f_X6_look_4 FU a1 (0 : Int32) σ
set_option maxRecDepth 100000 in
set_option maxHeartbeats 4000000 in
theorem c_X6_look {g : Geo} {a1 : Int32} {σ : St} {r : Int32} {σ' : St} (h : f_X6_look a1 σ = some (r, σ')) : Ct g yX6_look cX6_look 6 (some .int) rm_X6_look [.ref (g.1 26), .int a1] σ (some (.int r)) σ' := by
  refine ct_of (own := RX6) (by decide) rfl (Nat.le_of_ble_eq_true rfl) (fun x C => ?_) ⟨rfl, rfl⟩
  show V g x _ 6 σ [(0, .ref (g.1 26)), (1, .int a1)] [] 0
  unfold f_X6_look at h
  refine v_iload_n C dX6_look_0 rfl 1 rfl ?_
  refine v_istore_n C (lv' := [(2, .int _), (0, .ref _), (1, .int _)]) dX6_look_1 rfl (by decide) rfl ?_
  refine v_iconst C (v := (0 : Int32)) dX6_look_2 (by decide) ?_
  refine v_istore_n C (lv' := [(3, .int _), (2, .int _), (0, .ref _), (1, .int _)]) dX6_look_3 rfl (by decide) rfl ?_
  refine V.sub (lv' := [(0, .ref _), (2, .int _), (3, .int _)]) [2, 1, 0] rfl ?_
  exact b_X6_look_4 C FU _ _  _ _ _ h
theorem dX6_join_0 : decode cX6_join 0 = .ok (.iload_n 1, 1) := by decide +kernel
theorem dX6_join_1 : decode cX6_join 1 = .ok (.istore_n 2, 1) := by decide +kernel
theorem dX6_join_2 : decode cX6_join 2 = .ok (.iload_n 2, 1) := by decide +kernel
theorem dX6_join_3 : decode cX6_join 3 = .ok (.ldc 112, 2) := by decide +kernel
theorem dX6_join_5 : decode cX6_join 5 = .ok (.if_icmp .eq 43, 3) := by decide +kernel
theorem dX6_join_8 : decode cX6_join 8 = .ok (.iload_n 2, 1) := by decide +kernel
theorem dX6_join_9 : decode cX6_join 9 = .ok (.iconst 4, 1) := by decide +kernel
theorem dX6_join_10 : decode cX6_join 10 = .ok (.idiv, 1) := by decide +kernel
theorem dX6_join_11 : decode cX6_join 11 = .ok (.istore_n 3, 1) := by decide +kernel
theorem dX6_join_12 : decode cX6_join 12 = .ok (.aload_n 0, 1) := by decide +kernel
theorem dX6_join_13 : decode cX6_join 13 = .ok (.iload_n 3, 1) := by decide +kernel
theorem dX6_join_14 : decode cX6_join 14 = .ok (.iload_n 2, 1) := by decide +kernel
theorem dX6_join_15 : decode cX6_join 15 = .ok (.iconst 4, 1) := by decide +kernel
theorem dX6_join_16 : decode cX6_join 16 = .ok (.irem, 1) := by decide +kernel
theorem dX6_join_17 : decode cX6_join 17 = .ok (.invokevirtual 218, 3) := by decide +kernel
theorem dX6_join_20 : decode cX6_join 20 = .ok (.istore 4, 2) := by decide +kernel
theorem dX6_join_22 : decode cX6_join 22 = .ok (.aload_n 0, 1) := by decide +kernel
theorem dX6_join_23 : decode cX6_join 23 = .ok (.getfield 51, 3) := by decide +kernel
theorem dX6_join_26 : decode cX6_join 26 = .ok (.iload_n 3, 1) := by decide +kernel
theorem dX6_join_27 : decode cX6_join 27 = .ok (.iload 4, 2) := by decide +kernel
theorem dX6_join_29 : decode cX6_join 29 = .ok (.iastore, 1) := by decide +kernel
theorem dX6_join_30 : decode cX6_join 30 = .ok (.aload_n 0, 1) := by decide +kernel
theorem dX6_join_31 : decode cX6_join 31 = .ok (.getfield 54, 3) := by decide +kernel
theorem dX6_join_34 : decode cX6_join 34 = .ok (.iload 4, 2) := by decide +kernel
theorem dX6_join_36 : decode cX6_join 36 = .ok (.iload_n 3, 1) := by decide +kernel
theorem dX6_join_37 : decode cX6_join 37 = .ok (.iastore, 1) := by decide +kernel
theorem dX6_join_38 : decode cX6_join 38 = .ok (.aload_n 0, 1) := by decide +kernel
theorem dX6_join_39 : decode cX6_join 39 = .ok (.getfield 63, 3) := by decide +kernel
theorem dX6_join_42 : decode cX6_join 42 = .ok (.iload_n 3, 1) := by decide +kernel
theorem dX6_join_43 : decode cX6_join 43 = .ok (.iaload, 1) := by decide +kernel
theorem dX6_join_44 : decode cX6_join 44 = .ok (.istore_n 2, 1) := by decide +kernel
theorem dX6_join_45 : decode cX6_join 45 = .ok (.goto (-43), 3) := by decide +kernel
theorem dX6_join_48 : decode cX6_join 48 = .ok (.return_, 1) := by decide +kernel
def f_X6_join_2 : Nat → Int32 → St → Option (Unit × St)
  | 0, _, _ => none
  | n + 1, x2, σ =>
    if x2 = (-900009 : Int32) then
      some ((), σ)
    else
      dvI x2 (4 : Int32) fun v1 =>
      rmI x2 (4 : Int32) fun v2 =>
      bd (f_X6_downOf v1 v2 σ) fun v3 σ4 =>
      wrI σ4 40 v1 v3 fun σ5 =>
      wrI σ5 41 v3 v1 fun σ6 =>
      rdI σ6 44 v1 fun v7 =>
      f_X6_join_2 n v7 σ6
set_option maxRecDepth 100000 in
set_option maxHeartbeats 4000000 in
theorem b_X6_join_2 {g : Geo} {x : Cx} (C : Ok g x cX6_join RX6 5 none rm_X6_join) : ∀ (n : Nat) (x2 : Int32) (σ : St) (r : Unit) (σ' : St), f_X6_join_2 n x2 σ = some (r, σ') → V g x (qm g x none σ') 5 σ [(0, .ref (g.1 26)), (2, .int x2)] [] 2 := by
  intro n
  induction n with
  | zero =>
    intro x2 σ r σ' h
    rw [f_X6_join_2] at h
    cases h
  | succ n ih =>
    intro x2 σ r σ' h
    rw [f_X6_join_2] at h
    refine v_iload_n C dX6_join_2 rfl 1 rfl ?_
    refine v_ldc C (v := (-900009 : Int32)) con_RX6_112 dX6_join_3 ?_
    refine v_icmp_eq C (tgt := 48) dX6_join_5 (by decide) (fun q8 => ?_) (fun q8 => ?_)
    · rw [if_pos q8] at h
      cases h
      exact v_vret C dX6_join_48
    · rw [if_neg q8] at h
      refine v_iload_n C dX6_join_8 rfl 1 rfl ?_
      refine v_iconst C (v := (4 : Int32)) dX6_join_9 (by decide) ?_
      obtain ⟨nv1, v1, ev1, h⟩ := dvI_ex h
      refine x_idiv C nv1 ev1 dX6_join_10 ?_
      refine v_istore_n C (lv' := [(3, .int _), (0, .ref _), (2, .int _)]) dX6_join_11 rfl (by decide) rfl ?_
      refine v_aload_n C dX6_join_12 rfl 1 rfl ?_
      refine v_iload_n C dX6_join_13 rfl 0 rfl ?_
      refine v_iload_n C dX6_join_14 rfl 2 rfl ?_
      refine v_iconst C (v := (4 : Int32)) dX6_join_15 (by decide) ?_
      obtain ⟨nv2, v2, ev2, h⟩ := rmI_ex h
      refine x_irem C nv2 ev2 dX6_join_16 ?_
      obtain ⟨v3, σ4, cσ4, h⟩ := bd_some h
      refine callVi C (c_X6_downOf cσ4) km_X6_downOf kv_X6_downOf rfl ml_RX6_218 rfl rfl (by decide) (Nat.le_of_ble_eq_true rfl) dX6_join_17 ?_
      refine v_istore C (lv' := [(4, .int _), (3, .int _), (0, .ref _), (2, .int _)]) dX6_join_20 (by decide) rfl ?_
      refine v_aload_n C dX6_join_22 rfl 2 rfl ?_
      refine v_getR C (p' := 40) fl_RX6_51 rfl rfl dX6_join_23 ?_
      refine v_iload_n C dX6_join_26 rfl 1 rfl ?_
      refine v_iload C dX6_join_27 0 rfl ?_
      obtain ⟨nσ5, σ5, eσ5, h⟩ := wrI_ex h
      refine x_iast C rfl nσ5 eσ5 dX6_join_29 ?_
      refine v_aload_n C dX6_join_30 rfl 2 rfl ?_
      refine v_getR C (p' := 41) fl_RX6_54 rfl rfl dX6_join_31 ?_
      refine v_iload C dX6_join_34 0 rfl ?_
      refine v_iload_n C dX6_join_36 rfl 1 rfl ?_
      obtain ⟨nσ6, σ6, eσ6, h⟩ := wrI_ex h
      refine x_iast C rfl nσ6 eσ6 dX6_join_37 ?_
      refine v_aload_n C dX6_join_38 rfl 2 rfl ?_
      refine v_getR C (p' := 44) fl_RX6_63 rfl rfl dX6_join_39 ?_
      refine v_iload_n C dX6_join_42 rfl 1 rfl ?_
      obtain ⟨nv7, v7, ev7, h⟩ := rdI_ex h
      refine x_iald C rfl nv7 ev7 dX6_join_43 ?_
      refine v_istore_n C (lv' := [(2, .int _), (4, .int _), (3, .int _), (0, .ref _)]) dX6_join_44 rfl (by decide) rfl ?_
      refine v_goto C (tgt := 2) dX6_join_45 (by decide) ?_
      refine V.sub (lv' := [(0, .ref _), (2, .int _)]) [3, 0] rfl ?_
      exact ih _  _ _ _ h
def f_X6_join (a1 : Int32) (σ : St) : Option (Unit × St) :=
  f_X6_join_2 FU a1 σ
set_option maxRecDepth 100000 in
set_option maxHeartbeats 4000000 in
theorem c_X6_join {g : Geo} {a1 : Int32} {σ : St} {r : Unit} {σ' : St} (h : f_X6_join a1 σ = some (r, σ')) : Ct g yX6_join cX6_join 5 none rm_X6_join [.ref (g.1 26), .int a1] σ none σ' := by
  refine ct_of (own := RX6) (by decide) rfl (Nat.le_of_ble_eq_true rfl) (fun x C => ?_) ⟨rfl, rfl⟩
  show V g x _ 5 σ [(0, .ref (g.1 26)), (1, .int a1)] [] 0
  unfold f_X6_join at h
  refine v_iload_n C dX6_join_0 rfl 1 rfl ?_
  refine v_istore_n C (lv' := [(2, .int _), (0, .ref _), (1, .int _)]) dX6_join_1 rfl (by decide) rfl ?_
  refine V.sub (lv' := [(0, .ref _), (2, .int _)]) [1, 0] rfl ?_
  exact b_X6_join_2 C FU _  _ _ _ h
theorem dX6_layMost_0 : decode cX6_layMost 0 = .ok (.iconst 0, 1) := by decide +kernel
theorem dX6_layMost_1 : decode cX6_layMost 1 = .ok (.istore_n 1, 1) := by decide +kernel
theorem dX6_layMost_2 : decode cX6_layMost 2 = .ok (.iload_n 1, 1) := by decide +kernel
theorem dX6_layMost_3 : decode cX6_layMost 3 = .ok (.bipush 64, 2) := by decide +kernel
theorem dX6_layMost_5 : decode cX6_layMost 5 = .ok (.if_icmp .ge 25, 3) := by decide +kernel
theorem dX6_layMost_8 : decode cX6_layMost 8 = .ok (.aload_n 0, 1) := by decide +kernel
theorem dX6_layMost_9 : decode cX6_layMost 9 = .ok (.getfield 51, 3) := by decide +kernel
theorem dX6_layMost_12 : decode cX6_layMost 12 = .ok (.iload_n 1, 1) := by decide +kernel
theorem dX6_layMost_13 : decode cX6_layMost 13 = .ok (.ldc 112, 2) := by decide +kernel
theorem dX6_layMost_15 : decode cX6_layMost 15 = .ok (.iastore, 1) := by decide +kernel
theorem dX6_layMost_16 : decode cX6_layMost 16 = .ok (.aload_n 0, 1) := by decide +kernel
theorem dX6_layMost_17 : decode cX6_layMost 17 = .ok (.getfield 54, 3) := by decide +kernel
theorem dX6_layMost_20 : decode cX6_layMost 20 = .ok (.iload_n 1, 1) := by decide +kernel
theorem dX6_layMost_21 : decode cX6_layMost 21 = .ok (.ldc 112, 2) := by decide +kernel
theorem dX6_layMost_23 : decode cX6_layMost 23 = .ok (.iastore, 1) := by decide +kernel
theorem dX6_layMost_24 : decode cX6_layMost 24 = .ok (.iinc 1 1, 3) := by decide +kernel
theorem dX6_layMost_27 : decode cX6_layMost 27 = .ok (.goto (-25), 3) := by decide +kernel
theorem dX6_layMost_30 : decode cX6_layMost 30 = .ok (.iconst 0, 1) := by decide +kernel
theorem dX6_layMost_31 : decode cX6_layMost 31 = .ok (.istore_n 1, 1) := by decide +kernel
theorem dX6_layMost_32 : decode cX6_layMost 32 = .ok (.iload_n 1, 1) := by decide +kernel
theorem dX6_layMost_33 : decode cX6_layMost 33 = .ok (.aload_n 0, 1) := by decide +kernel
theorem dX6_layMost_34 : decode cX6_layMost 34 = .ok (.invokevirtual 80, 3) := by decide +kernel
theorem dX6_layMost_37 : decode cX6_layMost 37 = .ok (.if_icmp .ge 71, 3) := by decide +kernel
theorem dX6_layMost_40 : decode cX6_layMost 40 = .ok (.aload_n 0, 1) := by decide +kernel
theorem dX6_layMost_41 : decode cX6_layMost 41 = .ok (.iload_n 1, 1) := by decide +kernel
theorem dX6_layMost_42 : decode cX6_layMost 42 = .ok (.invokevirtual 108, 3) := by decide +kernel
theorem dX6_layMost_45 : decode cX6_layMost 45 = .ok (.ifCond .eq 57, 3) := by decide +kernel
theorem dX6_layMost_48 : decode cX6_layMost 48 = .ok (.iconst 0, 1) := by decide +kernel
theorem dX6_layMost_49 : decode cX6_layMost 49 = .ok (.istore_n 2, 1) := by decide +kernel
theorem dX6_layMost_50 : decode cX6_layMost 50 = .ok (.iload_n 2, 1) := by decide +kernel
theorem dX6_layMost_51 : decode cX6_layMost 51 = .ok (.bipush 64, 2) := by decide +kernel
theorem dX6_layMost_53 : decode cX6_layMost 53 = .ok (.if_icmp .ge 25, 3) := by decide +kernel
theorem dX6_layMost_56 : decode cX6_layMost 56 = .ok (.aload_n 0, 1) := by decide +kernel
theorem dX6_layMost_57 : decode cX6_layMost 57 = .ok (.getfield 57, 3) := by decide +kernel
theorem dX6_layMost_60 : decode cX6_layMost 60 = .ok (.iload_n 2, 1) := by decide +kernel
theorem dX6_layMost_61 : decode cX6_layMost 61 = .ok (.iload_n 2, 1) := by decide +kernel
theorem dX6_layMost_62 : decode cX6_layMost 62 = .ok (.iload_n 1, 1) := by decide +kernel
theorem dX6_layMost_63 : decode cX6_layMost 63 = .ok (.if_icmp .ne 7, 3) := by decide +kernel
theorem dX6_layMost_66 : decode cX6_layMost 66 = .ok (.iconst 1, 1) := by decide +kernel
theorem dX6_layMost_67 : decode cX6_layMost 67 = .ok (.goto 4, 3) := by decide +kernel
theorem dX6_layMost_70 : decode cX6_layMost 70 = .ok (.iconst 0, 1) := by decide +kernel
theorem dX6_layMost_71 : decode cX6_layMost 71 = .ok (.bastore, 1) := by decide +kernel
theorem dX6_layMost_72 : decode cX6_layMost 72 = .ok (.iinc 2 1, 3) := by decide +kernel
theorem dX6_layMost_75 : decode cX6_layMost 75 = .ok (.goto (-25), 3) := by decide +kernel
theorem dX6_layMost_78 : decode cX6_layMost 78 = .ok (.aload_n 0, 1) := by decide +kernel
theorem dX6_layMost_79 : decode cX6_layMost 79 = .ok (.getfield 60, 3) := by decide +kernel
theorem dX6_layMost_82 : decode cX6_layMost 82 = .ok (.iconst 0, 1) := by decide +kernel
theorem dX6_layMost_83 : decode cX6_layMost 83 = .ok (.iload_n 1, 1) := by decide +kernel
theorem dX6_layMost_84 : decode cX6_layMost 84 = .ok (.iastore, 1) := by decide +kernel
theorem dX6_layMost_85 : decode cX6_layMost 85 = .ok (.aload_n 0, 1) := by decide +kernel
theorem dX6_layMost_86 : decode cX6_layMost 86 = .ok (.getfield 63, 3) := by decide +kernel
theorem dX6_layMost_89 : decode cX6_layMost 89 = .ok (.iload_n 1, 1) := by decide +kernel
theorem dX6_layMost_90 : decode cX6_layMost 90 = .ok (.ldc 112, 2) := by decide +kernel
theorem dX6_layMost_92 : decode cX6_layMost 92 = .ok (.iastore, 1) := by decide +kernel
theorem dX6_layMost_93 : decode cX6_layMost 93 = .ok (.aload_n 0, 1) := by decide +kernel
theorem dX6_layMost_94 : decode cX6_layMost 94 = .ok (.aload_n 0, 1) := by decide +kernel
theorem dX6_layMost_95 : decode cX6_layMost 95 = .ok (.iconst 1, 1) := by decide +kernel
theorem dX6_layMost_96 : decode cX6_layMost 96 = .ok (.invokevirtual 222, 3) := by decide +kernel
theorem dX6_layMost_99 : decode cX6_layMost 99 = .ok (.invokevirtual 225, 3) := by decide +kernel
theorem dX6_layMost_102 : decode cX6_layMost 102 = .ok (.iinc 1 1, 3) := by decide +kernel
theorem dX6_layMost_105 : decode cX6_layMost 105 = .ok (.goto (-73), 3) := by decide +kernel
theorem dX6_layMost_108 : decode cX6_layMost 108 = .ok (.return_, 1) := by decide +kernel
def f_X6_layMost_102 (k32 : Int32 → St → Option (Unit × St)) (x1 : Int32) (σ : St) : Option (Unit × St) :=
  k32 (x1 + 1) σ
set_option maxRecDepth 100000 in
set_option maxHeartbeats 4000000 in
theorem b_X6_layMost_102 {g : Geo} {x : Cx} (C : Ok g x cX6_layMost RX6 3 none rm_X6_layMost) (k32 : Int32 → St → Option (Unit × St)) (hk32 : ∀ (x1 : Int32) (τ : St) (r : Unit) (τ' : St), k32 x1 τ = some (r, τ') → V g x (qm g x none τ') 3 τ [(0, .ref (g.1 26)), (1, .int x1)] [] 32) : ∀ (x1 : Int32) (σ : St) (r : Unit) (σ' : St), f_X6_layMost_102 k32 x1 σ = some (r, σ') → V g x (qm g x none σ') 3 σ [(0, .ref (g.1 26)), (1, .int x1)] [] 102 := by
  intro x1 σ r σ' h
  unfold f_X6_layMost_102 at h
  refine v_iinc C (v := (x1 + 1)) (lv' := [(1, .int _), (0, .ref _)]) dX6_layMost_102 1 rfl rfl (by decide) rfl ?_
  refine v_goto C (tgt := 32) dX6_layMost_105 (by decide) ?_
  refine V.sub (lv' := [(0, .ref _), (1, .int _)]) [1, 0] rfl ?_
  exact hk32 _  _ _ _ h
def f_X6_layMost_71 (k50 : Int32 → Int32 → St → Option (Unit × St)) (x1 : Int32) (x2 : Int32) (s1 : Int32) (s2 : Int32) (σ : St) : Option (Unit × St) :=
  wrZ σ 42 s1 s2 fun σ1 =>
  k50 x1 (x2 + 1) σ1
set_option maxRecDepth 100000 in
set_option maxHeartbeats 4000000 in
theorem b_X6_layMost_71 {g : Geo} {x : Cx} (C : Ok g x cX6_layMost RX6 3 none rm_X6_layMost) (k50 : Int32 → Int32 → St → Option (Unit × St)) (hk50 : ∀ (x1 : Int32) (x2 : Int32) (τ : St) (r : Unit) (τ' : St), k50 x1 x2 τ = some (r, τ') → V g x (qm g x none τ') 3 τ [(0, .ref (g.1 26)), (1, .int x1), (2, .int x2)] [] 50) : ∀ (x1 : Int32) (x2 : Int32) (s1 : Int32) (s2 : Int32) (σ : St) (r : Unit) (σ' : St), f_X6_layMost_71 k50 x1 x2 s1 s2 σ = some (r, σ') → V g x (qm g x none σ') 3 σ [(0, .ref (g.1 26)), (1, .int x1), (2, .int x2)] [.int s2, .int s1, .ref (g.1 42)] 71 := by
  intro x1 x2 s1 s2 σ r σ' h
  unfold f_X6_layMost_71 at h
  obtain ⟨nσ1, σ1, eσ1, h⟩ := wrZ_ex h
  refine x_zast C rfl nσ1 eσ1 dX6_layMost_71 ?_
  refine v_iinc C (v := (x2 + 1)) (lv' := [(2, .int _), (0, .ref _), (1, .int _)]) dX6_layMost_72 2 rfl rfl (by decide) rfl ?_
  refine v_goto C (tgt := 50) dX6_layMost_75 (by decide) ?_
  refine V.sub (lv' := [(0, .ref _), (1, .int _), (2, .int _)]) [1, 2, 0] rfl ?_
  exact hk50 _ _  _ _ _ h
def f_X6_layMost_50 (k32 : Int32 → St → Option (Unit × St)) : Nat → Int32 → Int32 → St → Option (Unit × St)
  | 0, _, _, _ => none
  | n + 1, x1, x2, σ =>
    if (64 : Int32) ≤ x2 then
      wrI σ 43 (0 : Int32) x1 fun σ1 =>
      wrI σ1 44 x1 (-900009 : Int32) fun σ2 =>
      bd (f_X6_look (1 : Int32) σ2) fun v3 σ4 =>
      bd (f_X6_join v3 σ4) fun _ σ6 =>
      f_X6_layMost_102 k32 x1 σ6
    else
      if x2 = x1 then
        f_X6_layMost_71 (f_X6_layMost_50 k32 n) x1 x2 x2 (1 : Int32) σ
      else
        f_X6_layMost_71 (f_X6_layMost_50 k32 n) x1 x2 x2 (0 : Int32) σ
set_option maxRecDepth 100000 in
set_option maxHeartbeats 4000000 in
theorem b_X6_layMost_50 {g : Geo} {x : Cx} (C : Ok g x cX6_layMost RX6 3 none rm_X6_layMost) (k32 : Int32 → St → Option (Unit × St)) (hk32 : ∀ (x1 : Int32) (τ : St) (r : Unit) (τ' : St), k32 x1 τ = some (r, τ') → V g x (qm g x none τ') 3 τ [(0, .ref (g.1 26)), (1, .int x1)] [] 32) : ∀ (n : Nat) (x1 : Int32) (x2 : Int32) (σ : St) (r : Unit) (σ' : St), f_X6_layMost_50 k32 n x1 x2 σ = some (r, σ') → V g x (qm g x none σ') 3 σ [(0, .ref (g.1 26)), (1, .int x1), (2, .int x2)] [] 50 := by
  intro n
  induction n with
  | zero =>
    intro x1 x2 σ r σ' h
    rw [f_X6_layMost_50] at h
    cases h
  | succ n ih =>
    intro x1 x2 σ r σ' h
    rw [f_X6_layMost_50] at h
    refine v_iload_n C dX6_layMost_50 rfl 2 rfl ?_
    refine v_bipush C (v := (64 : Int32)) dX6_layMost_51 (by decide) ?_
    refine v_icmp_ge C (tgt := 78) dX6_layMost_53 (by decide) (fun q8 => ?_) (fun q8 => ?_)
    · rw [if_pos q8] at h
      refine v_aload_n C dX6_layMost_78 rfl 0 rfl ?_
      refine v_getR C (p' := 43) fl_RX6_60 rfl rfl dX6_layMost_79 ?_
      refine v_iconst C (v := (0 : Int32)) dX6_layMost_82 (by decide) ?_
      refine v_iload_n C dX6_layMost_83 rfl 1 rfl ?_
      obtain ⟨nσ1, σ1, eσ1, h⟩ := wrI_ex h
      refine x_iast C rfl nσ1 eσ1 dX6_layMost_84 ?_
      refine v_aload_n C dX6_layMost_85 rfl 0 rfl ?_
      refine v_getR C (p' := 44) fl_RX6_63 rfl rfl dX6_layMost_86 ?_
      refine v_iload_n C dX6_layMost_89 rfl 1 rfl ?_
      refine v_ldc C (v := (-900009 : Int32)) con_RX6_112 dX6_layMost_90 ?_
      obtain ⟨nσ2, σ2, eσ2, h⟩ := wrI_ex h
      refine x_iast C rfl nσ2 eσ2 dX6_layMost_92 ?_
      refine v_aload_n C dX6_layMost_93 rfl 0 rfl ?_
      refine v_aload_n C dX6_layMost_94 rfl 0 rfl ?_
      refine v_iconst C (v := (1 : Int32)) dX6_layMost_95 (by decide) ?_
      obtain ⟨v3, σ4, cσ4, h⟩ := bd_some h
      refine callVi C (c_X6_look cσ4) km_X6_look kv_X6_look rfl ml_RX6_222 rfl rfl (by decide) (Nat.le_of_ble_eq_true rfl) dX6_layMost_96 ?_
      obtain ⟨v5, σ6, cσ6, h⟩ := bd_some h
      refine callVv C (c_X6_join cσ6) km_X6_join kv_X6_join rfl ml_RX6_225 rfl rfl (by decide) (Nat.le_of_ble_eq_true rfl) dX6_layMost_99 ?_
      refine V.sub (lv' := [(0, .ref _), (1, .int _)]) [0, 1] rfl ?_
      exact b_X6_layMost_102 C _ hk32 _  _ _ _ h
    · rw [if_neg q8] at h
      refine v_aload_n C dX6_layMost_56 rfl 0 rfl ?_
      refine v_getR C (p' := 42) fl_RX6_57 rfl rfl dX6_layMost_57 ?_
      refine v_iload_n C dX6_layMost_60 rfl 2 rfl ?_
      refine v_iload_n C dX6_layMost_61 rfl 2 rfl ?_
      refine v_iload_n C dX6_layMost_62 rfl 1 rfl ?_
      refine v_icmp_ne C (tgt := 70) dX6_layMost_63 (by decide) (fun q7 => ?_) (fun q7 => ?_)
      · rw [if_neg q7] at h
        refine v_iconst C (v := (0 : Int32)) dX6_layMost_70 (by decide) ?_
        refine V.sub (lv' := [(0, .ref _), (1, .int _), (2, .int _)]) [0, 1, 2] rfl ?_
        exact b_X6_layMost_71 C _ ih _ _ _ _  _ _ _ h
      · rw [if_pos q7] at h
        refine v_iconst C (v := (1 : Int32)) dX6_layMost_66 (by decide) ?_
        refine v_goto C (tgt := 71) dX6_layMost_67 (by decide) ?_
        refine V.sub (lv' := [(0, .ref _), (1, .int _), (2, .int _)]) [0, 1, 2] rfl ?_
        exact b_X6_layMost_71 C _ ih _ _ _ _  _ _ _ h
def f_X6_layMost_32 : Nat → Int32 → St → Option (Unit × St)
  | 0, _, _ => none
  | n + 1, x1, σ =>
    bd (f_X6_cells σ) fun v1 σ2 =>
    if v1 ≤ x1 then
      some ((), σ2)
    else
      bd (f_X6_isUp x1 σ2) fun v3 σ4 =>
      if v3 = 0 then
        f_X6_layMost_102 (f_X6_layMost_32 n) x1 σ4
      else
        f_X6_layMost_50 (f_X6_layMost_32 n) FU x1 (0 : Int32) σ4
set_option maxRecDepth 100000 in
set_option maxHeartbeats 4000000 in
theorem b_X6_layMost_32 {g : Geo} {x : Cx} (C : Ok g x cX6_layMost RX6 3 none rm_X6_layMost) : ∀ (n : Nat) (x1 : Int32) (σ : St) (r : Unit) (σ' : St), f_X6_layMost_32 n x1 σ = some (r, σ') → V g x (qm g x none σ') 3 σ [(0, .ref (g.1 26)), (1, .int x1)] [] 32 := by
  intro n
  induction n with
  | zero =>
    intro x1 σ r σ' h
    rw [f_X6_layMost_32] at h
    cases h
  | succ n ih =>
    intro x1 σ r σ' h
    rw [f_X6_layMost_32] at h
    refine v_iload_n C dX6_layMost_32 rfl 1 rfl ?_
    refine v_aload_n C dX6_layMost_33 rfl 0 rfl ?_
    obtain ⟨v1, σ2, cσ2, h⟩ := bd_some h
    refine callVi C (c_X6_cells cσ2) km_X6_cells kv_X6_cells rfl ml_RX6_80 rfl rfl (by decide) (Nat.le_of_ble_eq_true rfl) dX6_layMost_34 ?_
    refine v_icmp_ge C (tgt := 108) dX6_layMost_37 (by decide) (fun q6 => ?_) (fun q6 => ?_)
    · rw [if_pos q6] at h
      cases h
      exact v_vret C dX6_layMost_108
    · rw [if_neg q6] at h
      refine v_aload_n C dX6_layMost_40 rfl 0 rfl ?_
      refine v_iload_n C dX6_layMost_41 rfl 1 rfl ?_
      obtain ⟨v3, σ4, cσ4, h⟩ := bd_some h
      refine callVi C (c_X6_isUp cσ4) km_X6_isUp kv_X6_isUp rfl ml_RX6_108 rfl rfl (by decide) (Nat.le_of_ble_eq_true rfl) dX6_layMost_42 ?_
      refine v_if_eq C (tgt := 102) dX6_layMost_45 (by decide) (fun q5 => ?_) (fun q5 => ?_)
      · rw [if_pos q5] at h
        refine V.sub (lv' := [(0, .ref _), (1, .int _)]) [0, 1] rfl ?_
        exact b_X6_layMost_102 C _ ih _  _ _ _ h
      · rw [if_neg q5] at h
        refine v_iconst C (v := (0 : Int32)) dX6_layMost_48 (by decide) ?_
        refine v_istore_n C (lv' := [(2, .int _), (0, .ref _), (1, .int _)]) dX6_layMost_49 rfl (by decide) rfl ?_
        refine V.sub (lv' := [(0, .ref _), (1, .int _), (2, .int _)]) [1, 2, 0] rfl ?_
        exact b_X6_layMost_50 C _ ih FU _ _  _ _ _ h
def f_X6_layMost_2 : Nat → Int32 → St → Option (Unit × St)
  | 0, _, _ => none
  | n + 1, x1, σ =>
    if (64 : Int32) ≤ x1 then
      f_X6_layMost_32 FU (0 : Int32) σ
    else
      wrI σ 40 x1 (-900009 : Int32) fun σ1 =>
      wrI σ1 41 x1 (-900009 : Int32) fun σ2 =>
      f_X6_layMost_2 n (x1 + 1) σ2
set_option maxRecDepth 100000 in
set_option maxHeartbeats 4000000 in
theorem b_X6_layMost_2 {g : Geo} {x : Cx} (C : Ok g x cX6_layMost RX6 3 none rm_X6_layMost) : ∀ (n : Nat) (x1 : Int32) (σ : St) (r : Unit) (σ' : St), f_X6_layMost_2 n x1 σ = some (r, σ') → V g x (qm g x none σ') 3 σ [(0, .ref (g.1 26)), (1, .int x1)] [] 2 := by
  intro n
  induction n with
  | zero =>
    intro x1 σ r σ' h
    rw [f_X6_layMost_2] at h
    cases h
  | succ n ih =>
    intro x1 σ r σ' h
    rw [f_X6_layMost_2] at h
    refine v_iload_n C dX6_layMost_2 rfl 1 rfl ?_
    refine v_bipush C (v := (64 : Int32)) dX6_layMost_3 (by decide) ?_
    refine v_icmp_ge C (tgt := 30) dX6_layMost_5 (by decide) (fun q3 => ?_) (fun q3 => ?_)
    · rw [if_pos q3] at h
      refine v_iconst C (v := (0 : Int32)) dX6_layMost_30 (by decide) ?_
      refine v_istore_n C (lv' := [(1, .int _), (0, .ref _)]) dX6_layMost_31 rfl (by decide) rfl ?_
      refine V.sub (lv' := [(0, .ref _), (1, .int _)]) [1, 0] rfl ?_
      exact b_X6_layMost_32 C FU _  _ _ _ h
    · rw [if_neg q3] at h
      refine v_aload_n C dX6_layMost_8 rfl 0 rfl ?_
      refine v_getR C (p' := 40) fl_RX6_51 rfl rfl dX6_layMost_9 ?_
      refine v_iload_n C dX6_layMost_12 rfl 1 rfl ?_
      refine v_ldc C (v := (-900009 : Int32)) con_RX6_112 dX6_layMost_13 ?_
      obtain ⟨nσ1, σ1, eσ1, h⟩ := wrI_ex h
      refine x_iast C rfl nσ1 eσ1 dX6_layMost_15 ?_
      refine v_aload_n C dX6_layMost_16 rfl 0 rfl ?_
      refine v_getR C (p' := 41) fl_RX6_54 rfl rfl dX6_layMost_17 ?_
      refine v_iload_n C dX6_layMost_20 rfl 1 rfl ?_
      refine v_ldc C (v := (-900009 : Int32)) con_RX6_112 dX6_layMost_21 ?_
      obtain ⟨nσ2, σ2, eσ2, h⟩ := wrI_ex h
      refine x_iast C rfl nσ2 eσ2 dX6_layMost_23 ?_
      refine v_iinc C (v := (x1 + 1)) (lv' := [(1, .int _), (0, .ref _)]) dX6_layMost_24 1 rfl rfl (by decide) rfl ?_
      refine v_goto C (tgt := 2) dX6_layMost_27 (by decide) ?_
      refine V.sub (lv' := [(0, .ref _), (1, .int _)]) [1, 0] rfl ?_
      exact ih _  _ _ _ h
def f_X6_layMost (σ : St) : Option (Unit × St) :=
  f_X6_layMost_2 FU (0 : Int32) σ
set_option maxRecDepth 100000 in
set_option maxHeartbeats 4000000 in
theorem c_X6_layMost {g : Geo} {σ : St} {r : Unit} {σ' : St} (h : f_X6_layMost σ = some (r, σ')) : Ct g yX6_layMost cX6_layMost 3 none rm_X6_layMost [.ref (g.1 26)] σ none σ' := by
  refine ct_of (own := RX6) (by decide) rfl (Nat.le_of_ble_eq_true rfl) (fun x C => ?_) ⟨rfl, rfl⟩
  show V g x _ 3 σ [(0, .ref (g.1 26))] [] 0
  unfold f_X6_layMost at h
  refine v_iconst C (v := (0 : Int32)) dX6_layMost_0 (by decide) ?_
  refine v_istore_n C (lv' := [(1, .int _), (0, .ref _)]) dX6_layMost_1 rfl (by decide) rfl ?_
  refine V.sub (lv' := [(0, .ref _), (1, .int _)]) [1, 0] rfl ?_
  exact b_X6_layMost_2 C FU _  _ _ _ h
theorem dX6_mostNow_0 : decode cX6_mostNow 0 = .ok (.iconst 0, 1) := by decide +kernel
theorem dX6_mostNow_1 : decode cX6_mostNow 1 = .ok (.istore_n 1, 1) := by decide +kernel
theorem dX6_mostNow_2 : decode cX6_mostNow 2 = .ok (.iconst 0, 1) := by decide +kernel
theorem dX6_mostNow_3 : decode cX6_mostNow 3 = .ok (.istore_n 2, 1) := by decide +kernel
theorem dX6_mostNow_4 : decode cX6_mostNow 4 = .ok (.iload_n 2, 1) := by decide +kernel
theorem dX6_mostNow_5 : decode cX6_mostNow 5 = .ok (.aload_n 0, 1) := by decide +kernel
theorem dX6_mostNow_6 : decode cX6_mostNow 6 = .ok (.invokevirtual 80, 3) := by decide +kernel
theorem dX6_mostNow_9 : decode cX6_mostNow 9 = .ok (.if_icmp .ge 28, 3) := by decide +kernel
theorem dX6_mostNow_12 : decode cX6_mostNow 12 = .ok (.iload_n 1, 1) := by decide +kernel
theorem dX6_mostNow_13 : decode cX6_mostNow 13 = .ok (.aload_n 0, 1) := by decide +kernel
theorem dX6_mostNow_14 : decode cX6_mostNow 14 = .ok (.getfield 51, 3) := by decide +kernel
theorem dX6_mostNow_17 : decode cX6_mostNow 17 = .ok (.iload_n 2, 1) := by decide +kernel
theorem dX6_mostNow_18 : decode cX6_mostNow 18 = .ok (.iaload, 1) := by decide +kernel
theorem dX6_mostNow_19 : decode cX6_mostNow 19 = .ok (.ldc 112, 2) := by decide +kernel
theorem dX6_mostNow_21 : decode cX6_mostNow 21 = .ok (.if_icmp .eq 7, 3) := by decide +kernel
theorem dX6_mostNow_24 : decode cX6_mostNow 24 = .ok (.iconst 1, 1) := by decide +kernel
theorem dX6_mostNow_25 : decode cX6_mostNow 25 = .ok (.goto 4, 3) := by decide +kernel
theorem dX6_mostNow_28 : decode cX6_mostNow 28 = .ok (.iconst 0, 1) := by decide +kernel
theorem dX6_mostNow_29 : decode cX6_mostNow 29 = .ok (.iadd, 1) := by decide +kernel
theorem dX6_mostNow_30 : decode cX6_mostNow 30 = .ok (.istore_n 1, 1) := by decide +kernel
theorem dX6_mostNow_31 : decode cX6_mostNow 31 = .ok (.iinc 2 1, 3) := by decide +kernel
theorem dX6_mostNow_34 : decode cX6_mostNow 34 = .ok (.goto (-30), 3) := by decide +kernel
theorem dX6_mostNow_37 : decode cX6_mostNow 37 = .ok (.iload_n 1, 1) := by decide +kernel
theorem dX6_mostNow_38 : decode cX6_mostNow 38 = .ok (.ireturn, 1) := by decide +kernel
def f_X6_mostNow_29 (k4 : Int32 → Int32 → St → Option (Int32 × St)) (x2 : Int32) (s0 : Int32) (s1 : Int32) (σ : St) : Option (Int32 × St) :=
  k4 (s0 + s1) (x2 + 1) σ
set_option maxRecDepth 100000 in
set_option maxHeartbeats 4000000 in
theorem b_X6_mostNow_29 {g : Geo} {x : Cx} (C : Ok g x cX6_mostNow RX6 3 (some .int) rm_X6_mostNow) (k4 : Int32 → Int32 → St → Option (Int32 × St)) (hk4 : ∀ (x1 : Int32) (x2 : Int32) (τ : St) (r : Int32) (τ' : St), k4 x1 x2 τ = some (r, τ') → V g x (qm g x (some (.int r)) τ') 3 τ [(0, .ref (g.1 26)), (1, .int x1), (2, .int x2)] [] 4) : ∀ (x2 : Int32) (s0 : Int32) (s1 : Int32) (σ : St) (r : Int32) (σ' : St), f_X6_mostNow_29 k4 x2 s0 s1 σ = some (r, σ') → V g x (qm g x (some (.int r)) σ') 3 σ [(0, .ref (g.1 26)), (2, .int x2)] [.int s1, .int s0] 29 := by
  intro x2 s0 s1 σ r σ' h
  unfold f_X6_mostNow_29 at h
  refine v_iadd C dX6_mostNow_29 ?_
  refine v_istore_n C (lv' := [(1, .int _), (0, .ref _), (2, .int _)]) dX6_mostNow_30 rfl (by decide) rfl ?_
  refine v_iinc C (v := (x2 + 1)) (lv' := [(2, .int _), (1, .int _), (0, .ref _)]) dX6_mostNow_31 2 rfl rfl (by decide) rfl ?_
  refine v_goto C (tgt := 4) dX6_mostNow_34 (by decide) ?_
  refine V.sub (lv' := [(0, .ref _), (1, .int _), (2, .int _)]) [2, 1, 0] rfl ?_
  exact hk4 _ _  _ _ _ h
def f_X6_mostNow_4 : Nat → Int32 → Int32 → St → Option (Int32 × St)
  | 0, _, _, _ => none
  | n + 1, x1, x2, σ =>
    bd (f_X6_cells σ) fun v1 σ2 =>
    if v1 ≤ x2 then
      some (x1, σ2)
    else
      rdI σ2 40 x2 fun v3 =>
      if v3 = (-900009 : Int32) then
        f_X6_mostNow_29 (f_X6_mostNow_4 n) x2 x1 (0 : Int32) σ2
      else
        f_X6_mostNow_29 (f_X6_mostNow_4 n) x2 x1 (1 : Int32) σ2
set_option maxRecDepth 100000 in
set_option maxHeartbeats 4000000 in
theorem b_X6_mostNow_4 {g : Geo} {x : Cx} (C : Ok g x cX6_mostNow RX6 3 (some .int) rm_X6_mostNow) : ∀ (n : Nat) (x1 : Int32) (x2 : Int32) (σ : St) (r : Int32) (σ' : St), f_X6_mostNow_4 n x1 x2 σ = some (r, σ') → V g x (qm g x (some (.int r)) σ') 3 σ [(0, .ref (g.1 26)), (1, .int x1), (2, .int x2)] [] 4 := by
  intro n
  induction n with
  | zero =>
    intro x1 x2 σ r σ' h
    rw [f_X6_mostNow_4] at h
    cases h
  | succ n ih =>
    intro x1 x2 σ r σ' h
    rw [f_X6_mostNow_4] at h
    refine v_iload_n C dX6_mostNow_4 rfl 2 rfl ?_
    refine v_aload_n C dX6_mostNow_5 rfl 0 rfl ?_
    obtain ⟨v1, σ2, cσ2, h⟩ := bd_some h
    refine callVi C (c_X6_cells cσ2) km_X6_cells kv_X6_cells rfl ml_RX6_80 rfl rfl (by decide) (Nat.le_of_ble_eq_true rfl) dX6_mostNow_6 ?_
    refine v_icmp_ge C (tgt := 37) dX6_mostNow_9 (by decide) (fun q5 => ?_) (fun q5 => ?_)
    · rw [if_pos q5] at h
      refine v_iload_n C dX6_mostNow_37 rfl 1 rfl ?_
      cases h
      exact v_iret C dX6_mostNow_38
    · rw [if_neg q5] at h
      refine v_iload_n C dX6_mostNow_12 rfl 1 rfl ?_
      refine v_aload_n C dX6_mostNow_13 rfl 0 rfl ?_
      refine v_getR C (p' := 40) fl_RX6_51 rfl rfl dX6_mostNow_14 ?_
      refine v_iload_n C dX6_mostNow_17 rfl 2 rfl ?_
      obtain ⟨nv3, v3, ev3, h⟩ := rdI_ex h
      refine x_iald C rfl nv3 ev3 dX6_mostNow_18 ?_
      refine v_ldc C (v := (-900009 : Int32)) con_RX6_112 dX6_mostNow_19 ?_
      refine v_icmp_eq C (tgt := 28) dX6_mostNow_21 (by decide) (fun q4 => ?_) (fun q4 => ?_)
      · rw [if_pos q4] at h
        refine v_iconst C (v := (0 : Int32)) dX6_mostNow_28 (by decide) ?_
        refine V.sub (lv' := [(0, .ref _), (2, .int _)]) [0, 2] rfl ?_
        exact b_X6_mostNow_29 C _ ih _ _ _  _ _ _ h
      · rw [if_neg q4] at h
        refine v_iconst C (v := (1 : Int32)) dX6_mostNow_24 (by decide) ?_
        refine v_goto C (tgt := 29) dX6_mostNow_25 (by decide) ?_
        refine V.sub (lv' := [(0, .ref _), (2, .int _)]) [0, 2] rfl ?_
        exact b_X6_mostNow_29 C _ ih _ _ _  _ _ _ h
def f_X6_mostNow (σ : St) : Option (Int32 × St) :=
  f_X6_mostNow_4 FU (0 : Int32) (0 : Int32) σ
set_option maxRecDepth 100000 in
set_option maxHeartbeats 4000000 in
theorem c_X6_mostNow {g : Geo} {σ : St} {r : Int32} {σ' : St} (h : f_X6_mostNow σ = some (r, σ')) : Ct g yX6_mostNow cX6_mostNow 3 (some .int) rm_X6_mostNow [.ref (g.1 26)] σ (some (.int r)) σ' := by
  refine ct_of (own := RX6) (by decide) rfl (Nat.le_of_ble_eq_true rfl) (fun x C => ?_) ⟨rfl, rfl⟩
  show V g x _ 3 σ [(0, .ref (g.1 26))] [] 0
  unfold f_X6_mostNow at h
  refine v_iconst C (v := (0 : Int32)) dX6_mostNow_0 (by decide) ?_
  refine v_istore_n C (lv' := [(1, .int _), (0, .ref _)]) dX6_mostNow_1 rfl (by decide) rfl ?_
  refine v_iconst C (v := (0 : Int32)) dX6_mostNow_2 (by decide) ?_
  refine v_istore_n C (lv' := [(2, .int _), (1, .int _), (0, .ref _)]) dX6_mostNow_3 rfl (by decide) rfl ?_
  refine V.sub (lv' := [(0, .ref _), (1, .int _), (2, .int _)]) [2, 1, 0] rfl ?_
  exact b_X6_mostNow_4 C FU _ _  _ _ _ h
theorem dX6_most_0 : decode cX6_most 0 = .ok (.aload_n 0, 1) := by decide +kernel
theorem dX6_most_1 : decode cX6_most 1 = .ok (.invokevirtual 229, 3) := by decide +kernel
theorem dX6_most_4 : decode cX6_most 4 = .ok (.aload_n 0, 1) := by decide +kernel
theorem dX6_most_5 : decode cX6_most 5 = .ok (.invokevirtual 232, 3) := by decide +kernel
theorem dX6_most_8 : decode cX6_most 8 = .ok (.ireturn, 1) := by decide +kernel
def f_X6_most (σ : St) : Option (Int32 × St) :=
  bd (f_X6_layMost σ) fun _ σ2 =>
  bd (f_X6_mostNow σ2) fun v3 σ4 =>
  some (v3, σ4)
set_option maxRecDepth 100000 in
set_option maxHeartbeats 4000000 in
theorem c_X6_most {g : Geo} {σ : St} {r : Int32} {σ' : St} (h : f_X6_most σ = some (r, σ')) : Ct g yX6_most cX6_most 1 (some .int) rm_X6_most [.ref (g.1 26)] σ (some (.int r)) σ' := by
  refine ct_of (own := RX6) (by decide) rfl (Nat.le_of_ble_eq_true rfl) (fun x C => ?_) ⟨rfl, rfl⟩
  show V g x _ 1 σ [(0, .ref (g.1 26))] [] 0
  unfold f_X6_most at h
  refine v_aload_n C dX6_most_0 rfl 0 rfl ?_
  obtain ⟨v1, σ2, cσ2, h⟩ := bd_some h
  refine callVv C (c_X6_layMost cσ2) km_X6_layMost kv_X6_layMost rfl ml_RX6_229 rfl rfl (by decide) (Nat.le_of_ble_eq_true rfl) dX6_most_1 ?_
  refine v_aload_n C dX6_most_4 rfl 0 rfl ?_
  obtain ⟨v3, σ4, cσ4, h⟩ := bd_some h
  refine callVi C (c_X6_mostNow cσ4) km_X6_mostNow kv_X6_mostNow rfl ml_RX6_232 rfl rfl (by decide) (Nat.le_of_ble_eq_true rfl) dX6_most_5 ?_
  cases h
  exact v_iret C dX6_most_8
theorem dX6_lack_0 : decode cX6_lack 0 = .ok (.aload_n 0, 1) := by decide +kernel
theorem dX6_lack_1 : decode cX6_lack 1 = .ok (.invokevirtual 229, 3) := by decide +kernel
theorem dX6_lack_4 : decode cX6_lack 4 = .ok (.aload_n 0, 1) := by decide +kernel
theorem dX6_lack_5 : decode cX6_lack 5 = .ok (.iconst 1, 1) := by decide +kernel
theorem dX6_lack_6 : decode cX6_lack 6 = .ok (.invokevirtual 98, 3) := by decide +kernel
theorem dX6_lack_9 : decode cX6_lack 9 = .ok (.aload_n 0, 1) := by decide +kernel
theorem dX6_lack_10 : decode cX6_lack 10 = .ok (.iconst 0, 1) := by decide +kernel
theorem dX6_lack_11 : decode cX6_lack 11 = .ok (.invokevirtual 98, 3) := by decide +kernel
theorem dX6_lack_14 : decode cX6_lack 14 = .ok (.iadd, 1) := by decide +kernel
theorem dX6_lack_15 : decode cX6_lack 15 = .ok (.iconst 2, 1) := by decide +kernel
theorem dX6_lack_16 : decode cX6_lack 16 = .ok (.aload_n 0, 1) := by decide +kernel
theorem dX6_lack_17 : decode cX6_lack 17 = .ok (.invokevirtual 232, 3) := by decide +kernel
theorem dX6_lack_20 : decode cX6_lack 20 = .ok (.imul, 1) := by decide +kernel
theorem dX6_lack_21 : decode cX6_lack 21 = .ok (.isub, 1) := by decide +kernel
theorem dX6_lack_22 : decode cX6_lack 22 = .ok (.ireturn, 1) := by decide +kernel
def f_X6_lack (σ : St) : Option (Int32 × St) :=
  bd (f_X6_layMost σ) fun _ σ2 =>
  bd (f_X6_count (1 : Int32) σ2) fun v3 σ4 =>
  bd (f_X6_count (0 : Int32) σ4) fun v5 σ6 =>
  bd (f_X6_mostNow σ6) fun v7 σ8 =>
  some (((v3 + v5) - ((2 : Int32) * v7)), σ8)
set_option maxRecDepth 100000 in
set_option maxHeartbeats 4000000 in
theorem c_X6_lack {g : Geo} {σ : St} {r : Int32} {σ' : St} (h : f_X6_lack σ = some (r, σ')) : Ct g yX6_lack cX6_lack 1 (some .int) rm_X6_lack [.ref (g.1 26)] σ (some (.int r)) σ' := by
  refine ct_of (own := RX6) (by decide) rfl (Nat.le_of_ble_eq_true rfl) (fun x C => ?_) ⟨rfl, rfl⟩
  show V g x _ 1 σ [(0, .ref (g.1 26))] [] 0
  unfold f_X6_lack at h
  refine v_aload_n C dX6_lack_0 rfl 0 rfl ?_
  obtain ⟨v1, σ2, cσ2, h⟩ := bd_some h
  refine callVv C (c_X6_layMost cσ2) km_X6_layMost kv_X6_layMost rfl ml_RX6_229 rfl rfl (by decide) (Nat.le_of_ble_eq_true rfl) dX6_lack_1 ?_
  refine v_aload_n C dX6_lack_4 rfl 0 rfl ?_
  refine v_iconst C (v := (1 : Int32)) dX6_lack_5 (by decide) ?_
  obtain ⟨v3, σ4, cσ4, h⟩ := bd_some h
  refine callVi C (c_X6_count cσ4) km_X6_count kv_X6_count rfl ml_RX6_98 rfl rfl (by decide) (Nat.le_of_ble_eq_true rfl) dX6_lack_6 ?_
  refine v_aload_n C dX6_lack_9 rfl 0 rfl ?_
  refine v_iconst C (v := (0 : Int32)) dX6_lack_10 (by decide) ?_
  obtain ⟨v5, σ6, cσ6, h⟩ := bd_some h
  refine callVi C (c_X6_count cσ6) km_X6_count kv_X6_count rfl ml_RX6_98 rfl rfl (by decide) (Nat.le_of_ble_eq_true rfl) dX6_lack_11 ?_
  refine v_iadd C dX6_lack_14 ?_
  refine v_iconst C (v := (2 : Int32)) dX6_lack_15 (by decide) ?_
  refine v_aload_n C dX6_lack_16 rfl 0 rfl ?_
  obtain ⟨v7, σ8, cσ8, h⟩ := bd_some h
  refine callVi C (c_X6_mostNow cσ8) km_X6_mostNow kv_X6_mostNow rfl ml_RX6_232 rfl rfl (by decide) (Nat.le_of_ble_eq_true rfl) dX6_lack_17 ?_
  refine v_imul C dX6_lack_20 ?_
  refine v_isub C dX6_lack_21 ?_
  cases h
  exact v_iret C dX6_lack_22
theorem dX6_layBar_0 : decode cX6_layBar 0 = .ok (.aload_n 0, 1) := by decide +kernel
theorem dX6_layBar_1 : decode cX6_layBar 1 = .ok (.invokevirtual 229, 3) := by decide +kernel
theorem dX6_layBar_4 : decode cX6_layBar 4 = .ok (.iconst 0, 1) := by decide +kernel
theorem dX6_layBar_5 : decode cX6_layBar 5 = .ok (.istore_n 1, 1) := by decide +kernel
theorem dX6_layBar_6 : decode cX6_layBar 6 = .ok (.iconst 0, 1) := by decide +kernel
theorem dX6_layBar_7 : decode cX6_layBar 7 = .ok (.istore_n 2, 1) := by decide +kernel
theorem dX6_layBar_8 : decode cX6_layBar 8 = .ok (.iload_n 2, 1) := by decide +kernel
theorem dX6_layBar_9 : decode cX6_layBar 9 = .ok (.bipush 64, 2) := by decide +kernel
theorem dX6_layBar_11 : decode cX6_layBar 11 = .ok (.if_icmp .ge 66, 3) := by decide +kernel
theorem dX6_layBar_14 : decode cX6_layBar 14 = .ok (.aload_n 0, 1) := by decide +kernel
theorem dX6_layBar_15 : decode cX6_layBar 15 = .ok (.getfield 57, 3) := by decide +kernel
theorem dX6_layBar_18 : decode cX6_layBar 18 = .ok (.iload_n 2, 1) := by decide +kernel
theorem dX6_layBar_19 : decode cX6_layBar 19 = .ok (.iload_n 2, 1) := by decide +kernel
theorem dX6_layBar_20 : decode cX6_layBar 20 = .ok (.aload_n 0, 1) := by decide +kernel
theorem dX6_layBar_21 : decode cX6_layBar 21 = .ok (.invokevirtual 80, 3) := by decide +kernel
theorem dX6_layBar_24 : decode cX6_layBar 24 = .ok (.if_icmp .ge 26, 3) := by decide +kernel
theorem dX6_layBar_27 : decode cX6_layBar 27 = .ok (.aload_n 0, 1) := by decide +kernel
theorem dX6_layBar_28 : decode cX6_layBar 28 = .ok (.iload_n 2, 1) := by decide +kernel
theorem dX6_layBar_29 : decode cX6_layBar 29 = .ok (.invokevirtual 108, 3) := by decide +kernel
theorem dX6_layBar_32 : decode cX6_layBar 32 = .ok (.ifCond .eq 18, 3) := by decide +kernel
theorem dX6_layBar_35 : decode cX6_layBar 35 = .ok (.aload_n 0, 1) := by decide +kernel
theorem dX6_layBar_36 : decode cX6_layBar 36 = .ok (.getfield 51, 3) := by decide +kernel
theorem dX6_layBar_39 : decode cX6_layBar 39 = .ok (.iload_n 2, 1) := by decide +kernel
theorem dX6_layBar_40 : decode cX6_layBar 40 = .ok (.iaload, 1) := by decide +kernel
theorem dX6_layBar_41 : decode cX6_layBar 41 = .ok (.ldc 112, 2) := by decide +kernel
theorem dX6_layBar_43 : decode cX6_layBar 43 = .ok (.if_icmp .ne 7, 3) := by decide +kernel
theorem dX6_layBar_46 : decode cX6_layBar 46 = .ok (.iconst 1, 1) := by decide +kernel
theorem dX6_layBar_47 : decode cX6_layBar 47 = .ok (.goto 4, 3) := by decide +kernel
theorem dX6_layBar_50 : decode cX6_layBar 50 = .ok (.iconst 0, 1) := by decide +kernel
theorem dX6_layBar_51 : decode cX6_layBar 51 = .ok (.bastore, 1) := by decide +kernel
theorem dX6_layBar_52 : decode cX6_layBar 52 = .ok (.aload_n 0, 1) := by decide +kernel
theorem dX6_layBar_53 : decode cX6_layBar 53 = .ok (.getfield 57, 3) := by decide +kernel
theorem dX6_layBar_56 : decode cX6_layBar 56 = .ok (.iload_n 2, 1) := by decide +kernel
theorem dX6_layBar_57 : decode cX6_layBar 57 = .ok (.baload, 1) := by decide +kernel
theorem dX6_layBar_58 : decode cX6_layBar 58 = .ok (.ifCond .eq 13, 3) := by decide +kernel
theorem dX6_layBar_61 : decode cX6_layBar 61 = .ok (.aload_n 0, 1) := by decide +kernel
theorem dX6_layBar_62 : decode cX6_layBar 62 = .ok (.getfield 60, 3) := by decide +kernel
theorem dX6_layBar_65 : decode cX6_layBar 65 = .ok (.iload_n 1, 1) := by decide +kernel
theorem dX6_layBar_66 : decode cX6_layBar 66 = .ok (.iload_n 2, 1) := by decide +kernel
theorem dX6_layBar_67 : decode cX6_layBar 67 = .ok (.iastore, 1) := by decide +kernel
theorem dX6_layBar_68 : decode cX6_layBar 68 = .ok (.iinc 1 1, 3) := by decide +kernel
theorem dX6_layBar_71 : decode cX6_layBar 71 = .ok (.iinc 2 1, 3) := by decide +kernel
theorem dX6_layBar_74 : decode cX6_layBar 74 = .ok (.goto (-66), 3) := by decide +kernel
theorem dX6_layBar_77 : decode cX6_layBar 77 = .ok (.iload_n 1, 1) := by decide +kernel
theorem dX6_layBar_78 : decode cX6_layBar 78 = .ok (.ifCond .ne 8, 3) := by decide +kernel
theorem dX6_layBar_81 : decode cX6_layBar 81 = .ok (.ldc 112, 2) := by decide +kernel
theorem dX6_layBar_83 : decode cX6_layBar 83 = .ok (.goto 8, 3) := by decide +kernel
theorem dX6_layBar_86 : decode cX6_layBar 86 = .ok (.aload_n 0, 1) := by decide +kernel
theorem dX6_layBar_87 : decode cX6_layBar 87 = .ok (.iload_n 1, 1) := by decide +kernel
theorem dX6_layBar_88 : decode cX6_layBar 88 = .ok (.invokevirtual 222, 3) := by decide +kernel
theorem dX6_layBar_91 : decode cX6_layBar 91 = .ok (.istore_n 2, 1) := by decide +kernel
theorem dX6_layBar_92 : decode cX6_layBar 92 = .ok (.iconst 0, 1) := by decide +kernel
theorem dX6_layBar_93 : decode cX6_layBar 93 = .ok (.istore_n 3, 1) := by decide +kernel
theorem dX6_layBar_94 : decode cX6_layBar 94 = .ok (.iconst 0, 1) := by decide +kernel
theorem dX6_layBar_95 : decode cX6_layBar 95 = .ok (.istore 4, 2) := by decide +kernel
theorem dX6_layBar_97 : decode cX6_layBar 97 = .ok (.iload 4, 2) := by decide +kernel
theorem dX6_layBar_99 : decode cX6_layBar 99 = .ok (.aload_n 0, 1) := by decide +kernel
theorem dX6_layBar_100 : decode cX6_layBar 100 = .ok (.invokevirtual 80, 3) := by decide +kernel
theorem dX6_layBar_103 : decode cX6_layBar 103 = .ok (.if_icmp .ge 27, 3) := by decide +kernel
theorem dX6_layBar_106 : decode cX6_layBar 106 = .ok (.iload_n 3, 1) := by decide +kernel
theorem dX6_layBar_107 : decode cX6_layBar 107 = .ok (.aload_n 0, 1) := by decide +kernel
theorem dX6_layBar_108 : decode cX6_layBar 108 = .ok (.getfield 57, 3) := by decide +kernel
theorem dX6_layBar_111 : decode cX6_layBar 111 = .ok (.iload 4, 2) := by decide +kernel
theorem dX6_layBar_113 : decode cX6_layBar 113 = .ok (.baload, 1) := by decide +kernel
theorem dX6_layBar_114 : decode cX6_layBar 114 = .ok (.ifCond .eq 7, 3) := by decide +kernel
theorem dX6_layBar_117 : decode cX6_layBar 117 = .ok (.iconst 1, 1) := by decide +kernel
theorem dX6_layBar_118 : decode cX6_layBar 118 = .ok (.goto 4, 3) := by decide +kernel
theorem dX6_layBar_121 : decode cX6_layBar 121 = .ok (.iconst 0, 1) := by decide +kernel
theorem dX6_layBar_122 : decode cX6_layBar 122 = .ok (.iadd, 1) := by decide +kernel
theorem dX6_layBar_123 : decode cX6_layBar 123 = .ok (.istore_n 3, 1) := by decide +kernel
theorem dX6_layBar_124 : decode cX6_layBar 124 = .ok (.iinc 4 1, 3) := by decide +kernel
theorem dX6_layBar_127 : decode cX6_layBar 127 = .ok (.goto (-30), 3) := by decide +kernel
theorem dX6_layBar_130 : decode cX6_layBar 130 = .ok (.iload_n 3, 1) := by decide +kernel
theorem dX6_layBar_131 : decode cX6_layBar 131 = .ok (.ireturn, 1) := by decide +kernel
def f_X6_layBar_122 (k97 : Int32 → Int32 → St → Option (Int32 × St)) (x4 : Int32) (s0 : Int32) (s1 : Int32) (σ : St) : Option (Int32 × St) :=
  k97 (s0 + s1) (x4 + 1) σ
set_option maxRecDepth 100000 in
set_option maxHeartbeats 4000000 in
theorem b_X6_layBar_122 {g : Geo} {x : Cx} (C : Ok g x cX6_layBar RX6 5 (some .int) rm_X6_layBar) (k97 : Int32 → Int32 → St → Option (Int32 × St)) (hk97 : ∀ (x3 : Int32) (x4 : Int32) (τ : St) (r : Int32) (τ' : St), k97 x3 x4 τ = some (r, τ') → V g x (qm g x (some (.int r)) τ') 5 τ [(0, .ref (g.1 26)), (3, .int x3), (4, .int x4)] [] 97) : ∀ (x4 : Int32) (s0 : Int32) (s1 : Int32) (σ : St) (r : Int32) (σ' : St), f_X6_layBar_122 k97 x4 s0 s1 σ = some (r, σ') → V g x (qm g x (some (.int r)) σ') 5 σ [(0, .ref (g.1 26)), (4, .int x4)] [.int s1, .int s0] 122 := by
  intro x4 s0 s1 σ r σ' h
  unfold f_X6_layBar_122 at h
  refine v_iadd C dX6_layBar_122 ?_
  refine v_istore_n C (lv' := [(3, .int _), (0, .ref _), (4, .int _)]) dX6_layBar_123 rfl (by decide) rfl ?_
  refine v_iinc C (v := (x4 + 1)) (lv' := [(4, .int _), (3, .int _), (0, .ref _)]) dX6_layBar_124 2 rfl rfl (by decide) rfl ?_
  refine v_goto C (tgt := 97) dX6_layBar_127 (by decide) ?_
  refine V.sub (lv' := [(0, .ref _), (3, .int _), (4, .int _)]) [2, 1, 0] rfl ?_
  exact hk97 _ _  _ _ _ h
def f_X6_layBar_97 : Nat → Int32 → Int32 → St → Option (Int32 × St)
  | 0, _, _, _ => none
  | n + 1, x3, x4, σ =>
    bd (f_X6_cells σ) fun v1 σ2 =>
    if v1 ≤ x4 then
      some (x3, σ2)
    else
      rdI σ2 42 x4 fun v3 =>
      if v3 = 0 then
        f_X6_layBar_122 (f_X6_layBar_97 n) x4 x3 (0 : Int32) σ2
      else
        f_X6_layBar_122 (f_X6_layBar_97 n) x4 x3 (1 : Int32) σ2
set_option maxRecDepth 100000 in
set_option maxHeartbeats 4000000 in
theorem b_X6_layBar_97 {g : Geo} {x : Cx} (C : Ok g x cX6_layBar RX6 5 (some .int) rm_X6_layBar) : ∀ (n : Nat) (x3 : Int32) (x4 : Int32) (σ : St) (r : Int32) (σ' : St), f_X6_layBar_97 n x3 x4 σ = some (r, σ') → V g x (qm g x (some (.int r)) σ') 5 σ [(0, .ref (g.1 26)), (3, .int x3), (4, .int x4)] [] 97 := by
  intro n
  induction n with
  | zero =>
    intro x3 x4 σ r σ' h
    rw [f_X6_layBar_97] at h
    cases h
  | succ n ih =>
    intro x3 x4 σ r σ' h
    rw [f_X6_layBar_97] at h
    refine v_iload C dX6_layBar_97 2 rfl ?_
    refine v_aload_n C dX6_layBar_99 rfl 0 rfl ?_
    obtain ⟨v1, σ2, cσ2, h⟩ := bd_some h
    refine callVi C (c_X6_cells cσ2) km_X6_cells kv_X6_cells rfl ml_RX6_80 rfl rfl (by decide) (Nat.le_of_ble_eq_true rfl) dX6_layBar_100 ?_
    refine v_icmp_ge C (tgt := 130) dX6_layBar_103 (by decide) (fun q5 => ?_) (fun q5 => ?_)
    · rw [if_pos q5] at h
      refine v_iload_n C dX6_layBar_130 rfl 1 rfl ?_
      cases h
      exact v_iret C dX6_layBar_131
    · rw [if_neg q5] at h
      refine v_iload_n C dX6_layBar_106 rfl 1 rfl ?_
      refine v_aload_n C dX6_layBar_107 rfl 0 rfl ?_
      refine v_getR C (p' := 42) fl_RX6_57 rfl rfl dX6_layBar_108 ?_
      refine v_iload C dX6_layBar_111 2 rfl ?_
      obtain ⟨nv3, v3, ev3, h⟩ := rdI_ex h
      refine x_zald C rfl nv3 ev3 dX6_layBar_113 ?_
      refine v_if_eq C (tgt := 121) dX6_layBar_114 (by decide) (fun q4 => ?_) (fun q4 => ?_)
      · rw [if_pos q4] at h
        refine v_iconst C (v := (0 : Int32)) dX6_layBar_121 (by decide) ?_
        refine V.sub (lv' := [(0, .ref _), (4, .int _)]) [0, 2] rfl ?_
        exact b_X6_layBar_122 C _ ih _ _ _  _ _ _ h
      · rw [if_neg q4] at h
        refine v_iconst C (v := (1 : Int32)) dX6_layBar_117 (by decide) ?_
        refine v_goto C (tgt := 122) dX6_layBar_118 (by decide) ?_
        refine V.sub (lv' := [(0, .ref _), (4, .int _)]) [0, 2] rfl ?_
        exact b_X6_layBar_122 C _ ih _ _ _  _ _ _ h
def f_X6_layBar_91 (s0 : Int32) (σ : St) : Option (Int32 × St) :=
  f_X6_layBar_97 FU (0 : Int32) (0 : Int32) σ
set_option maxRecDepth 100000 in
set_option maxHeartbeats 4000000 in
theorem b_X6_layBar_91 {g : Geo} {x : Cx} (C : Ok g x cX6_layBar RX6 5 (some .int) rm_X6_layBar) : ∀ (s0 : Int32) (σ : St) (r : Int32) (σ' : St), f_X6_layBar_91 s0 σ = some (r, σ') → V g x (qm g x (some (.int r)) σ') 5 σ [(0, .ref (g.1 26))] [.int s0] 91 := by
  intro s0 σ r σ' h
  unfold f_X6_layBar_91 at h
  refine v_istore_n C (lv' := [(2, .int _), (0, .ref _)]) dX6_layBar_91 rfl (by decide) rfl ?_
  refine v_iconst C (v := (0 : Int32)) dX6_layBar_92 (by decide) ?_
  refine v_istore_n C (lv' := [(3, .int _), (2, .int _), (0, .ref _)]) dX6_layBar_93 rfl (by decide) rfl ?_
  refine v_iconst C (v := (0 : Int32)) dX6_layBar_94 (by decide) ?_
  refine v_istore C (lv' := [(4, .int _), (3, .int _), (2, .int _), (0, .ref _)]) dX6_layBar_95 (by decide) rfl ?_
  refine V.sub (lv' := [(0, .ref _), (3, .int _), (4, .int _)]) [3, 1, 0] rfl ?_
  exact b_X6_layBar_97 C FU _ _  _ _ _ h
def f_X6_layBar_71 (k8 : Int32 → Int32 → St → Option (Int32 × St)) (x1 : Int32) (x2 : Int32) (σ : St) : Option (Int32 × St) :=
  k8 x1 (x2 + 1) σ
set_option maxRecDepth 100000 in
set_option maxHeartbeats 4000000 in
theorem b_X6_layBar_71 {g : Geo} {x : Cx} (C : Ok g x cX6_layBar RX6 5 (some .int) rm_X6_layBar) (k8 : Int32 → Int32 → St → Option (Int32 × St)) (hk8 : ∀ (x1 : Int32) (x2 : Int32) (τ : St) (r : Int32) (τ' : St), k8 x1 x2 τ = some (r, τ') → V g x (qm g x (some (.int r)) τ') 5 τ [(0, .ref (g.1 26)), (1, .int x1), (2, .int x2)] [] 8) : ∀ (x1 : Int32) (x2 : Int32) (σ : St) (r : Int32) (σ' : St), f_X6_layBar_71 k8 x1 x2 σ = some (r, σ') → V g x (qm g x (some (.int r)) σ') 5 σ [(0, .ref (g.1 26)), (1, .int x1), (2, .int x2)] [] 71 := by
  intro x1 x2 σ r σ' h
  unfold f_X6_layBar_71 at h
  refine v_iinc C (v := (x2 + 1)) (lv' := [(2, .int _), (0, .ref _), (1, .int _)]) dX6_layBar_71 2 rfl rfl (by decide) rfl ?_
  refine v_goto C (tgt := 8) dX6_layBar_74 (by decide) ?_
  refine V.sub (lv' := [(0, .ref _), (1, .int _), (2, .int _)]) [1, 2, 0] rfl ?_
  exact hk8 _ _  _ _ _ h
def f_X6_layBar_51 (k8 : Int32 → Int32 → St → Option (Int32 × St)) (x1 : Int32) (x2 : Int32) (s1 : Int32) (s2 : Int32) (σ : St) : Option (Int32 × St) :=
  wrZ σ 42 s1 s2 fun σ1 =>
  rdI σ1 42 x2 fun v2 =>
  if v2 = 0 then
    f_X6_layBar_71 k8 x1 x2 σ1
  else
    wrI σ1 43 x1 x2 fun σ3 =>
    f_X6_layBar_71 k8 (x1 + 1) x2 σ3
set_option maxRecDepth 100000 in
set_option maxHeartbeats 4000000 in
theorem b_X6_layBar_51 {g : Geo} {x : Cx} (C : Ok g x cX6_layBar RX6 5 (some .int) rm_X6_layBar) (k8 : Int32 → Int32 → St → Option (Int32 × St)) (hk8 : ∀ (x1 : Int32) (x2 : Int32) (τ : St) (r : Int32) (τ' : St), k8 x1 x2 τ = some (r, τ') → V g x (qm g x (some (.int r)) τ') 5 τ [(0, .ref (g.1 26)), (1, .int x1), (2, .int x2)] [] 8) : ∀ (x1 : Int32) (x2 : Int32) (s1 : Int32) (s2 : Int32) (σ : St) (r : Int32) (σ' : St), f_X6_layBar_51 k8 x1 x2 s1 s2 σ = some (r, σ') → V g x (qm g x (some (.int r)) σ') 5 σ [(0, .ref (g.1 26)), (1, .int x1), (2, .int x2)] [.int s2, .int s1, .ref (g.1 42)] 51 := by
  intro x1 x2 s1 s2 σ r σ' h
  unfold f_X6_layBar_51 at h
  obtain ⟨nσ1, σ1, eσ1, h⟩ := wrZ_ex h
  refine x_zast C rfl nσ1 eσ1 dX6_layBar_51 ?_
  refine v_aload_n C dX6_layBar_52 rfl 0 rfl ?_
  refine v_getR C (p' := 42) fl_RX6_57 rfl rfl dX6_layBar_53 ?_
  refine v_iload_n C dX6_layBar_56 rfl 2 rfl ?_
  obtain ⟨nv2, v2, ev2, h⟩ := rdI_ex h
  refine x_zald C rfl nv2 ev2 dX6_layBar_57 ?_
  refine v_if_eq C (tgt := 71) dX6_layBar_58 (by decide) (fun q4 => ?_) (fun q4 => ?_)
  · rw [if_pos q4] at h
    refine V.sub (lv' := [(0, .ref _), (1, .int _), (2, .int _)]) [0, 1, 2] rfl ?_
    exact b_X6_layBar_71 C _ hk8 _ _  _ _ _ h
  · rw [if_neg q4] at h
    refine v_aload_n C dX6_layBar_61 rfl 0 rfl ?_
    refine v_getR C (p' := 43) fl_RX6_60 rfl rfl dX6_layBar_62 ?_
    refine v_iload_n C dX6_layBar_65 rfl 1 rfl ?_
    refine v_iload_n C dX6_layBar_66 rfl 2 rfl ?_
    obtain ⟨nσ3, σ3, eσ3, h⟩ := wrI_ex h
    refine x_iast C rfl nσ3 eσ3 dX6_layBar_67 ?_
    refine v_iinc C (v := (x1 + 1)) (lv' := [(1, .int _), (0, .ref _), (2, .int _)]) dX6_layBar_68 1 rfl rfl (by decide) rfl ?_
    refine V.sub (lv' := [(0, .ref _), (1, .int _), (2, .int _)]) [1, 0, 2] rfl ?_
    exact b_X6_layBar_71 C _ hk8 _ _  _ _ _ h
def f_X6_layBar_50 (k8 : Int32 → Int32 → St → Option (Int32 × St)) (x1 : Int32) (x2 : Int32) (s1 : Int32) (σ : St) : Option (Int32 × St) :=
  f_X6_layBar_51 k8 x1 x2 s1 (0 : Int32) σ
set_option maxRecDepth 100000 in
set_option maxHeartbeats 4000000 in
theorem b_X6_layBar_50 {g : Geo} {x : Cx} (C : Ok g x cX6_layBar RX6 5 (some .int) rm_X6_layBar) (k8 : Int32 → Int32 → St → Option (Int32 × St)) (hk8 : ∀ (x1 : Int32) (x2 : Int32) (τ : St) (r : Int32) (τ' : St), k8 x1 x2 τ = some (r, τ') → V g x (qm g x (some (.int r)) τ') 5 τ [(0, .ref (g.1 26)), (1, .int x1), (2, .int x2)] [] 8) : ∀ (x1 : Int32) (x2 : Int32) (s1 : Int32) (σ : St) (r : Int32) (σ' : St), f_X6_layBar_50 k8 x1 x2 s1 σ = some (r, σ') → V g x (qm g x (some (.int r)) σ') 5 σ [(0, .ref (g.1 26)), (1, .int x1), (2, .int x2)] [.int s1, .ref (g.1 42)] 50 := by
  intro x1 x2 s1 σ r σ' h
  unfold f_X6_layBar_50 at h
  refine v_iconst C (v := (0 : Int32)) dX6_layBar_50 (by decide) ?_
  refine V.sub (lv' := [(0, .ref _), (1, .int _), (2, .int _)]) [0, 1, 2] rfl ?_
  exact b_X6_layBar_51 C _ hk8 _ _ _ _  _ _ _ h
def f_X6_layBar_8 : Nat → Int32 → Int32 → St → Option (Int32 × St)
  | 0, _, _, _ => none
  | n + 1, x1, x2, σ =>
    if (64 : Int32) ≤ x2 then
      if x1 = 0 then
        f_X6_layBar_91 (-900009 : Int32) σ
      else
        bd (f_X6_look x1 σ) fun v1 σ2 =>
        f_X6_layBar_91 v1 σ2
    else
      bd (f_X6_cells σ) fun v4 σ5 =>
      if v4 ≤ x2 then
        f_X6_layBar_50 (f_X6_layBar_8 n) x1 x2 x2 σ5
      else
        bd (f_X6_isUp x2 σ5) fun v6 σ7 =>
        if v6 = 0 then
          f_X6_layBar_50 (f_X6_layBar_8 n) x1 x2 x2 σ7
        else
          rdI σ7 40 x2 fun v8 =>
          if v8 = (-900009 : Int32) then
            f_X6_layBar_51 (f_X6_layBar_8 n) x1 x2 x2 (1 : Int32) σ7
          else
            f_X6_layBar_50 (f_X6_layBar_8 n) x1 x2 x2 σ7
set_option maxRecDepth 100000 in
set_option maxHeartbeats 4000000 in
theorem b_X6_layBar_8 {g : Geo} {x : Cx} (C : Ok g x cX6_layBar RX6 5 (some .int) rm_X6_layBar) : ∀ (n : Nat) (x1 : Int32) (x2 : Int32) (σ : St) (r : Int32) (σ' : St), f_X6_layBar_8 n x1 x2 σ = some (r, σ') → V g x (qm g x (some (.int r)) σ') 5 σ [(0, .ref (g.1 26)), (1, .int x1), (2, .int x2)] [] 8 := by
  intro n
  induction n with
  | zero =>
    intro x1 x2 σ r σ' h
    rw [f_X6_layBar_8] at h
    cases h
  | succ n ih =>
    intro x1 x2 σ r σ' h
    rw [f_X6_layBar_8] at h
    refine v_iload_n C dX6_layBar_8 rfl 2 rfl ?_
    refine v_bipush C (v := (64 : Int32)) dX6_layBar_9 (by decide) ?_
    refine v_icmp_ge C (tgt := 77) dX6_layBar_11 (by decide) (fun q12 => ?_) (fun q12 => ?_)
    · rw [if_pos q12] at h
      refine v_iload_n C dX6_layBar_77 rfl 1 rfl ?_
      refine v_if_ne C (tgt := 86) dX6_layBar_78 (by decide) (fun q3 => ?_) (fun q3 => ?_)
      · rw [if_neg q3] at h
        refine v_aload_n C dX6_layBar_86 rfl 0 rfl ?_
        refine v_iload_n C dX6_layBar_87 rfl 1 rfl ?_
        obtain ⟨v1, σ2, cσ2, h⟩ := bd_some h
        refine callVi C (c_X6_look cσ2) km_X6_look kv_X6_look rfl ml_RX6_222 rfl rfl (by decide) (Nat.le_of_ble_eq_true rfl) dX6_layBar_88 ?_
        refine V.sub (lv' := [(0, .ref _)]) [0] rfl ?_
        exact b_X6_layBar_91 C _  _ _ _ h
      · rw [if_pos q3] at h
        refine v_ldc C (v := (-900009 : Int32)) con_RX6_112 dX6_layBar_81 ?_
        refine v_goto C (tgt := 91) dX6_layBar_83 (by decide) ?_
        refine V.sub (lv' := [(0, .ref _)]) [0] rfl ?_
        exact b_X6_layBar_91 C _  _ _ _ h
    · rw [if_neg q12] at h
      refine v_aload_n C dX6_layBar_14 rfl 0 rfl ?_
      refine v_getR C (p' := 42) fl_RX6_57 rfl rfl dX6_layBar_15 ?_
      refine v_iload_n C dX6_layBar_18 rfl 2 rfl ?_
      refine v_iload_n C dX6_layBar_19 rfl 2 rfl ?_
      refine v_aload_n C dX6_layBar_20 rfl 0 rfl ?_
      obtain ⟨v4, σ5, cσ5, h⟩ := bd_some h
      refine callVi C (c_X6_cells cσ5) km_X6_cells kv_X6_cells rfl ml_RX6_80 rfl rfl (by decide) (Nat.le_of_ble_eq_true rfl) dX6_layBar_21 ?_
      refine v_icmp_ge C (tgt := 50) dX6_layBar_24 (by decide) (fun q11 => ?_) (fun q11 => ?_)
      · rw [if_pos q11] at h
        refine V.sub (lv' := [(0, .ref _), (1, .int _), (2, .int _)]) [0, 1, 2] rfl ?_
        exact b_X6_layBar_50 C _ ih _ _ _  _ _ _ h
      · rw [if_neg q11] at h
        refine v_aload_n C dX6_layBar_27 rfl 0 rfl ?_
        refine v_iload_n C dX6_layBar_28 rfl 2 rfl ?_
        obtain ⟨v6, σ7, cσ7, h⟩ := bd_some h
        refine callVi C (c_X6_isUp cσ7) km_X6_isUp kv_X6_isUp rfl ml_RX6_108 rfl rfl (by decide) (Nat.le_of_ble_eq_true rfl) dX6_layBar_29 ?_
        refine v_if_eq C (tgt := 50) dX6_layBar_32 (by decide) (fun q10 => ?_) (fun q10 => ?_)
        · rw [if_pos q10] at h
          refine V.sub (lv' := [(0, .ref _), (1, .int _), (2, .int _)]) [0, 1, 2] rfl ?_
          exact b_X6_layBar_50 C _ ih _ _ _  _ _ _ h
        · rw [if_neg q10] at h
          refine v_aload_n C dX6_layBar_35 rfl 0 rfl ?_
          refine v_getR C (p' := 40) fl_RX6_51 rfl rfl dX6_layBar_36 ?_
          refine v_iload_n C dX6_layBar_39 rfl 2 rfl ?_
          obtain ⟨nv8, v8, ev8, h⟩ := rdI_ex h
          refine x_iald C rfl nv8 ev8 dX6_layBar_40 ?_
          refine v_ldc C (v := (-900009 : Int32)) con_RX6_112 dX6_layBar_41 ?_
          refine v_icmp_ne C (tgt := 50) dX6_layBar_43 (by decide) (fun q9 => ?_) (fun q9 => ?_)
          · rw [if_neg q9] at h
            refine V.sub (lv' := [(0, .ref _), (1, .int _), (2, .int _)]) [0, 1, 2] rfl ?_
            exact b_X6_layBar_50 C _ ih _ _ _  _ _ _ h
          · rw [if_pos q9] at h
            refine v_iconst C (v := (1 : Int32)) dX6_layBar_46 (by decide) ?_
            refine v_goto C (tgt := 51) dX6_layBar_47 (by decide) ?_
            refine V.sub (lv' := [(0, .ref _), (1, .int _), (2, .int _)]) [0, 1, 2] rfl ?_
            exact b_X6_layBar_51 C _ ih _ _ _ _  _ _ _ h
def f_X6_layBar (σ : St) : Option (Int32 × St) :=
  bd (f_X6_layMost σ) fun _ σ2 =>
  f_X6_layBar_8 FU (0 : Int32) (0 : Int32) σ2
set_option maxRecDepth 100000 in
set_option maxHeartbeats 4000000 in
theorem c_X6_layBar {g : Geo} {σ : St} {r : Int32} {σ' : St} (h : f_X6_layBar σ = some (r, σ')) : Ct g yX6_layBar cX6_layBar 5 (some .int) rm_X6_layBar [.ref (g.1 26)] σ (some (.int r)) σ' := by
  refine ct_of (own := RX6) (by decide) rfl (Nat.le_of_ble_eq_true rfl) (fun x C => ?_) ⟨rfl, rfl⟩
  show V g x _ 5 σ [(0, .ref (g.1 26))] [] 0
  unfold f_X6_layBar at h
  refine v_aload_n C dX6_layBar_0 rfl 0 rfl ?_
  obtain ⟨v1, σ2, cσ2, h⟩ := bd_some h
  refine callVv C (c_X6_layMost cσ2) km_X6_layMost kv_X6_layMost rfl ml_RX6_229 rfl rfl (by decide) (Nat.le_of_ble_eq_true rfl) dX6_layBar_1 ?_
  refine v_iconst C (v := (0 : Int32)) dX6_layBar_4 (by decide) ?_
  refine v_istore_n C (lv' := [(1, .int _), (0, .ref _)]) dX6_layBar_5 rfl (by decide) rfl ?_
  refine v_iconst C (v := (0 : Int32)) dX6_layBar_6 (by decide) ?_
  refine v_istore_n C (lv' := [(2, .int _), (1, .int _), (0, .ref _)]) dX6_layBar_7 rfl (by decide) rfl ?_
  refine V.sub (lv' := [(0, .ref _), (1, .int _), (2, .int _)]) [2, 1, 0] rfl ?_
  exact b_X6_layBar_8 C FU _ _  _ _ _ h
theorem dX6_bar_0 : decode cX6_bar 0 = .ok (.aload_n 0, 1) := by decide +kernel
theorem dX6_bar_1 : decode cX6_bar 1 = .ok (.invokevirtual 235, 3) := by decide +kernel
theorem dX6_bar_4 : decode cX6_bar 4 = .ok (.istore_n 1, 1) := by decide +kernel
theorem dX6_bar_5 : decode cX6_bar 5 = .ok (.iload_n 1, 1) := by decide +kernel
theorem dX6_bar_6 : decode cX6_bar 6 = .ok (.ifCond .ne 8, 3) := by decide +kernel
theorem dX6_bar_9 : decode cX6_bar 9 = .ok (.ldc 112, 2) := by decide +kernel
theorem dX6_bar_11 : decode cX6_bar 11 = .ok (.goto 4, 3) := by decide +kernel
theorem dX6_bar_14 : decode cX6_bar 14 = .ok (.iload_n 1, 1) := by decide +kernel
theorem dX6_bar_15 : decode cX6_bar 15 = .ok (.ireturn, 1) := by decide +kernel
def f_X6_bar_15 (s0 : Int32) (σ : St) : Option (Int32 × St) :=
  some (s0, σ)
set_option maxRecDepth 100000 in
set_option maxHeartbeats 4000000 in
theorem b_X6_bar_15 {g : Geo} {x : Cx} (C : Ok g x cX6_bar RX6 2 (some .int) rm_X6_bar) : ∀ (s0 : Int32) (σ : St) (r : Int32) (σ' : St), f_X6_bar_15 s0 σ = some (r, σ') → V g x (qm g x (some (.int r)) σ') 2 σ [] [.int s0] 15 := by
  intro s0 σ r σ' h
  unfold f_X6_bar_15 at h
  cases h
  exact v_iret C dX6_bar_15
def f_X6_bar (σ : St) : Option (Int32 × St) :=
  bd (f_X6_layBar σ) fun v1 σ2 =>
  if v1 = 0 then
    f_X6_bar_15 (-900009 : Int32) σ2
  else
    f_X6_bar_15 v1 σ2
set_option maxRecDepth 100000 in
set_option maxHeartbeats 4000000 in
theorem c_X6_bar {g : Geo} {σ : St} {r : Int32} {σ' : St} (h : f_X6_bar σ = some (r, σ')) : Ct g yX6_bar cX6_bar 2 (some .int) rm_X6_bar [.ref (g.1 26)] σ (some (.int r)) σ' := by
  refine ct_of (own := RX6) (by decide) rfl (Nat.le_of_ble_eq_true rfl) (fun x C => ?_) ⟨rfl, rfl⟩
  show V g x _ 2 σ [(0, .ref (g.1 26))] [] 0
  unfold f_X6_bar at h
  refine v_aload_n C dX6_bar_0 rfl 0 rfl ?_
  obtain ⟨v1, σ2, cσ2, h⟩ := bd_some h
  refine callVi C (c_X6_layBar cσ2) km_X6_layBar kv_X6_layBar rfl ml_RX6_235 rfl rfl (by decide) (Nat.le_of_ble_eq_true rfl) dX6_bar_1 ?_
  refine v_istore_n C (lv' := [(1, .int _), (0, .ref _)]) dX6_bar_4 rfl (by decide) rfl ?_
  refine v_iload_n C dX6_bar_5 rfl 0 rfl ?_
  refine v_if_ne C (tgt := 14) dX6_bar_6 (by decide) (fun q3 => ?_) (fun q3 => ?_)
  · rw [if_neg q3] at h
    refine v_iload_n C dX6_bar_14 rfl 0 rfl ?_
    refine V.sub (lv' := []) [] rfl ?_
    exact b_X6_bar_15 C _  _ _ _ h
  · rw [if_pos q3] at h
    refine v_ldc C (v := (-900009 : Int32)) con_RX6_112 dX6_bar_9 ?_
    refine v_goto C (tgt := 15) dX6_bar_11 (by decide) ?_
    refine V.sub (lv' := []) [] rfl ?_
    exact b_X6_bar_15 C _  _ _ _ h
theorem dX6_barred_0 : decode cX6_barred 0 = .ok (.aload_n 0, 1) := by decide +kernel
theorem dX6_barred_1 : decode cX6_barred 1 = .ok (.invokevirtual 235, 3) := by decide +kernel
theorem dX6_barred_4 : decode cX6_barred 4 = .ok (.istore_n 2, 1) := by decide +kernel
theorem dX6_barred_5 : decode cX6_barred 5 = .ok (.iload_n 1, 1) := by decide +kernel
theorem dX6_barred_6 : decode cX6_barred 6 = .ok (.istore_n 3, 1) := by decide +kernel
theorem dX6_barred_7 : decode cX6_barred 7 = .ok (.iconst 0, 1) := by decide +kernel
theorem dX6_barred_8 : decode cX6_barred 8 = .ok (.istore 4, 2) := by decide +kernel
theorem dX6_barred_10 : decode cX6_barred 10 = .ok (.iload 4, 2) := by decide +kernel
theorem dX6_barred_12 : decode cX6_barred 12 = .ok (.aload_n 0, 1) := by decide +kernel
theorem dX6_barred_13 : decode cX6_barred 13 = .ok (.invokevirtual 80, 3) := by decide +kernel
theorem dX6_barred_16 : decode cX6_barred 16 = .ok (.if_icmp .ge 37, 3) := by decide +kernel
theorem dX6_barred_19 : decode cX6_barred 19 = .ok (.iload_n 2, 1) := by decide +kernel
theorem dX6_barred_20 : decode cX6_barred 20 = .ok (.ifCond .le 33, 3) := by decide +kernel
theorem dX6_barred_23 : decode cX6_barred 23 = .ok (.iload_n 1, 1) := by decide +kernel
theorem dX6_barred_24 : decode cX6_barred 24 = .ok (.ifCond .lt 29, 3) := by decide +kernel
theorem dX6_barred_27 : decode cX6_barred 27 = .ok (.aload_n 0, 1) := by decide +kernel
theorem dX6_barred_28 : decode cX6_barred 28 = .ok (.getfield 57, 3) := by decide +kernel
theorem dX6_barred_31 : decode cX6_barred 31 = .ok (.iload 4, 2) := by decide +kernel
theorem dX6_barred_33 : decode cX6_barred 33 = .ok (.baload, 1) := by decide +kernel
theorem dX6_barred_34 : decode cX6_barred 34 = .ok (.ifCond .eq 13, 3) := by decide +kernel
theorem dX6_barred_37 : decode cX6_barred 37 = .ok (.iload_n 3, 1) := by decide +kernel
theorem dX6_barred_38 : decode cX6_barred 38 = .ok (.ifCond .ne 6, 3) := by decide +kernel
theorem dX6_barred_41 : decode cX6_barred 41 = .ok (.iload 4, 2) := by decide +kernel
theorem dX6_barred_43 : decode cX6_barred 43 = .ok (.ireturn, 1) := by decide +kernel
theorem dX6_barred_44 : decode cX6_barred 44 = .ok (.iinc 3 (-1), 3) := by decide +kernel
theorem dX6_barred_47 : decode cX6_barred 47 = .ok (.iinc 4 1, 3) := by decide +kernel
theorem dX6_barred_50 : decode cX6_barred 50 = .ok (.goto (-40), 3) := by decide +kernel
theorem dX6_barred_53 : decode cX6_barred 53 = .ok (.ldc 112, 2) := by decide +kernel
theorem dX6_barred_55 : decode cX6_barred 55 = .ok (.ireturn, 1) := by decide +kernel
def f_X6_barred_53 (σ : St) : Option (Int32 × St) :=
  some ((-900009 : Int32), σ)
set_option maxRecDepth 100000 in
set_option maxHeartbeats 4000000 in
theorem b_X6_barred_53 {g : Geo} {x : Cx} (C : Ok g x cX6_barred RX6 5 (some .int) rm_X6_barred) : ∀ (σ : St) (r : Int32) (σ' : St), f_X6_barred_53 σ = some (r, σ') → V g x (qm g x (some (.int r)) σ') 5 σ [] [] 53 := by
  intro σ r σ' h
  unfold f_X6_barred_53 at h
  refine v_ldc C (v := (-900009 : Int32)) con_RX6_112 dX6_barred_53 ?_
  cases h
  exact v_iret C dX6_barred_55
def f_X6_barred_47 (k10 : Int32 → Int32 → Int32 → Int32 → St → Option (Int32 × St)) (x1 : Int32) (x2 : Int32) (x3 : Int32) (x4 : Int32) (σ : St) : Option (Int32 × St) :=
  k10 x1 x2 x3 (x4 + 1) σ
set_option maxRecDepth 100000 in
set_option maxHeartbeats 4000000 in
theorem b_X6_barred_47 {g : Geo} {x : Cx} (C : Ok g x cX6_barred RX6 5 (some .int) rm_X6_barred) (k10 : Int32 → Int32 → Int32 → Int32 → St → Option (Int32 × St)) (hk10 : ∀ (x1 : Int32) (x2 : Int32) (x3 : Int32) (x4 : Int32) (τ : St) (r : Int32) (τ' : St), k10 x1 x2 x3 x4 τ = some (r, τ') → V g x (qm g x (some (.int r)) τ') 5 τ [(0, .ref (g.1 26)), (1, .int x1), (2, .int x2), (3, .int x3), (4, .int x4)] [] 10) : ∀ (x1 : Int32) (x2 : Int32) (x3 : Int32) (x4 : Int32) (σ : St) (r : Int32) (σ' : St), f_X6_barred_47 k10 x1 x2 x3 x4 σ = some (r, σ') → V g x (qm g x (some (.int r)) σ') 5 σ [(0, .ref (g.1 26)), (1, .int x1), (2, .int x2), (3, .int x3), (4, .int x4)] [] 47 := by
  intro x1 x2 x3 x4 σ r σ' h
  unfold f_X6_barred_47 at h
  refine v_iinc C (v := (x4 + 1)) (lv' := [(4, .int _), (0, .ref _), (1, .int _), (2, .int _), (3, .int _)]) dX6_barred_47 4 rfl rfl (by decide) rfl ?_
  refine v_goto C (tgt := 10) dX6_barred_50 (by decide) ?_
  refine V.sub (lv' := [(0, .ref _), (1, .int _), (2, .int _), (3, .int _), (4, .int _)]) [1, 2, 3, 4, 0] rfl ?_
  exact hk10 _ _ _ _  _ _ _ h
def f_X6_barred_10 : Nat → Int32 → Int32 → Int32 → Int32 → St → Option (Int32 × St)
  | 0, _, _, _, _, _ => none
  | n + 1, x1, x2, x3, x4, σ =>
    bd (f_X6_cells σ) fun v1 σ2 =>
    if v1 ≤ x4 then
      f_X6_barred_53 σ2
    else
      if x2 ≤ 0 then
        f_X6_barred_53 σ2
      else
        if x1 < 0 then
          f_X6_barred_53 σ2
        else
          rdI σ2 42 x4 fun v3 =>
          if v3 = 0 then
            f_X6_barred_47 (f_X6_barred_10 n) x1 x2 x3 x4 σ2
          else
            if x3 = 0 then
              some (x4, σ2)
            else
              f_X6_barred_47 (f_X6_barred_10 n) x1 x2 (x3 + (-1)) x4 σ2
set_option maxRecDepth 100000 in
set_option maxHeartbeats 4000000 in
theorem b_X6_barred_10 {g : Geo} {x : Cx} (C : Ok g x cX6_barred RX6 5 (some .int) rm_X6_barred) : ∀ (n : Nat) (x1 : Int32) (x2 : Int32) (x3 : Int32) (x4 : Int32) (σ : St) (r : Int32) (σ' : St), f_X6_barred_10 n x1 x2 x3 x4 σ = some (r, σ') → V g x (qm g x (some (.int r)) σ') 5 σ [(0, .ref (g.1 26)), (1, .int x1), (2, .int x2), (3, .int x3), (4, .int x4)] [] 10 := by
  intro n
  induction n with
  | zero =>
    intro x1 x2 x3 x4 σ r σ' h
    rw [f_X6_barred_10] at h
    cases h
  | succ n ih =>
    intro x1 x2 x3 x4 σ r σ' h
    rw [f_X6_barred_10] at h
    refine v_iload C dX6_barred_10 4 rfl ?_
    refine v_aload_n C dX6_barred_12 rfl 0 rfl ?_
    obtain ⟨v1, σ2, cσ2, h⟩ := bd_some h
    refine callVi C (c_X6_cells cσ2) km_X6_cells kv_X6_cells rfl ml_RX6_80 rfl rfl (by decide) (Nat.le_of_ble_eq_true rfl) dX6_barred_13 ?_
    refine v_icmp_ge C (tgt := 53) dX6_barred_16 (by decide) (fun q8 => ?_) (fun q8 => ?_)
    · rw [if_pos q8] at h
      refine V.sub (lv' := []) [] rfl ?_
      exact b_X6_barred_53 C  _ _ _ h
    · rw [if_neg q8] at h
      refine v_iload_n C dX6_barred_19 rfl 2 rfl ?_
      refine v_if_le C (tgt := 53) dX6_barred_20 (by decide) (fun q7 => ?_) (fun q7 => ?_)
      · rw [if_pos q7] at h
        refine V.sub (lv' := []) [] rfl ?_
        exact b_X6_barred_53 C  _ _ _ h
      · rw [if_neg q7] at h
        refine v_iload_n C dX6_barred_23 rfl 1 rfl ?_
        refine v_if_lt C (tgt := 53) dX6_barred_24 (by decide) (fun q6 => ?_) (fun q6 => ?_)
        · rw [if_pos q6] at h
          refine V.sub (lv' := []) [] rfl ?_
          exact b_X6_barred_53 C  _ _ _ h
        · rw [if_neg q6] at h
          refine v_aload_n C dX6_barred_27 rfl 0 rfl ?_
          refine v_getR C (p' := 42) fl_RX6_57 rfl rfl dX6_barred_28 ?_
          refine v_iload C dX6_barred_31 4 rfl ?_
          obtain ⟨nv3, v3, ev3, h⟩ := rdI_ex h
          refine x_zald C rfl nv3 ev3 dX6_barred_33 ?_
          refine v_if_eq C (tgt := 47) dX6_barred_34 (by decide) (fun q5 => ?_) (fun q5 => ?_)
          · rw [if_pos q5] at h
            refine V.sub (lv' := [(0, .ref _), (1, .int _), (2, .int _), (3, .int _), (4, .int _)]) [0, 1, 2, 3, 4] rfl ?_
            exact b_X6_barred_47 C _ ih _ _ _ _  _ _ _ h
          · rw [if_neg q5] at h
            refine v_iload_n C dX6_barred_37 rfl 3 rfl ?_
            refine v_if_ne C (tgt := 44) dX6_barred_38 (by decide) (fun q4 => ?_) (fun q4 => ?_)
            · rw [if_neg q4] at h
              refine v_iinc C (v := (x3 + (-1))) (lv' := [(3, .int _), (0, .ref _), (1, .int _), (2, .int _), (4, .int _)]) dX6_barred_44 3 rfl rfl (by decide) rfl ?_
              refine V.sub (lv' := [(0, .ref _), (1, .int _), (2, .int _), (3, .int _), (4, .int _)]) [1, 2, 3, 0, 4] rfl ?_
              exact b_X6_barred_47 C _ ih _ _ _ _  _ _ _ h
            · rw [if_pos q4] at h
              refine v_iload C dX6_barred_41 4 rfl ?_
              cases h
              exact v_iret C dX6_barred_43
def f_X6_barred (a1 : Int32) (σ : St) : Option (Int32 × St) :=
  bd (f_X6_layBar σ) fun v1 σ2 =>
  f_X6_barred_10 FU a1 v1 a1 (0 : Int32) σ2
set_option maxRecDepth 100000 in
set_option maxHeartbeats 4000000 in
theorem c_X6_barred {g : Geo} {a1 : Int32} {σ : St} {r : Int32} {σ' : St} (h : f_X6_barred a1 σ = some (r, σ')) : Ct g yX6_barred cX6_barred 5 (some .int) rm_X6_barred [.ref (g.1 26), .int a1] σ (some (.int r)) σ' := by
  refine ct_of (own := RX6) (by decide) rfl (Nat.le_of_ble_eq_true rfl) (fun x C => ?_) ⟨rfl, rfl⟩
  show V g x _ 5 σ [(0, .ref (g.1 26)), (1, .int a1)] [] 0
  unfold f_X6_barred at h
  refine v_aload_n C dX6_barred_0 rfl 0 rfl ?_
  obtain ⟨v1, σ2, cσ2, h⟩ := bd_some h
  refine callVi C (c_X6_layBar cσ2) km_X6_layBar kv_X6_layBar rfl ml_RX6_235 rfl rfl (by decide) (Nat.le_of_ble_eq_true rfl) dX6_barred_1 ?_
  refine v_istore_n C (lv' := [(2, .int _), (0, .ref _), (1, .int _)]) dX6_barred_4 rfl (by decide) rfl ?_
  refine v_iload_n C dX6_barred_5 rfl 2 rfl ?_
  refine v_istore_n C (lv' := [(3, .int _), (2, .int _), (0, .ref _), (1, .int _)]) dX6_barred_6 rfl (by decide) rfl ?_
  refine v_iconst C (v := (0 : Int32)) dX6_barred_7 (by decide) ?_
  refine v_istore C (lv' := [(4, .int _), (3, .int _), (2, .int _), (0, .ref _), (1, .int _)]) dX6_barred_8 (by decide) rfl ?_
  refine V.sub (lv' := [(0, .ref _), (1, .int _), (2, .int _), (3, .int _), (4, .int _)]) [3, 4, 2, 1, 0] rfl ?_
  exact b_X6_barred_10 C FU _ _ _ _  _ _ _ h
