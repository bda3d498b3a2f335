/-! ===== printed: X3_waysThrough, X3_kindSet, X3_worthBy, X3_rank, X3_onwardBy, X3_step, X3_walkTo, X3_isBest, X3_walkDearest, X3_waysAhead, X4_forget, X4_toEnd, X4_sinkTallied, X4_between, X4_firstBranch, X4_countFrom, X4_family, X5_forgetWeights ===== -/
theorem dX3_waysThrough_0 : decode cX3_waysThrough 0 = .ok (.aload_n 1, 1) := by decide +kernel
theorem dX3_waysThrough_1 : decode cX3_waysThrough 1 = .ok (.getfield 71, 3) := by decide +kernel
theorem dX3_waysThrough_4 : decode cX3_waysThrough 4 = .ok (.iload_n 2, 1) := by decide +kernel
theorem dX3_waysThrough_5 : decode cX3_waysThrough 5 = .ok (.lushr, 1) := by decide +kernel
theorem dX3_waysThrough_6 : decode cX3_waysThrough 6 = .ok (.lconst 1, 1) := by decide +kernel
theorem dX3_waysThrough_7 : decode cX3_waysThrough 7 = .ok (.land, 1) := by decide +kernel
theorem dX3_waysThrough_8 : decode cX3_waysThrough 8 = .ok (.lconst 0, 1) := by decide +kernel
theorem dX3_waysThrough_9 : decode cX3_waysThrough 9 = .ok (.lcmp, 1) := by decide +kernel
theorem dX3_waysThrough_10 : decode cX3_waysThrough 10 = .ok (.ifCond .ne 5, 3) := by decide +kernel
theorem dX3_waysThrough_13 : decode cX3_waysThrough 13 = .ok (.lconst 0, 1) := by decide +kernel
theorem dX3_waysThrough_14 : decode cX3_waysThrough 14 = .ok (.lreturn, 1) := by decide +kernel
theorem dX3_waysThrough_15 : decode cX3_waysThrough 15 = .ok (.lconst 0, 1) := by decide +kernel
theorem dX3_waysThrough_16 : decode cX3_waysThrough 16 = .ok (.lstore 4, 2) := by decide +kernel
theorem dX3_waysThrough_18 : decode cX3_waysThrough 18 = .ok (.aload_n 0, 1) := by decide +kernel
theorem dX3_waysThrough_19 : decode cX3_waysThrough 19 = .ok (.getfield 9, 3) := by decide +kernel
theorem dX3_waysThrough_22 : decode cX3_waysThrough 22 = .ok (.iload_n 2, 1) := by decide +kernel
theorem dX3_waysThrough_23 : decode cX3_waysThrough 23 = .ok (.iaload, 1) := by decide +kernel
theorem dX3_waysThrough_24 : decode cX3_waysThrough 24 = .ok (.istore 6, 2) := by decide +kernel
theorem dX3_waysThrough_26 : decode cX3_waysThrough 26 = .ok (.iload 6, 2) := by decide +kernel
theorem dX3_waysThrough_28 : decode cX3_waysThrough 28 = .ok (.aload_n 0, 1) := by decide +kernel
theorem dX3_waysThrough_29 : decode cX3_waysThrough 29 = .ok (.getfield 9, 3) := by decide +kernel
theorem dX3_waysThrough_32 : decode cX3_waysThrough 32 = .ok (.iload_n 2, 1) := by decide +kernel
theorem dX3_waysThrough_33 : decode cX3_waysThrough 33 = .ok (.iconst 1, 1) := by decide +kernel
theorem dX3_waysThrough_34 : decode cX3_waysThrough 34 = .ok (.iadd, 1) := by decide +kernel
theorem dX3_waysThrough_35 : decode cX3_waysThrough 35 = .ok (.iaload, 1) := by decide +kernel
theorem dX3_waysThrough_36 : decode cX3_waysThrough 36 = .ok (.if_icmp .ge 47, 3) := by decide +kernel
theorem dX3_waysThrough_39 : decode cX3_waysThrough 39 = .ok (.aload_n 0, 1) := by decide +kernel
theorem dX3_waysThrough_40 : decode cX3_waysThrough 40 = .ok (.getfield 18, 3) := by decide +kernel
theorem dX3_waysThrough_43 : decode cX3_waysThrough 43 = .ok (.iload 6, 2) := by decide +kernel
theorem dX3_waysThrough_45 : decode cX3_waysThrough 45 = .ok (.iconst 3, 1) := by decide +kernel
theorem dX3_waysThrough_46 : decode cX3_waysThrough 46 = .ok (.imul, 1) := by decide +kernel
theorem dX3_waysThrough_47 : decode cX3_waysThrough 47 = .ok (.iload_n 3, 1) := by decide +kernel
theorem dX3_waysThrough_48 : decode cX3_waysThrough 48 = .ok (.iadd, 1) := by decide +kernel
theorem dX3_waysThrough_49 : decode cX3_waysThrough 49 = .ok (.iaload, 1) := by decide +kernel
theorem dX3_waysThrough_50 : decode cX3_waysThrough 50 = .ok (.istore 7, 2) := by decide +kernel
theorem dX3_waysThrough_52 : decode cX3_waysThrough 52 = .ok (.iload 7, 2) := by decide +kernel
theorem dX3_waysThrough_54 : decode cX3_waysThrough 54 = .ok (.ifCond .lt 23, 3) := by decide +kernel
theorem dX3_waysThrough_57 : decode cX3_waysThrough 57 = .ok (.lload 4, 2) := by decide +kernel
theorem dX3_waysThrough_59 : decode cX3_waysThrough 59 = .ok (.aload_n 0, 1) := by decide +kernel
theorem dX3_waysThrough_60 : decode cX3_waysThrough 60 = .ok (.getfield 25, 3) := by decide +kernel
theorem dX3_waysThrough_63 : decode cX3_waysThrough 63 = .ok (.iload 6, 2) := by decide +kernel
theorem dX3_waysThrough_65 : decode cX3_waysThrough 65 = .ok (.laload, 1) := by decide +kernel
theorem dX3_waysThrough_66 : decode cX3_waysThrough 66 = .ok (.aload_n 0, 1) := by decide +kernel
theorem dX3_waysThrough_67 : decode cX3_waysThrough 67 = .ok (.getfield 21, 3) := by decide +kernel
theorem dX3_waysThrough_70 : decode cX3_waysThrough 70 = .ok (.iload 7, 2) := by decide +kernel
theorem dX3_waysThrough_72 : decode cX3_waysThrough 72 = .ok (.laload, 1) := by decide +kernel
theorem dX3_waysThrough_73 : decode cX3_waysThrough 73 = .ok (.lmul, 1) := by decide +kernel
theorem dX3_waysThrough_74 : decode cX3_waysThrough 74 = .ok (.ladd, 1) := by decide +kernel
theorem dX3_waysThrough_75 : decode cX3_waysThrough 75 = .ok (.lstore 4, 2) := by decide +kernel
theorem dX3_waysThrough_77 : decode cX3_waysThrough 77 = .ok (.iinc 6 1, 3) := by decide +kernel
theorem dX3_waysThrough_80 : decode cX3_waysThrough 80 = .ok (.goto (-54), 3) := by decide +kernel
theorem dX3_waysThrough_83 : decode cX3_waysThrough 83 = .ok (.lload 4, 2) := by decide +kernel
theorem dX3_waysThrough_85 : decode cX3_waysThrough 85 = .ok (.lreturn, 1) := by decide +kernel
def f_X3_waysThrough_77 (k26 : Int32 → Int32 → Int64 → Int32 → St → Option (Int64 × St)) (x2 : Int32) (x3 : Int32) (x4 : Int64) (x6 : Int32) (σ : St) : Option (Int64 × St) :=
  k26 x2 x3 x4 (x6 + 1) σ
set_option maxRecDepth 100000 in
set_option maxHeartbeats 4000000 in
theorem b_X3_waysThrough_77 {g : Geo} {x : Cx} (C : Ok g x cX3_waysThrough RX3 8 (some .long) rm_X3_waysThrough) (k26 : Int32 → Int32 → Int64 → Int32 → St → Option (Int64 × St)) (hk26 : ∀ (x2 : Int32) (x3 : Int32) (x4 : Int64) (x6 : Int32) (τ : St) (r : Int64) (τ' : St), k26 x2 x3 x4 x6 τ = some (r, τ') → V g x (qm g x (some (.long r)) τ') 8 τ [(0, .ref (g.1 2)), (2, .int x2), (3, .int x3), (4, .long x4), (6, .int x6)] [] 26) : ∀ (x2 : Int32) (x3 : Int32) (x4 : Int64) (x6 : Int32) (σ : St) (r : Int64) (σ' : St), f_X3_waysThrough_77 k26 x2 x3 x4 x6 σ = some (r, σ') → V g x (qm g x (some (.long r)) σ') 8 σ [(0, .ref (g.1 2)), (2, .int x2), (3, .int x3), (4, .long x4), (6, .int x6)] [] 77 := by
  intro x2 x3 x4 x6 σ r σ' h
  unfold f_X3_waysThrough_77 at h
  refine v_iinc C (v := (x6 + 1)) (lv' := [(6, .int _), (0, .ref _), (2, .int _), (3, .int _), (4, .long _)]) dX3_waysThrough_77 4 rfl rfl (by decide) rfl ?_
  refine v_goto C (tgt := 26) dX3_waysThrough_80 (by decide) ?_
  refine V.sub (lv' := [(0, .ref _), (2, .int _), (3, .int _), (4, .long _), (6, .int _)]) [1, 2, 3, 4, 0] rfl ?_
  exact hk26 _ _ _ _  _ _ _ h
def f_X3_waysThrough_26 : Nat → Int32 → Int32 → Int64 → Int32 → St → Option (Int64 × St)
  | 0, _, _, _, _, _ => none
  | n + 1, x2, x3, x4, x6, σ =>
    rdI σ 17 (x2 + (1 : Int32)) fun v1 =>
    if v1 ≤ x6 then
      some (x4, σ)
    else
      rdI σ 19 ((x6 * (3 : Int32)) + x3) fun v2 =>
      if v2 < 0 then
        f_X3_waysThrough_77 (f_X3_waysThrough_26 n) x2 x3 x4 x6 σ
      else
        rdL σ 21 x6 fun v3 =>
        rdL σ 20 v2 fun v4 =>
        f_X3_waysThrough_77 (f_X3_waysThrough_26 n) x2 x3 (x4 + (v3 * v4)) x6 σ
set_option maxRecDepth 100000 in
set_option maxHeartbeats 4000000 in
theorem b_X3_waysThrough_26 {g : Geo} {x : Cx} (C : Ok g x cX3_waysThrough RX3 8 (some .long) rm_X3_waysThrough) : ∀ (n : Nat) (x2 : Int32) (x3 : Int32) (x4 : Int64) (x6 : Int32) (σ : St) (r : Int64) (σ' : St), f_X3_waysThrough_26 n x2 x3 x4 x6 σ = some (r, σ') → V g x (qm g x (some (.long r)) σ') 8 σ [(0, .ref (g.1 2)), (2, .int x2), (3, .int x3), (4, .long x4), (6, .int x6)] [] 26 := by
  intro n
  induction n with
  | zero =>
    intro x2 x3 x4 x6 σ r σ' h
    rw [f_X3_waysThrough_26] at h
    cases h
  | succ n ih =>
    intro x2 x3 x4 x6 σ r σ' h
    rw [f_X3_waysThrough_26] at h
    refine v_iload C dX3_waysThrough_26 4 rfl ?_
    refine v_aload_n C dX3_waysThrough_28 rfl 0 rfl ?_
    refine v_getR C (p' := 17) fl_RX3_9 rfl rfl dX3_waysThrough_29 ?_
    refine v_iload_n C dX3_waysThrough_32 rfl 1 rfl ?_
    refine v_iconst C (v := (1 : Int32)) dX3_waysThrough_33 (by decide) ?_
    refine v_iadd C dX3_waysThrough_34 ?_
    obtain ⟨nv1, v1, ev1, h⟩ := rdI_ex h
    refine x_iald C rfl nv1 ev1 dX3_waysThrough_35 ?_
    refine v_icmp_ge C (tgt := 83) dX3_waysThrough_36 (by decide) (fun q6 => ?_) (fun q6 => ?_)
    · rw [if_pos q6] at h
      refine v_lload C dX3_waysThrough_83 3 rfl ?_
      cases h
      exact v_lret C dX3_waysThrough_85
    · rw [if_neg q6] at h
      refine v_aload_n C dX3_waysThrough_39 rfl 0 rfl ?_
      refine v_getR C (p' := 19) fl_RX3_18 rfl rfl dX3_waysThrough_40 ?_
      refine v_iload C dX3_waysThrough_43 4 rfl ?_
      refine v_iconst C (v := (3 : Int32)) dX3_waysThrough_45 (by decide) ?_
      refine v_imul C dX3_waysThrough_46 ?_
      refine v_iload_n C dX3_waysThrough_47 rfl 2 rfl ?_
      refine v_iadd C dX3_waysThrough_48 ?_
      obtain ⟨nv2, v2, ev2, h⟩ := rdI_ex h
      refine x_iald C rfl nv2 ev2 dX3_waysThrough_49 ?_
      refine v_istore C (lv' := [(7, .int _), (0, .ref _), (2, .int _), (3, .int _), (4, .long _), (6, .int _)]) dX3_waysThrough_50 (by decide) rfl ?_
      refine v_iload C dX3_waysThrough_52 0 rfl ?_
      refine v_if_lt C (tgt := 77) dX3_waysThrough_54 (by decide) (fun q5 => ?_) (fun q5 => ?_)
      · rw [if_pos q5] at h
        refine V.sub (lv' := [(0, .ref _), (2, .int _), (3, .int _), (4, .long _), (6, .int _)]) [1, 2, 3, 4, 5] rfl ?_
        exact b_X3_waysThrough_77 C _ ih _ _ _ _  _ _ _ h
      · rw [if_neg q5] at h
        refine v_lload C dX3_waysThrough_57 4 rfl ?_
        refine v_aload_n C dX3_waysThrough_59 rfl 1 rfl ?_
        refine v_getR C (p' := 21) fl_RX3_25 rfl rfl dX3_waysThrough_60 ?_
        refine v_iload C dX3_waysThrough_63 5 rfl ?_
        obtain ⟨nv3, v3, ev3, h⟩ := rdL_ex h
        refine x_lald C rfl nv3 ev3 dX3_waysThrough_65 ?_
        refine v_aload_n C dX3_waysThrough_66 rfl 1 rfl ?_
        refine v_getR C (p' := 20) fl_RX3_21 rfl rfl dX3_waysThrough_67 ?_
        refine v_iload C dX3_waysThrough_70 0 rfl ?_
        obtain ⟨nv4, v4, ev4, h⟩ := rdL_ex h
        refine x_lald C rfl nv4 ev4 dX3_waysThrough_72 ?_
        refine v_lmul C dX3_waysThrough_73 ?_
        refine v_ladd C dX3_waysThrough_74 ?_
        refine v_lstore C (lv' := [(4, .long _), (7, .int _), (0, .ref _), (2, .int _), (3, .int _), (6, .int _)]) dX3_waysThrough_75 (by decide) rfl ?_
        refine V.sub (lv' := [(0, .ref _), (2, .int _), (3, .int _), (4, .long _), (6, .int _)]) [2, 3, 4, 0, 5] rfl ?_
        exact b_X3_waysThrough_77 C _ ih _ _ _ _  _ _ _ h
def f_X3_waysThrough (a2 : Int32) (a3 : Int32) (σ : St) : Option (Int64 × St) :=
  if ((lushr (gl σ 1 3) a2) &&& (1 : Int64)) = (0 : Int64) then
    some ((0 : Int64), σ)
  else
    rdI σ 17 a2 fun v1 =>
    f_X3_waysThrough_26 FU a2 a3 (0 : Int64) v1 σ
set_option maxRecDepth 100000 in
set_option maxHeartbeats 4000000 in
theorem c_X3_waysThrough {g : Geo} {a2 : Int32} {a3 : Int32} {σ : St} {r : Int64} {σ' : St} (h : f_X3_waysThrough a2 a3 σ = some (r, σ')) : Ct g yX3_waysThrough cX3_waysThrough 8 (some .long) rm_X3_waysThrough [.ref (g.1 2), .ref (g.1 1), .int a2, .int a3] σ (some (.long r)) σ' := by
  refine ct_of (own := RX3) (by decide) rfl (Nat.le_of_ble_eq_true rfl) (fun x C => ?_) ⟨rfl, rfl⟩
  show V g x _ 8 σ [(0, .ref (g.1 2)), (1, .ref (g.1 1)), (2, .int a2), (3, .int a3)] [] 0
  unfold f_X3_waysThrough at h
  refine v_aload_n C dX3_waysThrough_0 rfl 1 rfl ?_
  refine v_getL C fl_RX3_71 rfl dX3_waysThrough_1 ?_
  refine v_iload_n C dX3_waysThrough_4 rfl 2 rfl ?_
  refine v_lushr C dX3_waysThrough_5 ?_
  refine v_lconst C (v := (1 : Int64)) dX3_waysThrough_6 (by decide) ?_
  refine v_land C dX3_waysThrough_7 ?_
  refine v_lconst C (v := (0 : Int64)) dX3_waysThrough_8 (by decide) ?_
  refine v_lcmp_ne C (tgt := 15) dX3_waysThrough_9 dX3_waysThrough_10 (by decide) (fun q2 => ?_) (fun q2 => ?_)
  · rw [if_neg q2] at h
    refine v_lconst C (v := (0 : Int64)) dX3_waysThrough_15 (by decide) ?_
    refine v_lstore C (lv' := [(4, .long _), (0, .ref _), (1, .ref _), (2, .int _), (3, .int _)]) dX3_waysThrough_16 (by decide) rfl ?_
    refine v_aload_n C dX3_waysThrough_18 rfl 1 rfl ?_
    refine v_getR C (p' := 17) fl_RX3_9 rfl rfl dX3_waysThrough_19 ?_
    refine v_iload_n C dX3_waysThrough_22 rfl 3 rfl ?_
    obtain ⟨nv1, v1, ev1, h⟩ := rdI_ex h
    refine x_iald C rfl nv1 ev1 dX3_waysThrough_23 ?_
    refine v_istore C (lv' := [(6, .int _), (4, .long _), (0, .ref _), (1, .ref _), (2, .int _), (3, .int _)]) dX3_waysThrough_24 (by decide) rfl ?_
    refine V.sub (lv' := [(0, .ref _), (2, .int _), (3, .int _), (4, .long _), (6, .int _)]) [2, 4, 5, 1, 0] rfl ?_
    exact b_X3_waysThrough_26 C FU _ _ _ _  _ _ _ h
  · rw [if_pos q2] at h
    refine v_lconst C (v := (0 : Int64)) dX3_waysThrough_13 (by decide) ?_
    cases h
    exact v_lret C dX3_waysThrough_14
theorem dX3_kindSet_0 : decode cX3_kindSet 0 = .ok (.iconst 0, 1) := by decide +kernel
theorem dX3_kindSet_1 : decode cX3_kindSet 1 = .ok (.istore_n 3, 1) := by decide +kernel
theorem dX3_kindSet_2 : decode cX3_kindSet 2 = .ok (.iconst 0, 1) := by decide +kernel
theorem dX3_kindSet_3 : decode cX3_kindSet 3 = .ok (.istore 4, 2) := by decide +kernel
theorem dX3_kindSet_5 : decode cX3_kindSet 5 = .ok (.iload 4, 2) := by decide +kernel
theorem dX3_kindSet_7 : decode cX3_kindSet 7 = .ok (.iconst 3, 1) := by decide +kernel
theorem dX3_kindSet_8 : decode cX3_kindSet 8 = .ok (.if_icmp .ge 29, 3) := by decide +kernel
theorem dX3_kindSet_11 : decode cX3_kindSet 11 = .ok (.aload_n 0, 1) := by decide +kernel
theorem dX3_kindSet_12 : decode cX3_kindSet 12 = .ok (.aload_n 1, 1) := by decide +kernel
theorem dX3_kindSet_13 : decode cX3_kindSet 13 = .ok (.iload_n 2, 1) := by decide +kernel
theorem dX3_kindSet_14 : decode cX3_kindSet 14 = .ok (.iload 4, 2) := by decide +kernel
theorem dX3_kindSet_16 : decode cX3_kindSet 16 = .ok (.invokevirtual 77, 3) := by decide +kernel
theorem dX3_kindSet_19 : decode cX3_kindSet 19 = .ok (.lconst 0, 1) := by decide +kernel
theorem dX3_kindSet_20 : decode cX3_kindSet 20 = .ok (.lcmp, 1) := by decide +kernel
theorem dX3_kindSet_21 : decode cX3_kindSet 21 = .ok (.ifCond .eq 10, 3) := by decide +kernel
theorem dX3_kindSet_24 : decode cX3_kindSet 24 = .ok (.iload_n 3, 1) := by decide +kernel
theorem dX3_kindSet_25 : decode cX3_kindSet 25 = .ok (.iconst 1, 1) := by decide +kernel
theorem dX3_kindSet_26 : decode cX3_kindSet 26 = .ok (.iload 4, 2) := by decide +kernel
theorem dX3_kindSet_28 : decode cX3_kindSet 28 = .ok (.ishl, 1) := by decide +kernel
theorem dX3_kindSet_29 : decode cX3_kindSet 29 = .ok (.ior, 1) := by decide +kernel
theorem dX3_kindSet_30 : decode cX3_kindSet 30 = .ok (.istore_n 3, 1) := by decide +kernel
theorem dX3_kindSet_31 : decode cX3_kindSet 31 = .ok (.iinc 4 1, 3) := by decide +kernel
theorem dX3_kindSet_34 : decode cX3_kindSet 34 = .ok (.goto (-29), 3) := by decide +kernel
theorem dX3_kindSet_37 : decode cX3_kindSet 37 = .ok (.iload_n 3, 1) := by decide +kernel
theorem dX3_kindSet_38 : decode cX3_kindSet 38 = .ok (.ireturn, 1) := by decide +kernel
def f_X3_kindSet_31 (k5 : Int32 → Int32 → Int32 → St → Option (Int32 × St)) (x2 : Int32) (x3 : Int32) (x4 : Int32) (σ : St) : Option (Int32 × St) :=
  k5 x2 x3 (x4 + 1) σ
set_option maxRecDepth 100000 in
set_option maxHeartbeats 4000000 in
theorem b_X3_kindSet_31 {g : Geo} {x : Cx} (C : Ok g x cX3_kindSet RX3 5 (some .int) rm_X3_kindSet) (k5 : Int32 → Int32 → Int32 → St → Option (Int32 × St)) (hk5 : ∀ (x2 : Int32) (x3 : Int32) (x4 : Int32) (τ : St) (r : Int32) (τ' : St), k5 x2 x3 x4 τ = some (r, τ') → V g x (qm g x (some (.int r)) τ') 5 τ [(0, .ref (g.1 2)), (1, .ref (g.1 1)), (2, .int x2), (3, .int x3), (4, .int x4)] [] 5) : ∀ (x2 : Int32) (x3 : Int32) (x4 : Int32) (σ : St) (r : Int32) (σ' : St), f_X3_kindSet_31 k5 x2 x3 x4 σ = some (r, σ') → V g x (qm g x (some (.int r)) σ') 5 σ [(0, .ref (g.1 2)), (1, .ref (g.1 1)), (2, .int x2), (3, .int x3), (4, .int x4)] [] 31 := by
  intro x2 x3 x4 σ r σ' h
  unfold f_X3_kindSet_31 at h
  refine v_iinc C (v := (x4 + 1)) (lv' := [(4, .int _), (0, .ref _), (1, .ref _), (2, .int _), (3, .int _)]) dX3_kindSet_31 4 rfl rfl (by decide) rfl ?_
  refine v_goto C (tgt := 5) dX3_kindSet_34 (by decide) ?_
  refine V.sub (lv' := [(0, .ref _), (1, .ref _), (2, .int _), (3, .int _), (4, .int _)]) [1, 2, 3, 4, 0] rfl ?_
  exact hk5 _ _ _  _ _ _ h
def f_X3_kindSet_5 : Nat → Int32 → Int32 → Int32 → St → Option (Int32 × St)
  | 0, _, _, _, _ => none
  | n + 1, x2, x3, x4, σ =>
    if (3 : Int32) ≤ x4 then
      some (x3, σ)
    else
      bd (f_X3_waysThrough x2 x4 σ) fun v1 σ2 =>
      if v1 = (0 : Int64) then
        f_X3_kindSet_31 (f_X3_kindSet_5 n) x2 x3 x4 σ2
      else
        f_X3_kindSet_31 (f_X3_kindSet_5 n) x2 (x3 ||| (jshl (1 : Int32) x4)) x4 σ2
set_option maxRecDepth 100000 in
set_option maxHeartbeats 4000000 in
theorem b_X3_kindSet_5 {g : Geo} {x : Cx} (C : Ok g x cX3_kindSet RX3 5 (some .int) rm_X3_kindSet) : ∀ (n : Nat) (x2 : Int32) (x3 : Int32) (x4 : Int32) (σ : St) (r : Int32) (σ' : St), f_X3_kindSet_5 n x2 x3 x4 σ = some (r, σ') → V g x (qm g x (some (.int r)) σ') 5 σ [(0, .ref (g.1 2)), (1, .ref (g.1 1)), (2, .int x2), (3, .int x3), (4, .int x4)] [] 5 := by
  intro n
  induction n with
  | zero =>
    intro x2 x3 x4 σ r σ' h
    rw [f_X3_kindSet_5] at h
    cases h
  | succ n ih =>
    intro x2 x3 x4 σ r σ' h
    rw [f_X3_kindSet_5] at h
    refine v_iload C dX3_kindSet_5 4 rfl ?_
    refine v_iconst C (v := (3 : Int32)) dX3_kindSet_7 (by decide) ?_
    refine v_icmp_ge C (tgt := 37) dX3_kindSet_8 (by decide) (fun q4 => ?_) (fun q4 => ?_)
    · rw [if_pos q4] at h
      refine v_iload_n C dX3_kindSet_37 rfl 3 rfl ?_
      cases h
      exact v_iret C dX3_kindSet_38
    · rw [if_neg q4] at h
      refine v_aload_n C dX3_kindSet_11 rfl 0 rfl ?_
      refine v_aload_n C dX3_kindSet_12 rfl 1 rfl ?_
      refine v_iload_n C dX3_kindSet_13 rfl 2 rfl ?_
      refine v_iload C dX3_kindSet_14 4 rfl ?_
      obtain ⟨v1, σ2, cσ2, h⟩ := bd_some h
      refine callVl C (c_X3_waysThrough cσ2) km_X3_waysThrough kv_X3_waysThrough rfl ml_RX3_77 rfl rfl (by decide) (Nat.le_of_ble_eq_true rfl) dX3_kindSet_16 ?_
      refine v_lconst C (v := (0 : Int64)) dX3_kindSet_19 (by decide) ?_
      refine v_lcmp_eq C (tgt := 31) dX3_kindSet_20 dX3_kindSet_21 (by decide) (fun q3 => ?_) (fun q3 => ?_)
      · rw [if_pos q3] at h
        refine V.sub (lv' := [(0, .ref _), (1, .ref _), (2, .int _), (3, .int _), (4, .int _)]) [0, 1, 2, 3, 4] rfl ?_
        exact b_X3_kindSet_31 C _ ih _ _ _  _ _ _ h
      · rw [if_neg q3] at h
        refine v_iload_n C dX3_kindSet_24 rfl 3 rfl ?_
        refine v_iconst C (v := (1 : Int32)) dX3_kindSet_25 (by decide) ?_
        refine v_iload C dX3_kindSet_26 4 rfl ?_
        refine v_ishl C dX3_kindSet_28 ?_
        refine v_ior C dX3_kindSet_29 ?_
        refine v_istore_n C (lv' := [(3, .int _), (0, .ref _), (1, .ref _), (2, .int _), (4, .int _)]) dX3_kindSet_30 rfl (by decide) rfl ?_
        refine V.sub (lv' := [(0, .ref _), (1, .ref _), (2, .int _), (3, .int _), (4, .int _)]) [1, 2, 3, 0, 4] rfl ?_
        exact b_X3_kindSet_31 C _ ih _ _ _  _ _ _ h
def f_X3_kindSet (a2 : Int32) (σ : St) : Option (Int32 × St) :=
  f_X3_kindSet_5 FU a2 (0 : Int32) (0 : Int32) σ
set_option maxRecDepth 100000 in
set_option maxHeartbeats 4000000 in
theorem c_X3_kindSet {g : Geo} {a2 : Int32} {σ : St} {r : Int32} {σ' : St} (h : f_X3_kindSet a2 σ = some (r, σ')) : Ct g yX3_kindSet cX3_kindSet 5 (some .int) rm_X3_kindSet [.ref (g.1 2), .ref (g.1 1), .int a2] σ (some (.int r)) σ' := by
  refine ct_of (own := RX3) (by decide) rfl (Nat.le_of_ble_eq_true rfl) (fun x C => ?_) ⟨rfl, rfl⟩
  show V g x _ 5 σ [(0, .ref (g.1 2)), (1, .ref (g.1 1)), (2, .int a2)] [] 0
  unfold f_X3_kindSet at h
  refine v_iconst C (v := (0 : Int32)) dX3_kindSet_0 (by decide) ?_
  refine v_istore_n C (lv' := [(3, .int _), (0, .ref _), (1, .ref _), (2, .int _)]) dX3_kindSet_1 rfl (by decide) rfl ?_
  refine v_iconst C (v := (0 : Int32)) dX3_kindSet_2 (by decide) ?_
  refine v_istore C (lv' := [(4, .int _), (3, .int _), (0, .ref _), (1, .ref _), (2, .int _)]) dX3_kindSet_3 (by decide) rfl ?_
  refine V.sub (lv' := [(0, .ref _), (1, .ref _), (2, .int _), (3, .int _), (4, .int _)]) [2, 3, 4, 1, 0] rfl ?_
  exact b_X3_kindSet_5 C FU _ _ _  _ _ _ h
theorem dX3_worthBy_0 : decode cX3_worthBy 0 = .ok (.aload_n 1, 1) := by decide +kernel
theorem dX3_worthBy_1 : decode cX3_worthBy 1 = .ok (.getfield 71, 3) := by decide +kernel
theorem dX3_worthBy_4 : decode cX3_worthBy 4 = .ok (.iload_n 3, 1) := by decide +kernel
theorem dX3_worthBy_5 : decode cX3_worthBy 5 = .ok (.lushr, 1) := by decide +kernel
theorem dX3_worthBy_6 : decode cX3_worthBy 6 = .ok (.lconst 1, 1) := by decide +kernel
theorem dX3_worthBy_7 : decode cX3_worthBy 7 = .ok (.land, 1) := by decide +kernel
theorem dX3_worthBy_8 : decode cX3_worthBy 8 = .ok (.lconst 0, 1) := by decide +kernel
theorem dX3_worthBy_9 : decode cX3_worthBy 9 = .ok (.lcmp, 1) := by decide +kernel
theorem dX3_worthBy_10 : decode cX3_worthBy 10 = .ok (.ifCond .ne 7, 3) := by decide +kernel
theorem dX3_worthBy_13 : decode cX3_worthBy 13 = .ok (.iconst 0, 1) := by decide +kernel
theorem dX3_worthBy_14 : decode cX3_worthBy 14 = .ok (.goto 11, 3) := by decide +kernel
theorem dX3_worthBy_17 : decode cX3_worthBy 17 = .ok (.aload_n 2, 1) := by decide +kernel
theorem dX3_worthBy_18 : decode cX3_worthBy 18 = .ok (.iload_n 3, 1) := by decide +kernel
theorem dX3_worthBy_19 : decode cX3_worthBy 19 = .ok (.iconst 3, 1) := by decide +kernel
theorem dX3_worthBy_20 : decode cX3_worthBy 20 = .ok (.imul, 1) := by decide +kernel
theorem dX3_worthBy_21 : decode cX3_worthBy 21 = .ok (.iload 5, 2) := by decide +kernel
theorem dX3_worthBy_23 : decode cX3_worthBy 23 = .ok (.iadd, 1) := by decide +kernel
theorem dX3_worthBy_24 : decode cX3_worthBy 24 = .ok (.iaload, 1) := by decide +kernel
theorem dX3_worthBy_25 : decode cX3_worthBy 25 = .ok (.istore 6, 2) := by decide +kernel
theorem dX3_worthBy_27 : decode cX3_worthBy 27 = .ok (.iload 6, 2) := by decide +kernel
theorem dX3_worthBy_29 : decode cX3_worthBy 29 = .ok (.aload_n 0, 1) := by decide +kernel
theorem dX3_worthBy_30 : decode cX3_worthBy 30 = .ok (.getfield 28, 3) := by decide +kernel
theorem dX3_worthBy_33 : decode cX3_worthBy 33 = .ok (.aload_n 0, 1) := by decide +kernel
theorem dX3_worthBy_34 : decode cX3_worthBy 34 = .ok (.getfield 18, 3) := by decide +kernel
theorem dX3_worthBy_37 : decode cX3_worthBy 37 = .ok (.iload 4, 2) := by decide +kernel
theorem dX3_worthBy_39 : decode cX3_worthBy 39 = .ok (.iconst 3, 1) := by decide +kernel
theorem dX3_worthBy_40 : decode cX3_worthBy 40 = .ok (.imul, 1) := by decide +kernel
theorem dX3_worthBy_41 : decode cX3_worthBy 41 = .ok (.iload 5, 2) := by decide +kernel
theorem dX3_worthBy_43 : decode cX3_worthBy 43 = .ok (.iadd, 1) := by decide +kernel
theorem dX3_worthBy_44 : decode cX3_worthBy 44 = .ok (.iaload, 1) := by decide +kernel
theorem dX3_worthBy_45 : decode cX3_worthBy 45 = .ok (.iaload, 1) := by decide +kernel
theorem dX3_worthBy_46 : decode cX3_worthBy 46 = .ok (.iadd, 1) := by decide +kernel
theorem dX3_worthBy_47 : decode cX3_worthBy 47 = .ok (.ireturn, 1) := by decide +kernel
def f_X3_worthBy_25 (x4 : Int32) (x5 : Int32) (s0 : Int32) (σ : St) : Option (Int32 × St) :=
  rdI σ 19 ((x4 * (3 : Int32)) + x5) fun v1 =>
  rdI σ 22 v1 fun v2 =>
  some ((s0 + v2), σ)
set_option maxRecDepth 100000 in
set_option maxHeartbeats 4000000 in
theorem b_X3_worthBy_25 {g : Geo} {x : Cx} (C : Ok g x cX3_worthBy RX3 7 (some .int) rm_X3_worthBy) : ∀ (x4 : Int32) (x5 : Int32) (s0 : Int32) (σ : St) (r : Int32) (σ' : St), f_X3_worthBy_25 x4 x5 s0 σ = some (r, σ') → V g x (qm g x (some (.int r)) σ') 7 σ [(0, .ref (g.1 2)), (4, .int x4), (5, .int x5)] [.int s0] 25 := by
  intro x4 x5 s0 σ r σ' h
  unfold f_X3_worthBy_25 at h
  refine v_istore C (lv' := [(6, .int _), (0, .ref _), (4, .int _), (5, .int _)]) dX3_worthBy_25 (by decide) rfl ?_
  refine v_iload C dX3_worthBy_27 0 rfl ?_
  refine v_aload_n C dX3_worthBy_29 rfl 1 rfl ?_
  refine v_getR C (p' := 22) fl_RX3_28 rfl rfl dX3_worthBy_30 ?_
  refine v_aload_n C dX3_worthBy_33 rfl 1 rfl ?_
  refine v_getR C (p' := 19) fl_RX3_18 rfl rfl dX3_worthBy_34 ?_
  refine v_iload C dX3_worthBy_37 2 rfl ?_
  refine v_iconst C (v := (3 : Int32)) dX3_worthBy_39 (by decide) ?_
  refine v_imul C dX3_worthBy_40 ?_
  refine v_iload C dX3_worthBy_41 3 rfl ?_
  refine v_iadd C dX3_worthBy_43 ?_
  obtain ⟨nv1, v1, ev1, h⟩ := rdI_ex h
  refine x_iald C rfl nv1 ev1 dX3_worthBy_44 ?_
  obtain ⟨nv2, v2, ev2, h⟩ := rdI_ex h
  refine x_iald C rfl nv2 ev2 dX3_worthBy_45 ?_
  refine v_iadd C dX3_worthBy_46 ?_
  cases h
  exact v_iret C dX3_worthBy_47
def f_X3_worthBy (q2 : Nat) (a3 : Int32) (a4 : Int32) (a5 : Int32) (σ : St) : Option (Int32 × St) :=
  if ((lushr (gl σ 1 3) a3) &&& (1 : Int64)) = (0 : Int64) then
    f_X3_worthBy_25 a4 a5 (0 : Int32) σ
  else
    rdI σ q2 ((a3 * (3 : Int32)) + a5) fun v1 =>
    f_X3_worthBy_25 a4 a5 v1 σ
set_option maxRecDepth 100000 in
set_option maxHeartbeats 4000000 in
theorem c_X3_worthBy {g : Geo} {q2 : Nat} {a3 : Int32} {a4 : Int32} {a5 : Int32} (hq2 : kd q2 = 7) {σ : St} {r : Int32} {σ' : St} (h : f_X3_worthBy q2 a3 a4 a5 σ = some (r, σ')) : Ct g yX3_worthBy cX3_worthBy 7 (some .int) rm_X3_worthBy [.ref (g.1 2), .ref (g.1 1), .ref (g.1 q2), .int a3, .int a4, .int a5] σ (some (.int r)) σ' := by
  refine ct_of (own := RX3) (by decide) rfl (Nat.le_of_ble_eq_true rfl) (fun x C => ?_) ⟨rfl, rfl⟩
  show V g x _ 7 σ [(0, .ref (g.1 2)), (1, .ref (g.1 1)), (2, .ref (g.1 q2)), (3, .int a3), (4, .int a4), (5, .int a5)] [] 0
  unfold f_X3_worthBy at h
  refine v_aload_n C dX3_worthBy_0 rfl 1 rfl ?_
  refine v_getL C fl_RX3_71 rfl dX3_worthBy_1 ?_
  refine v_iload_n C dX3_worthBy_4 rfl 3 rfl ?_
  refine v_lushr C dX3_worthBy_5 ?_
  refine v_lconst C (v := (1 : Int64)) dX3_worthBy_6 (by decide) ?_
  refine v_land C dX3_worthBy_7 ?_
  refine v_lconst C (v := (0 : Int64)) dX3_worthBy_8 (by decide) ?_
  refine v_lcmp_ne C (tgt := 17) dX3_worthBy_9 dX3_worthBy_10 (by decide) (fun q2 => ?_) (fun q2 => ?_)
  · rw [if_neg q2] at h
    refine v_aload_n C dX3_worthBy_17 rfl 2 rfl ?_
    refine v_iload_n C dX3_worthBy_18 rfl 3 rfl ?_
    refine v_iconst C (v := (3 : Int32)) dX3_worthBy_19 (by decide) ?_
    refine v_imul C dX3_worthBy_20 ?_
    refine v_iload C dX3_worthBy_21 5 rfl ?_
    refine v_iadd C dX3_worthBy_23 ?_
    obtain ⟨nv1, v1, ev1, h⟩ := rdI_ex h
    refine x_iald C hq2 nv1 ev1 dX3_worthBy_24 ?_
    refine V.sub (lv' := [(0, .ref _), (4, .int _), (5, .int _)]) [0, 4, 5] rfl ?_
    exact b_X3_worthBy_25 C _ _ _  _ _ _ h
  · rw [if_pos q2] at h
    refine v_iconst C (v := (0 : Int32)) dX3_worthBy_13 (by decide) ?_
    refine v_goto C (tgt := 25) dX3_worthBy_14 (by decide) ?_
    refine V.sub (lv' := [(0, .ref _), (4, .int _), (5, .int _)]) [0, 4, 5] rfl ?_
    exact b_X3_worthBy_25 C _ _ _  _ _ _ h
theorem dX3_rank_0 : decode cX3_rank 0 = .ok (.aload_n 0, 1) := by decide +kernel
theorem dX3_rank_1 : decode cX3_rank 1 = .ok (.getfield 9, 3) := by decide +kernel
theorem dX3_rank_4 : decode cX3_rank 4 = .ok (.aload_n 1, 1) := by decide +kernel
theorem dX3_rank_5 : decode cX3_rank 5 = .ok (.getfield 38, 3) := by decide +kernel
theorem dX3_rank_8 : decode cX3_rank 8 = .ok (.iaload, 1) := by decide +kernel
theorem dX3_rank_9 : decode cX3_rank 9 = .ok (.istore_n 3, 1) := by decide +kernel
theorem dX3_rank_10 : decode cX3_rank 10 = .ok (.iload_n 3, 1) := by decide +kernel
theorem dX3_rank_11 : decode cX3_rank 11 = .ok (.aload_n 0, 1) := by decide +kernel
theorem dX3_rank_12 : decode cX3_rank 12 = .ok (.getfield 34, 3) := by decide +kernel
theorem dX3_rank_15 : decode cX3_rank 15 = .ok (.if_icmp .ge 16, 3) := by decide +kernel
theorem dX3_rank_18 : decode cX3_rank 18 = .ok (.aload_n 0, 1) := by decide +kernel
theorem dX3_rank_19 : decode cX3_rank 19 = .ok (.getfield 28, 3) := by decide +kernel
theorem dX3_rank_22 : decode cX3_rank 22 = .ok (.iload_n 3, 1) := by decide +kernel
theorem dX3_rank_23 : decode cX3_rank 23 = .ok (.iconst 0, 1) := by decide +kernel
theorem dX3_rank_24 : decode cX3_rank 24 = .ok (.iastore, 1) := by decide +kernel
theorem dX3_rank_25 : decode cX3_rank 25 = .ok (.iinc 3 1, 3) := by decide +kernel
theorem dX3_rank_28 : decode cX3_rank 28 = .ok (.goto (-18), 3) := by decide +kernel
theorem dX3_rank_31 : decode cX3_rank 31 = .ok (.aload_n 1, 1) := by decide +kernel
theorem dX3_rank_32 : decode cX3_rank 32 = .ok (.getfield 38, 3) := by decide +kernel
theorem dX3_rank_35 : decode cX3_rank 35 = .ok (.iconst 1, 1) := by decide +kernel
theorem dX3_rank_36 : decode cX3_rank 36 = .ok (.isub, 1) := by decide +kernel
theorem dX3_rank_37 : decode cX3_rank 37 = .ok (.istore_n 3, 1) := by decide +kernel
theorem dX3_rank_38 : decode cX3_rank 38 = .ok (.iload_n 3, 1) := by decide +kernel
theorem dX3_rank_39 : decode cX3_rank 39 = .ok (.ifCond .lt 97, 3) := by decide +kernel
theorem dX3_rank_42 : decode cX3_rank 42 = .ok (.aload_n 0, 1) := by decide +kernel
theorem dX3_rank_43 : decode cX3_rank 43 = .ok (.getfield 9, 3) := by decide +kernel
theorem dX3_rank_46 : decode cX3_rank 46 = .ok (.iload_n 3, 1) := by decide +kernel
theorem dX3_rank_47 : decode cX3_rank 47 = .ok (.iaload, 1) := by decide +kernel
theorem dX3_rank_48 : decode cX3_rank 48 = .ok (.istore 4, 2) := by decide +kernel
theorem dX3_rank_50 : decode cX3_rank 50 = .ok (.iload 4, 2) := by decide +kernel
theorem dX3_rank_52 : decode cX3_rank 52 = .ok (.aload_n 0, 1) := by decide +kernel
theorem dX3_rank_53 : decode cX3_rank 53 = .ok (.getfield 9, 3) := by decide +kernel
theorem dX3_rank_56 : decode cX3_rank 56 = .ok (.iload_n 3, 1) := by decide +kernel
theorem dX3_rank_57 : decode cX3_rank 57 = .ok (.iconst 1, 1) := by decide +kernel
theorem dX3_rank_58 : decode cX3_rank 58 = .ok (.iadd, 1) := by decide +kernel
theorem dX3_rank_59 : decode cX3_rank 59 = .ok (.iaload, 1) := by decide +kernel
theorem dX3_rank_60 : decode cX3_rank 60 = .ok (.if_icmp .ge 70, 3) := by decide +kernel
theorem dX3_rank_63 : decode cX3_rank 63 = .ok (.ldc 83, 2) := by decide +kernel
theorem dX3_rank_65 : decode cX3_rank 65 = .ok (.istore 5, 2) := by decide +kernel
theorem dX3_rank_67 : decode cX3_rank 67 = .ok (.iconst 0, 1) := by decide +kernel
theorem dX3_rank_68 : decode cX3_rank 68 = .ok (.istore 6, 2) := by decide +kernel
theorem dX3_rank_70 : decode cX3_rank 70 = .ok (.iload 6, 2) := by decide +kernel
theorem dX3_rank_72 : decode cX3_rank 72 = .ok (.iconst 3, 1) := by decide +kernel
theorem dX3_rank_73 : decode cX3_rank 73 = .ok (.if_icmp .ge 42, 3) := by decide +kernel
theorem dX3_rank_76 : decode cX3_rank 76 = .ok (.aload_n 0, 1) := by decide +kernel
theorem dX3_rank_77 : decode cX3_rank 77 = .ok (.getfield 18, 3) := by decide +kernel
theorem dX3_rank_80 : decode cX3_rank 80 = .ok (.iload 4, 2) := by decide +kernel
theorem dX3_rank_82 : decode cX3_rank 82 = .ok (.iconst 3, 1) := by decide +kernel
theorem dX3_rank_83 : decode cX3_rank 83 = .ok (.imul, 1) := by decide +kernel
theorem dX3_rank_84 : decode cX3_rank 84 = .ok (.iload 6, 2) := by decide +kernel
theorem dX3_rank_86 : decode cX3_rank 86 = .ok (.iadd, 1) := by decide +kernel
theorem dX3_rank_87 : decode cX3_rank 87 = .ok (.iaload, 1) := by decide +kernel
theorem dX3_rank_88 : decode cX3_rank 88 = .ok (.ifCond .lt 21, 3) := by decide +kernel
theorem dX3_rank_91 : decode cX3_rank 91 = .ok (.iload 5, 2) := by decide +kernel
theorem dX3_rank_93 : decode cX3_rank 93 = .ok (.aload_n 0, 1) := by decide +kernel
theorem dX3_rank_94 : decode cX3_rank 94 = .ok (.aload_n 1, 1) := by decide +kernel
theorem dX3_rank_95 : decode cX3_rank 95 = .ok (.aload_n 2, 1) := by decide +kernel
theorem dX3_rank_96 : decode cX3_rank 96 = .ok (.iload_n 3, 1) := by decide +kernel
theorem dX3_rank_97 : decode cX3_rank 97 = .ok (.iload 4, 2) := by decide +kernel
theorem dX3_rank_99 : decode cX3_rank 99 = .ok (.iload 6, 2) := by decide +kernel
theorem dX3_rank_101 : decode cX3_rank 101 = .ok (.invokevirtual 84, 3) := by decide +kernel
theorem dX3_rank_104 : decode cX3_rank 104 = .ok (.invokestatic 88, 3) := by decide +kernel
theorem dX3_rank_107 : decode cX3_rank 107 = .ok (.istore 5, 2) := by decide +kernel
theorem dX3_rank_109 : decode cX3_rank 109 = .ok (.iinc 6 1, 3) := by decide +kernel
theorem dX3_rank_112 : decode cX3_rank 112 = .ok (.goto (-42), 3) := by decide +kernel
theorem dX3_rank_115 : decode cX3_rank 115 = .ok (.aload_n 0, 1) := by decide +kernel
theorem dX3_rank_116 : decode cX3_rank 116 = .ok (.getfield 28, 3) := by decide +kernel
theorem dX3_rank_119 : decode cX3_rank 119 = .ok (.iload 4, 2) := by decide +kernel
theorem dX3_rank_121 : decode cX3_rank 121 = .ok (.iload 5, 2) := by decide +kernel
theorem dX3_rank_123 : decode cX3_rank 123 = .ok (.iastore, 1) := by decide +kernel
theorem dX3_rank_124 : decode cX3_rank 124 = .ok (.iinc 4 1, 3) := by decide +kernel
theorem dX3_rank_127 : decode cX3_rank 127 = .ok (.goto (-77), 3) := by decide +kernel
theorem dX3_rank_130 : decode cX3_rank 130 = .ok (.iinc 3 (-1), 3) := by decide +kernel
theorem dX3_rank_133 : decode cX3_rank 133 = .ok (.goto (-95), 3) := by decide +kernel
theorem dX3_rank_136 : decode cX3_rank 136 = .ok (.aload_n 0, 1) := by decide +kernel
theorem dX3_rank_137 : decode cX3_rank 137 = .ok (.getfield 28, 3) := by decide +kernel
theorem dX3_rank_140 : decode cX3_rank 140 = .ok (.iconst 0, 1) := by decide +kernel
theorem dX3_rank_141 : decode cX3_rank 141 = .ok (.iaload, 1) := by decide +kernel
theorem dX3_rank_142 : decode cX3_rank 142 = .ok (.ireturn, 1) := by decide +kernel
def f_X3_rank_109 (k70 : Nat → Int32 → Int32 → Int32 → Int32 → St → Option (Int32 × St)) (r2 : Nat) (x3 : Int32) (x4 : Int32) (x5 : Int32) (x6 : Int32) (σ : St) : Option (Int32 × St) :=
  k70 r2 x3 x4 x5 (x6 + 1) σ
set_option maxRecDepth 100000 in
set_option maxHeartbeats 4000000 in
theorem b_X3_rank_109 {g : Geo} {x : Cx} (C : Ok g x cX3_rank RX3 7 (some .int) rm_X3_rank) (k70 : Nat → Int32 → Int32 → Int32 → Int32 → St → Option (Int32 × St)) (hk70 : ∀ (r2 : Nat) (x3 : Int32) (x4 : Int32) (x5 : Int32) (x6 : Int32) (hr2 : kd r2 = 7) (τ : St) (r : Int32) (τ' : St), k70 r2 x3 x4 x5 x6 τ = some (r, τ') → V g x (qm g x (some (.int r)) τ') 7 τ [(0, .ref (g.1 2)), (1, .ref (g.1 1)), (2, .ref (g.1 r2)), (3, .int x3), (4, .int x4), (5, .int x5), (6, .int x6)] [] 70) : ∀ (r2 : Nat) (x3 : Int32) (x4 : Int32) (x5 : Int32) (x6 : Int32) (hr2 : kd r2 = 7) (σ : St) (r : Int32) (σ' : St), f_X3_rank_109 k70 r2 x3 x4 x5 x6 σ = some (r, σ') → V g x (qm g x (some (.int r)) σ') 7 σ [(0, .ref (g.1 2)), (1, .ref (g.1 1)), (2, .ref (g.1 r2)), (3, .int x3), (4, .int x4), (5, .int x5), (6, .int x6)] [] 109 := by
  intro r2 x3 x4 x5 x6 hr2 σ r σ' h
  unfold f_X3_rank_109 at h
  refine v_iinc C (v := (x6 + 1)) (lv' := [(6, .int _), (0, .ref _), (1, .ref _), (2, .ref _), (3, .int _), (4, .int _), (5, .int _)]) dX3_rank_109 6 rfl rfl (by decide) rfl ?_
  refine v_goto C (tgt := 70) dX3_rank_112 (by decide) ?_
  refine V.sub (lv' := [(0, .ref _), (1, .ref _), (2, .ref _), (3, .int _), (4, .int _), (5, .int _), (6, .int _)]) [1, 2, 3, 4, 5, 6, 0] rfl ?_
  exact hk70 _ _ _ _ _ hr2 _ _ _ h
def f_X3_rank_70 (k50 : Nat → Int32 → Int32 → St → Option (Int32 × St)) : Nat → Nat → Int32 → Int32 → Int32 → Int32 → St → Option (Int32 × St)
  | 0, _, _, _, _, _, _ => none
  | n + 1, r2, x3, x4, x5, x6, σ =>
    if (3 : Int32) ≤ x6 then
      wrI σ 22 x4 x5 fun σ1 =>
      k50 r2 x3 (x4 + 1) σ1
    else
      rdI σ 19 ((x4 * (3 : Int32)) + x6) fun v2 =>
      if v2 < 0 then
        f_X3_rank_109 (f_X3_rank_70 k50 n) r2 x3 x4 x5 x6 σ
      else
        bd (f_X3_worthBy r2 x3 x4 x6 σ) fun v3 σ4 =>
        f_X3_rank_109 (f_X3_rank_70 k50 n) r2 x3 x4 (jmax x5 v3) x6 σ4
set_option maxRecDepth 100000 in
set_option maxHeartbeats 4000000 in
theorem b_X3_rank_70 {g : Geo} {x : Cx} (C : Ok g x cX3_rank RX3 7 (some .int) rm_X3_rank) (k50 : Nat → Int32 → Int32 → St → Option (Int32 × St)) (hk50 : ∀ (r2 : Nat) (x3 : Int32) (x4 : Int32) (hr2 : kd r2 = 7) (τ : St) (r : Int32) (τ' : St), k50 r2 x3 x4 τ = some (r, τ') → V g x (qm g x (some (.int r)) τ') 7 τ [(0, .ref (g.1 2)), (1, .ref (g.1 1)), (2, .ref (g.1 r2)), (3, .int x3), (4, .int x4)] [] 50) : ∀ (n : Nat) (r2 : Nat) (x3 : Int32) (x4 : Int32) (x5 : Int32) (x6 : Int32) (hr2 : kd r2 = 7) (σ : St) (r : Int32) (σ' : St), f_X3_rank_70 k50 n r2 x3 x4 x5 x6 σ = some (r, σ') → V g x (qm g x (some (.int r)) σ') 7 σ [(0, .ref (g.1 2)), (1, .ref (g.1 1)), (2, .ref (g.1 r2)), (3, .int x3), (4, .int x4), (5, .int x5), (6, .int x6)] [] 70 := by
  intro n
  induction n with
  | zero =>
    intro r2 x3 x4 x5 x6 hr2 σ r σ' h
    rw [f_X3_rank_70] at h
    cases h
  | succ n ih =>
    intro r2 x3 x4 x5 x6 hr2 σ r σ' h
    rw [f_X3_rank_70] at h
    refine v_iload C dX3_rank_70 6 rfl ?_
    refine v_iconst C (v := (3 : Int32)) dX3_rank_72 (by decide) ?_
    refine v_icmp_ge C (tgt := 115) dX3_rank_73 (by decide) (fun q6 => ?_) (fun q6 => ?_)
    · rw [if_pos q6] at h
      refine v_aload_n C dX3_rank_115 rfl 0 rfl ?_
      refine v_getR C (p' := 22) fl_RX3_28 rfl rfl dX3_rank_116 ?_
      refine v_iload C dX3_rank_119 4 rfl ?_
      refine v_iload C dX3_rank_121 5 rfl ?_
      obtain ⟨nσ1, σ1, eσ1, h⟩ := wrI_ex h
      refine x_iast C rfl nσ1 eσ1 dX3_rank_123 ?_
      refine v_iinc C (v := (x4 + 1)) (lv' := [(4, .int _), (0, .ref _), (1, .ref _), (2, .ref _), (3, .int _), (5, .int _), (6, .int _)]) dX3_rank_124 4 rfl rfl (by decide) rfl ?_
      refine v_goto C (tgt := 50) dX3_rank_127 (by decide) ?_
      refine V.sub (lv' := [(0, .ref _), (1, .ref _), (2, .ref _), (3, .int _), (4, .int _)]) [1, 2, 3, 4, 0] rfl ?_
      exact hk50 _ _ _ hr2 _ _ _ h
    · rw [if_neg q6] at h
      refine v_aload_n C dX3_rank_76 rfl 0 rfl ?_
      refine v_getR C (p' := 19) fl_RX3_18 rfl rfl dX3_rank_77 ?_
      refine v_iload C dX3_rank_80 4 rfl ?_
      refine v_iconst C (v := (3 : Int32)) dX3_rank_82 (by decide) ?_
      refine v_imul C dX3_rank_83 ?_
      refine v_iload C dX3_rank_84 6 rfl ?_
      refine v_iadd C dX3_rank_86 ?_
      obtain ⟨nv2, v2, ev2, h⟩ := rdI_ex h
      refine x_iald C rfl nv2 ev2 dX3_rank_87 ?_
      refine v_if_lt C (tgt := 109) dX3_rank_88 (by decide) (fun q5 => ?_) (fun q5 => ?_)
      · rw [if_pos q5] at h
        refine V.sub (lv' := [(0, .ref _), (1, .ref _), (2, .ref _), (3, .int _), (4, .int _), (5, .int _), (6, .int _)]) [0, 1, 2, 3, 4, 5, 6] rfl ?_
        exact b_X3_rank_109 C _ ih _ _ _ _ _ hr2 _ _ _ h
      · rw [if_neg q5] at h
        refine v_iload C dX3_rank_91 5 rfl ?_
        refine v_aload_n C dX3_rank_93 rfl 0 rfl ?_
        refine v_aload_n C dX3_rank_94 rfl 1 rfl ?_
        refine v_aload_n C dX3_rank_95 rfl 2 rfl ?_
        refine v_iload_n C dX3_rank_96 rfl 3 rfl ?_
        refine v_iload C dX3_rank_97 4 rfl ?_
        refine v_iload C dX3_rank_99 6 rfl ?_
        obtain ⟨v3, σ4, cσ4, h⟩ := bd_some h
        refine callVi C (c_X3_worthBy hr2 cσ4) km_X3_worthBy kv_X3_worthBy rfl ml_RX3_84 rfl rfl (by decide) (Nat.le_of_ble_eq_true rfl) dX3_rank_101 ?_
        refine v_max C kx_RX3_88 (by decide) (Nat.le_of_ble_eq_true rfl) dX3_rank_104 ?_
        refine v_istore C (lv' := [(5, .int _), (0, .ref _), (1, .ref _), (2, .ref _), (3, .int _), (4, .int _), (6, .int _)]) dX3_rank_107 (by decide) rfl ?_
        refine V.sub (lv' := [(0, .ref _), (1, .ref _), (2, .ref _), (3, .int _), (4, .int _), (5, .int _), (6, .int _)]) [1, 2, 3, 4, 5, 0, 6] rfl ?_
        exact b_X3_rank_109 C _ ih _ _ _ _ _ hr2 _ _ _ h
def f_X3_rank_50 (k38 : Nat → Int32 → St → Option (Int32 × St)) : Nat → Nat → Int32 → Int32 → St → Option (Int32 × St)
  | 0, _, _, _, _ => none
  | n + 1, r2, x3, x4, σ =>
    rdI σ 17 (x3 + (1 : Int32)) fun v1 =>
    if v1 ≤ x4 then
      k38 r2 (x3 + (-1)) σ
    else
      f_X3_rank_70 (f_X3_rank_50 k38 n) FU r2 x3 x4 (-2147483648 : Int32) (0 : Int32) σ
set_option maxRecDepth 100000 in
set_option maxHeartbeats 4000000 in
theorem b_X3_rank_50 {g : Geo} {x : Cx} (C : Ok g x cX3_rank RX3 7 (some .int) rm_X3_rank) (k38 : Nat → Int32 → St → Option (Int32 × St)) (hk38 : ∀ (r2 : Nat) (x3 : Int32) (hr2 : kd r2 = 7) (τ : St) (r : Int32) (τ' : St), k38 r2 x3 τ = some (r, τ') → V g x (qm g x (some (.int r)) τ') 7 τ [(0, .ref (g.1 2)), (1, .ref (g.1 1)), (2, .ref (g.1 r2)), (3, .int x3)] [] 38) : ∀ (n : Nat) (r2 : Nat) (x3 : Int32) (x4 : Int32) (hr2 : kd r2 = 7) (σ : St) (r : Int32) (σ' : St), f_X3_rank_50 k38 n r2 x3 x4 σ = some (r, σ') → V g x (qm g x (some (.int r)) σ') 7 σ [(0, .ref (g.1 2)), (1, .ref (g.1 1)), (2, .ref (g.1 r2)), (3, .int x3), (4, .int x4)] [] 50 := by
  intro n
  induction n with
  | zero =>
    intro r2 x3 x4 hr2 σ r σ' h
    rw [f_X3_rank_50] at h
    cases h
  | succ n ih =>
    intro r2 x3 x4 hr2 σ r σ' h
    rw [f_X3_rank_50] at h
    refine v_iload C dX3_rank_50 4 rfl ?_
    refine v_aload_n C dX3_rank_52 rfl 0 rfl ?_
    refine v_getR C (p' := 17) fl_RX3_9 rfl rfl dX3_rank_53 ?_
    refine v_iload_n C dX3_rank_56 rfl 3 rfl ?_
    refine v_iconst C (v := (1 : Int32)) dX3_rank_57 (by decide) ?_
    refine v_iadd C dX3_rank_58 ?_
    obtain ⟨nv1, v1, ev1, h⟩ := rdI_ex h
    refine x_iald C rfl nv1 ev1 dX3_rank_59 ?_
    refine v_icmp_ge C (tgt := 130) dX3_rank_60 (by decide) (fun q2 => ?_) (fun q2 => ?_)
    · rw [if_pos q2] at h
      refine v_iinc C (v := (x3 + (-1))) (lv' := [(3, .int _), (0, .ref _), (1, .ref _), (2, .ref _), (4, .int _)]) dX3_rank_130 3 rfl rfl (by decide) rfl ?_
      refine v_goto C (tgt := 38) dX3_rank_133 (by decide) ?_
      refine V.sub (lv' := [(0, .ref _), (1, .ref _), (2, .ref _), (3, .int _)]) [1, 2, 3, 0] rfl ?_
      exact hk38 _ _ hr2 _ _ _ h
    · rw [if_neg q2] at h
      refine v_ldc C (v := (-2147483648 : Int32)) con_RX3_83 dX3_rank_63 ?_
      refine v_istore C (lv' := [(5, .int _), (0, .ref _), (1, .ref _), (2, .ref _), (3, .int _), (4, .int _)]) dX3_rank_65 (by decide) rfl ?_
      refine v_iconst C (v := (0 : Int32)) dX3_rank_67 (by decide) ?_
      refine v_istore C (lv' := [(6, .int _), (5, .int _), (0, .ref _), (1, .ref _), (2, .ref _), (3, .int _), (4, .int _)]) dX3_rank_68 (by decide) rfl ?_
      refine V.sub (lv' := [(0, .ref _), (1, .ref _), (2, .ref _), (3, .int _), (4, .int _), (5, .int _), (6, .int _)]) [2, 3, 4, 5, 6, 1, 0] rfl ?_
      exact b_X3_rank_70 C _ ih FU _ _ _ _ _ hr2 _ _ _ h
def f_X3_rank_38 : Nat → Nat → Int32 → St → Option (Int32 × St)
  | 0, _, _, _ => none
  | n + 1, r2, x3, σ =>
    if x3 < 0 then
      rdI σ 22 (0 : Int32) fun v1 =>
      some (v1, σ)
    else
      rdI σ 17 x3 fun v2 =>
      f_X3_rank_50 (f_X3_rank_38 n) FU r2 x3 v2 σ
set_option maxRecDepth 100000 in
set_option maxHeartbeats 4000000 in
theorem b_X3_rank_38 {g : Geo} {x : Cx} (C : Ok g x cX3_rank RX3 7 (some .int) rm_X3_rank) : ∀ (n : Nat) (r2 : Nat) (x3 : Int32) (hr2 : kd r2 = 7) (σ : St) (r : Int32) (σ' : St), f_X3_rank_38 n r2 x3 σ = some (r, σ') → V g x (qm g x (some (.int r)) σ') 7 σ [(0, .ref (g.1 2)), (1, .ref (g.1 1)), (2, .ref (g.1 r2)), (3, .int x3)] [] 38 := by
  intro n
  induction n with
  | zero =>
    intro r2 x3 hr2 σ r σ' h
    rw [f_X3_rank_38] at h
    cases h
  | succ n ih =>
    intro r2 x3 hr2 σ r σ' h
    rw [f_X3_rank_38] at h
    refine v_iload_n C dX3_rank_38 rfl 3 rfl ?_
    refine v_if_lt C (tgt := 136) dX3_rank_39 (by decide) (fun q3 => ?_) (fun q3 => ?_)
    · rw [if_pos q3] at h
      refine v_aload_n C dX3_rank_136 rfl 0 rfl ?_
      refine v_getR C (p' := 22) fl_RX3_28 rfl rfl dX3_rank_137 ?_
      refine v_iconst C (v := (0 : Int32)) dX3_rank_140 (by decide) ?_
      obtain ⟨nv1, v1, ev1, h⟩ := rdI_ex h
      refine x_iald C rfl nv1 ev1 dX3_rank_141 ?_
      cases h
      exact v_iret C dX3_rank_142
    · rw [if_neg q3] at h
      refine v_aload_n C dX3_rank_42 rfl 0 rfl ?_
      refine v_getR C (p' := 17) fl_RX3_9 rfl rfl dX3_rank_43 ?_
      refine v_iload_n C dX3_rank_46 rfl 3 rfl ?_
      obtain ⟨nv2, v2, ev2, h⟩ := rdI_ex h
      refine x_iald C rfl nv2 ev2 dX3_rank_47 ?_
      refine v_istore C (lv' := [(4, .int _), (0, .ref _), (1, .ref _), (2, .ref _), (3, .int _)]) dX3_rank_48 (by decide) rfl ?_
      refine V.sub (lv' := [(0, .ref _), (1, .ref _), (2, .ref _), (3, .int _), (4, .int _)]) [1, 2, 3, 4, 0] rfl ?_
      exact b_X3_rank_50 C _ ih FU _ _ _ hr2 _ _ _ h
def f_X3_rank_10 : Nat → Nat → Int32 → St → Option (Int32 × St)
  | 0, _, _, _ => none
  | n + 1, r2, x3, σ =>
    if (gi σ 2 7) ≤ x3 then
      f_X3_rank_38 FU r2 ((gi σ 1 2) - (1 : Int32)) σ
    else
      wrI σ 22 x3 (0 : Int32) fun σ1 =>
      f_X3_rank_10 n r2 (x3 + 1) σ1
set_option maxRecDepth 100000 in
set_option maxHeartbeats 4000000 in
theorem b_X3_rank_10 {g : Geo} {x : Cx} (C : Ok g x cX3_rank RX3 7 (some .int) rm_X3_rank) : ∀ (n : Nat) (r2 : Nat) (x3 : Int32) (hr2 : kd r2 = 7) (σ : St) (r : Int32) (σ' : St), f_X3_rank_10 n r2 x3 σ = some (r, σ') → V g x (qm g x (some (.int r)) σ') 7 σ [(0, .ref (g.1 2)), (1, .ref (g.1 1)), (2, .ref (g.1 r2)), (3, .int x3)] [] 10 := by
  intro n
  induction n with
  | zero =>
    intro r2 x3 hr2 σ r σ' h
    rw [f_X3_rank_10] at h
    cases h
  | succ n ih =>
    intro r2 x3 hr2 σ r σ' h
    rw [f_X3_rank_10] at h
    refine v_iload_n C dX3_rank_10 rfl 3 rfl ?_
    refine v_aload_n C dX3_rank_11 rfl 0 rfl ?_
    refine v_getI C fl_RX3_34 rfl dX3_rank_12 ?_
    refine v_icmp_ge C (tgt := 31) dX3_rank_15 (by decide) (fun q2 => ?_) (fun q2 => ?_)
    · rw [if_pos q2] at h
      refine v_aload_n C dX3_rank_31 rfl 1 rfl ?_
      refine v_getI C fl_RX3_38 rfl dX3_rank_32 ?_
      refine v_iconst C (v := (1 : Int32)) dX3_rank_35 (by decide) ?_
      refine v_isub C dX3_rank_36 ?_
      refine v_istore_n C (lv' := [(3, .int _), (0, .ref _), (1, .ref _), (2, .ref _)]) dX3_rank_37 rfl (by decide) rfl ?_
      refine V.sub (lv' := [(0, .ref _), (1, .ref _), (2, .ref _), (3, .int _)]) [1, 2, 3, 0] rfl ?_
      exact b_X3_rank_38 C FU _ _ hr2 _ _ _ h
    · rw [if_neg q2] at h
      refine v_aload_n C dX3_rank_18 rfl 0 rfl ?_
      refine v_getR C (p' := 22) fl_RX3_28 rfl rfl dX3_rank_19 ?_
      refine v_iload_n C dX3_rank_22 rfl 3 rfl ?_
      refine v_iconst C (v := (0 : Int32)) dX3_rank_23 (by decide) ?_
      obtain ⟨nσ1, σ1, eσ1, h⟩ := wrI_ex h
      refine x_iast C rfl nσ1 eσ1 dX3_rank_24 ?_
      refine v_iinc C (v := (x3 + 1)) (lv' := [(3, .int _), (0, .ref _), (1, .ref _), (2, .ref _)]) dX3_rank_25 3 rfl rfl (by decide) rfl ?_
      refine v_goto C (tgt := 10) dX3_rank_28 (by decide) ?_
      refine V.sub (lv' := [(0, .ref _), (1, .ref _), (2, .ref _), (3, .int _)]) [1, 2, 3, 0] rfl ?_
      exact ih _ _ hr2 _ _ _ h
def f_X3_rank (q2 : Nat) (σ : St) : Option (Int32 × St) :=
  rdI σ 17 (gi σ 1 2) fun v1 =>
  f_X3_rank_10 FU q2 v1 σ
set_option maxRecDepth 100000 in
set_option maxHeartbeats 4000000 in
theorem c_X3_rank {g : Geo} {q2 : Nat} (hq2 : kd q2 = 7) {σ : St} {r : Int32} {σ' : St} (h : f_X3_rank q2 σ = some (r, σ')) : Ct g yX3_rank cX3_rank 7 (some .int) rm_X3_rank [.ref (g.1 2), .ref (g.1 1), .ref (g.1 q2)] σ (some (.int r)) σ' := by
  refine ct_of (own := RX3) (by decide) rfl (Nat.le_of_ble_eq_true rfl) (fun x C => ?_) ⟨rfl, rfl⟩
  show V g x _ 7 σ [(0, .ref (g.1 2)), (1, .ref (g.1 1)), (2, .ref (g.1 q2))] [] 0
  unfold f_X3_rank at h
  refine v_aload_n C dX3_rank_0 rfl 0 rfl ?_
  refine v_getR C (p' := 17) fl_RX3_9 rfl rfl dX3_rank_1 ?_
  refine v_aload_n C dX3_rank_4 rfl 1 rfl ?_
  refine v_getI C fl_RX3_38 rfl dX3_rank_5 ?_
  obtain ⟨nv1, v1, ev1, h⟩ := rdI_ex h
  refine x_iald C rfl nv1 ev1 dX3_rank_8 ?_
  refine v_istore_n C (lv' := [(3, .int _), (0, .ref _), (1, .ref _), (2, .ref _)]) dX3_rank_9 rfl (by decide) rfl ?_
  refine V.sub (lv' := [(0, .ref _), (1, .ref _), (2, .ref _), (3, .int _)]) [1, 2, 3, 0] rfl ?_
  exact b_X3_rank_10 C FU _ _ hq2 _ _ _ h
theorem dX3_onwardBy_0 : decode cX3_onwardBy 0 = .ok (.aload_n 0, 1) := by decide +kernel
theorem dX3_onwardBy_1 : decode cX3_onwardBy 1 = .ok (.getfield 18, 3) := by decide +kernel
theorem dX3_onwardBy_4 : decode cX3_onwardBy 4 = .ok (.iload_n 1, 1) := by decide +kernel
theorem dX3_onwardBy_5 : decode cX3_onwardBy 5 = .ok (.iconst 3, 1) := by decide +kernel
theorem dX3_onwardBy_6 : decode cX3_onwardBy 6 = .ok (.imul, 1) := by decide +kernel
theorem dX3_onwardBy_7 : decode cX3_onwardBy 7 = .ok (.iload_n 2, 1) := by decide +kernel
theorem dX3_onwardBy_8 : decode cX3_onwardBy 8 = .ok (.iadd, 1) := by decide +kernel
theorem dX3_onwardBy_9 : decode cX3_onwardBy 9 = .ok (.iaload, 1) := by decide +kernel
theorem dX3_onwardBy_10 : decode cX3_onwardBy 10 = .ok (.istore_n 3, 1) := by decide +kernel
theorem dX3_onwardBy_11 : decode cX3_onwardBy 11 = .ok (.iload_n 3, 1) := by decide +kernel
theorem dX3_onwardBy_12 : decode cX3_onwardBy 12 = .ok (.ifCond .ge 7, 3) := by decide +kernel
theorem dX3_onwardBy_15 : decode cX3_onwardBy 15 = .ok (.lconst 0, 1) := by decide +kernel
theorem dX3_onwardBy_16 : decode cX3_onwardBy 16 = .ok (.goto 9, 3) := by decide +kernel
theorem dX3_onwardBy_19 : decode cX3_onwardBy 19 = .ok (.aload_n 0, 1) := by decide +kernel
theorem dX3_onwardBy_20 : decode cX3_onwardBy 20 = .ok (.getfield 21, 3) := by decide +kernel
theorem dX3_onwardBy_23 : decode cX3_onwardBy 23 = .ok (.iload_n 3, 1) := by decide +kernel
theorem dX3_onwardBy_24 : decode cX3_onwardBy 24 = .ok (.laload, 1) := by decide +kernel
theorem dX3_onwardBy_25 : decode cX3_onwardBy 25 = .ok (.lreturn, 1) := by decide +kernel
def f_X3_onwardBy_25 (s0 : Int64) (σ : St) : Option (Int64 × St) :=
  some (s0, σ)
set_option maxRecDepth 100000 in
set_option maxHeartbeats 4000000 in
theorem b_X3_onwardBy_25 {g : Geo} {x : Cx} (C : Ok g x cX3_onwardBy RX3 4 (some .long) rm_X3_onwardBy) : ∀ (s0 : Int64) (σ : St) (r : Int64) (σ' : St), f_X3_onwardBy_25 s0 σ = some (r, σ') → V g x (qm g x (some (.long r)) σ') 4 σ [] [.long s0] 25 := by
  intro s0 σ r σ' h
  unfold f_X3_onwardBy_25 at h
  cases h
  exact v_lret C dX3_onwardBy_25
def f_X3_onwardBy (a1 : Int32) (a2 : Int32) (σ : St) : Option (Int64 × St) :=
  rdI σ 19 ((a1 * (3 : Int32)) + a2) fun v1 =>
  if 0 ≤ v1 then
    rdL σ 20 v1 fun v2 =>
    f_X3_onwardBy_25 v2 σ
  else
    f_X3_onwardBy_25 (0 : Int64) σ
set_option maxRecDepth 100000 in
set_option maxHeartbeats 4000000 in
theorem c_X3_onwardBy {g : Geo} {a1 : Int32} {a2 : Int32} {σ : St} {r : Int64} {σ' : St} (h : f_X3_onwardBy a1 a2 σ = some (r, σ')) : Ct g yX3_onwardBy cX3_onwardBy 4 (some .long) rm_X3_onwardBy [.ref (g.1 2), .int a1, .int a2] σ (some (.long r)) σ' := by
  refine ct_of (own := RX3) (by decide) rfl (Nat.le_of_ble_eq_true rfl) (fun x C => ?_) ⟨rfl, rfl⟩
  show V g x _ 4 σ [(0, .ref (g.1 2)), (1, .int a1), (2, .int a2)] [] 0
  unfold f_X3_onwardBy at h
  refine v_aload_n C dX3_onwardBy_0 rfl 0 rfl ?_
  refine v_getR C (p' := 19) fl_RX3_18 rfl rfl dX3_onwardBy_1 ?_
  refine v_iload_n C dX3_onwardBy_4 rfl 1 rfl ?_
  refine v_iconst C (v := (3 : Int32)) dX3_onwardBy_5 (by decide) ?_
  refine v_imul C dX3_onwardBy_6 ?_
  refine v_iload_n C dX3_onwardBy_7 rfl 2 rfl ?_
  refine v_iadd C dX3_onwardBy_8 ?_
  obtain ⟨nv1, v1, ev1, h⟩ := rdI_ex h
  refine x_iald C rfl nv1 ev1 dX3_onwardBy_9 ?_
  refine v_istore_n C (lv' := [(3, .int _), (0, .ref _), (1, .int _), (2, .int _)]) dX3_onwardBy_10 rfl (by decide) rfl ?_
  refine v_iload_n C dX3_onwardBy_11 rfl 0 rfl ?_
  refine v_if_ge C (tgt := 19) dX3_onwardBy_12 (by decide) (fun q3 => ?_) (fun q3 => ?_)
  · rw [if_pos q3] at h
    refine v_aload_n C dX3_onwardBy_19 rfl 1 rfl ?_
    refine v_getR C (p' := 20) fl_RX3_21 rfl rfl dX3_onwardBy_20 ?_
    refine v_iload_n C dX3_onwardBy_23 rfl 0 rfl ?_
    obtain ⟨nv2, v2, ev2, h⟩ := rdL_ex h
    refine x_lald C rfl nv2 ev2 dX3_onwardBy_24 ?_
    refine V.sub (lv' := []) [] rfl ?_
    exact b_X3_onwardBy_25 C _  _ _ _ h
  · rw [if_neg q3] at h
    refine v_lconst C (v := (0 : Int64)) dX3_onwardBy_15 (by decide) ?_
    refine v_goto C (tgt := 25) dX3_onwardBy_16 (by decide) ?_
    refine V.sub (lv' := []) [] rfl ?_
    exact b_X3_onwardBy_25 C _  _ _ _ h
theorem dX3_step_0 : decode cX3_step 0 = .ok (.aload_n 1, 1) := by decide +kernel
theorem dX3_step_1 : decode cX3_step 1 = .ok (.getfield 71, 3) := by decide +kernel
theorem dX3_step_4 : decode cX3_step 4 = .ok (.iload_n 3, 1) := by decide +kernel
theorem dX3_step_5 : decode cX3_step 5 = .ok (.lushr, 1) := by decide +kernel
theorem dX3_step_6 : decode cX3_step 6 = .ok (.lconst 1, 1) := by decide +kernel
theorem dX3_step_7 : decode cX3_step 7 = .ok (.land, 1) := by decide +kernel
theorem dX3_step_8 : decode cX3_step 8 = .ok (.lconst 0, 1) := by decide +kernel
theorem dX3_step_9 : decode cX3_step 9 = .ok (.lcmp, 1) := by decide +kernel
theorem dX3_step_10 : decode cX3_step 10 = .ok (.ifCond .eq 12, 3) := by decide +kernel
theorem dX3_step_13 : decode cX3_step 13 = .ok (.aload_n 2, 1) := by decide +kernel
theorem dX3_step_14 : decode cX3_step 14 = .ok (.lconst 1, 1) := by decide +kernel
theorem dX3_step_15 : decode cX3_step 15 = .ok (.iload_n 3, 1) := by decide +kernel
theorem dX3_step_16 : decode cX3_step 16 = .ok (.lshl, 1) := by decide +kernel
theorem dX3_step_17 : decode cX3_step 17 = .ok (.iload 5, 2) := by decide +kernel
theorem dX3_step_19 : decode cX3_step 19 = .ok (.invokevirtual 115, 3) := by decide +kernel
theorem dX3_step_22 : decode cX3_step 22 = .ok (.aload_n 0, 1) := by decide +kernel
theorem dX3_step_23 : decode cX3_step 23 = .ok (.getfield 18, 3) := by decide +kernel
theorem dX3_step_26 : decode cX3_step 26 = .ok (.iload 4, 2) := by decide +kernel
theorem dX3_step_28 : decode cX3_step 28 = .ok (.iconst 3, 1) := by decide +kernel
theorem dX3_step_29 : decode cX3_step 29 = .ok (.imul, 1) := by decide +kernel
theorem dX3_step_30 : decode cX3_step 30 = .ok (.iload 5, 2) := by decide +kernel
theorem dX3_step_32 : decode cX3_step 32 = .ok (.iadd, 1) := by decide +kernel
theorem dX3_step_33 : decode cX3_step 33 = .ok (.iaload, 1) := by decide +kernel
theorem dX3_step_34 : decode cX3_step 34 = .ok (.ireturn, 1) := by decide +kernel
def f_X3_step_22 (x4 : Int32) (x5 : Int32) (σ : St) : Option (Int32 × St) :=
  rdI σ 19 ((x4 * (3 : Int32)) + x5) fun v1 =>
  some (v1, σ)
set_option maxRecDepth 100000 in
set_option maxHeartbeats 4000000 in
theorem b_X3_step_22 {g : Geo} {x : Cx} (C : Ok g x cX3_step RX3 6 (some .int) rm_X3_step) : ∀ (x4 : Int32) (x5 : Int32) (σ : St) (r : Int32) (σ' : St), f_X3_step_22 x4 x5 σ = some (r, σ') → V g x (qm g x (some (.int r)) σ') 6 σ [(0, .ref (g.1 2)), (4, .int x4), (5, .int x5)] [] 22 := by
  intro x4 x5 σ r σ' h
  unfold f_X3_step_22 at h
  refine v_aload_n C dX3_step_22 rfl 0 rfl ?_
  refine v_getR C (p' := 19) fl_RX3_18 rfl rfl dX3_step_23 ?_
  refine v_iload C dX3_step_26 1 rfl ?_
  refine v_iconst C (v := (3 : Int32)) dX3_step_28 (by decide) ?_
  refine v_imul C dX3_step_29 ?_
  refine v_iload C dX3_step_30 2 rfl ?_
  refine v_iadd C dX3_step_32 ?_
  obtain ⟨nv1, v1, ev1, h⟩ := rdI_ex h
  refine x_iald C rfl nv1 ev1 dX3_step_33 ?_
  cases h
  exact v_iret C dX3_step_34
def f_X3_step (q2 : Nat) (a3 : Int32) (a4 : Int32) (a5 : Int32) (σ : St) : Option (Int32 × St) :=
  if ((lushr (gl σ 1 3) a3) &&& (1 : Int64)) = (0 : Int64) then
    f_X3_step_22 a4 a5 σ
  else
    bd (f_X2_put q2 (lshl (1 : Int64) a3) a5 σ) fun _ σ2 =>
    f_X3_step_22 a4 a5 σ2
set_option maxRecDepth 100000 in
set_option maxHeartbeats 4000000 in
theorem c_X3_step {g : Geo} {q2 : Nat} {a3 : Int32} {a4 : Int32} {a5 : Int32} (hq2 : kd q2 = 2) {σ : St} {r : Int32} {σ' : St} (h : f_X3_step q2 a3 a4 a5 σ = some (r, σ')) : Ct g yX3_step cX3_step 6 (some .int) rm_X3_step [.ref (g.1 2), .ref (g.1 1), .ref (g.1 q2), .int a3, .int a4, .int a5] σ (some (.int r)) σ' := by
  refine ct_of (own := RX3) (by decide) rfl (Nat.le_of_ble_eq_true rfl) (fun x C => ?_) ⟨rfl, rfl⟩
  show V g x _ 6 σ [(0, .ref (g.1 2)), (1, .ref (g.1 1)), (2, .ref (g.1 q2)), (3, .int a3), (4, .int a4), (5, .int a5)] [] 0
  unfold f_X3_step at h
  refine v_aload_n C dX3_step_0 rfl 1 rfl ?_
  refine v_getL C fl_RX3_71 rfl dX3_step_1 ?_
  refine v_iload_n C dX3_step_4 rfl 3 rfl ?_
  refine v_lushr C dX3_step_5 ?_
  refine v_lconst C (v := (1 : Int64)) dX3_step_6 (by decide) ?_
  refine v_land C dX3_step_7 ?_
  refine v_lconst C (v := (0 : Int64)) dX3_step_8 (by decide) ?_
  refine v_lcmp_eq C (tgt := 22) dX3_step_9 dX3_step_10 (by decide) (fun q3 => ?_) (fun q3 => ?_)
  · rw [if_pos q3] at h
    refine V.sub (lv' := [(0, .ref _), (4, .int _), (5, .int _)]) [0, 4, 5] rfl ?_
    exact b_X3_step_22 C _ _  _ _ _ h
  · rw [if_neg q3] at h
    refine v_aload_n C dX3_step_13 rfl 2 rfl ?_
    refine v_lconst C (v := (1 : Int64)) dX3_step_14 (by decide) ?_
    refine v_iload_n C dX3_step_15 rfl 3 rfl ?_
    refine v_lshl C dX3_step_16 ?_
    refine v_iload C dX3_step_17 5 rfl ?_
    obtain ⟨v1, σ2, cσ2, h⟩ := bd_some h
    refine callVv C (c_X2_put hq2 cσ2) km_X2_put kv_X2_put hq2 ml_RX3_115 rfl rfl (by decide) (Nat.le_of_ble_eq_true rfl) dX3_step_19 ?_
    refine V.sub (lv' := [(0, .ref _), (4, .int _), (5, .int _)]) [0, 4, 5] rfl ?_
    exact b_X3_step_22 C _ _  _ _ _ h
theorem dX3_walkTo_0 : decode cX3_walkTo 0 = .ok (.aload 4, 2) := by decide +kernel
theorem dX3_walkTo_2 : decode cX3_walkTo 2 = .ok (.invokevirtual 94, 3) := by decide +kernel
theorem dX3_walkTo_5 : decode cX3_walkTo 5 = .ok (.aload 4, 2) := by decide +kernel
theorem dX3_walkTo_7 : decode cX3_walkTo 7 = .ok (.iconst 1, 1) := by decide +kernel
theorem dX3_walkTo_8 : decode cX3_walkTo 8 = .ok (.putfield 99, 3) := by decide +kernel
theorem dX3_walkTo_11 : decode cX3_walkTo 11 = .ok (.lload_n 2, 1) := by decide +kernel
theorem dX3_walkTo_12 : decode cX3_walkTo 12 = .ok (.lstore 5, 2) := by decide +kernel
theorem dX3_walkTo_14 : decode cX3_walkTo 14 = .ok (.iconst 0, 1) := by decide +kernel
theorem dX3_walkTo_15 : decode cX3_walkTo 15 = .ok (.istore 7, 2) := by decide +kernel
theorem dX3_walkTo_17 : decode cX3_walkTo 17 = .ok (.iconst 0, 1) := by decide +kernel
theorem dX3_walkTo_18 : decode cX3_walkTo 18 = .ok (.istore 8, 2) := by decide +kernel
theorem dX3_walkTo_20 : decode cX3_walkTo 20 = .ok (.iload 8, 2) := by decide +kernel
theorem dX3_walkTo_22 : decode cX3_walkTo 22 = .ok (.aload_n 1, 1) := by decide +kernel
theorem dX3_walkTo_23 : decode cX3_walkTo 23 = .ok (.getfield 38, 3) := by decide +kernel
theorem dX3_walkTo_26 : decode cX3_walkTo 26 = .ok (.if_icmp .ge 71, 3) := by decide +kernel
theorem dX3_walkTo_29 : decode cX3_walkTo 29 = .ok (.iload 7, 2) := by decide +kernel
theorem dX3_walkTo_31 : decode cX3_walkTo 31 = .ok (.ifCond .lt 66, 3) := by decide +kernel
theorem dX3_walkTo_34 : decode cX3_walkTo 34 = .ok (.iconst 0, 1) := by decide +kernel
theorem dX3_walkTo_35 : decode cX3_walkTo 35 = .ok (.istore 9, 2) := by decide +kernel
theorem dX3_walkTo_37 : decode cX3_walkTo 37 = .ok (.iload 9, 2) := by decide +kernel
theorem dX3_walkTo_39 : decode cX3_walkTo 39 = .ok (.iconst 2, 1) := by decide +kernel
theorem dX3_walkTo_40 : decode cX3_walkTo 40 = .ok (.if_icmp .ge 36, 3) := by decide +kernel
theorem dX3_walkTo_43 : decode cX3_walkTo 43 = .ok (.lload 5, 2) := by decide +kernel
theorem dX3_walkTo_45 : decode cX3_walkTo 45 = .ok (.aload_n 0, 1) := by decide +kernel
theorem dX3_walkTo_46 : decode cX3_walkTo 46 = .ok (.iload 7, 2) := by decide +kernel
theorem dX3_walkTo_48 : decode cX3_walkTo 48 = .ok (.iload 9, 2) := by decide +kernel
theorem dX3_walkTo_50 : decode cX3_walkTo 50 = .ok (.invokevirtual 103, 3) := by decide +kernel
theorem dX3_walkTo_53 : decode cX3_walkTo 53 = .ok (.lcmp, 1) := by decide +kernel
theorem dX3_walkTo_54 : decode cX3_walkTo 54 = .ok (.ifCond .lt 22, 3) := by decide +kernel
theorem dX3_walkTo_57 : decode cX3_walkTo 57 = .ok (.lload 5, 2) := by decide +kernel
theorem dX3_walkTo_59 : decode cX3_walkTo 59 = .ok (.aload_n 0, 1) := by decide +kernel
theorem dX3_walkTo_60 : decode cX3_walkTo 60 = .ok (.iload 7, 2) := by decide +kernel
theorem dX3_walkTo_62 : decode cX3_walkTo 62 = .ok (.iload 9, 2) := by decide +kernel
theorem dX3_walkTo_64 : decode cX3_walkTo 64 = .ok (.invokevirtual 103, 3) := by decide +kernel
theorem dX3_walkTo_67 : decode cX3_walkTo 67 = .ok (.lsub, 1) := by decide +kernel
theorem dX3_walkTo_68 : decode cX3_walkTo 68 = .ok (.lstore 5, 2) := by decide +kernel
theorem dX3_walkTo_70 : decode cX3_walkTo 70 = .ok (.iinc 9 1, 3) := by decide +kernel
theorem dX3_walkTo_73 : decode cX3_walkTo 73 = .ok (.goto (-36), 3) := by decide +kernel
theorem dX3_walkTo_76 : decode cX3_walkTo 76 = .ok (.aload_n 0, 1) := by decide +kernel
theorem dX3_walkTo_77 : decode cX3_walkTo 77 = .ok (.aload_n 1, 1) := by decide +kernel
theorem dX3_walkTo_78 : decode cX3_walkTo 78 = .ok (.aload 4, 2) := by decide +kernel
theorem dX3_walkTo_80 : decode cX3_walkTo 80 = .ok (.iload 8, 2) := by decide +kernel
theorem dX3_walkTo_82 : decode cX3_walkTo 82 = .ok (.iload 7, 2) := by decide +kernel
theorem dX3_walkTo_84 : decode cX3_walkTo 84 = .ok (.iload 9, 2) := by decide +kernel
theorem dX3_walkTo_86 : decode cX3_walkTo 86 = .ok (.invokevirtual 107, 3) := by decide +kernel
theorem dX3_walkTo_89 : decode cX3_walkTo 89 = .ok (.istore 7, 2) := by decide +kernel
theorem dX3_walkTo_91 : decode cX3_walkTo 91 = .ok (.iinc 8 1, 3) := by decide +kernel
theorem dX3_walkTo_94 : decode cX3_walkTo 94 = .ok (.goto (-74), 3) := by decide +kernel
theorem dX3_walkTo_97 : decode cX3_walkTo 97 = .ok (.return_, 1) := by decide +kernel
def f_X3_walkTo_97 (σ : St) : Option (Unit × St) :=
  some ((), σ)
set_option maxRecDepth 100000 in
set_option maxHeartbeats 4000000 in
theorem b_X3_walkTo_97 {g : Geo} {x : Cx} (C : Ok g x cX3_walkTo RX3 10 none rm_X3_walkTo) : ∀ (σ : St) (r : Unit) (σ' : St), f_X3_walkTo_97 σ = some (r, σ') → V g x (qm g x none σ') 10 σ [] [] 97 := by
  intro σ r σ' h
  unfold f_X3_walkTo_97 at h
  cases h
  exact v_vret C dX3_walkTo_97
def f_X3_walkTo_76 (k20 : Nat → Int64 → Int32 → Int32 → St → Option (Unit × St)) (r4 : Nat) (x5 : Int64) (x7 : Int32) (x8 : Int32) (x9 : Int32) (σ : St) : Option (Unit × St) :=
  bd (f_X3_step r4 x8 x7 x9 σ) fun v1 σ2 =>
  k20 r4 x5 v1 (x8 + 1) σ2
set_option maxRecDepth 100000 in
set_option maxHeartbeats 4000000 in
theorem b_X3_walkTo_76 {g : Geo} {x : Cx} (C : Ok g x cX3_walkTo RX3 10 none rm_X3_walkTo) (k20 : Nat → Int64 → Int32 → Int32 → St → Option (Unit × St)) (hk20 : ∀ (r4 : Nat) (x5 : Int64) (x7 : Int32) (x8 : Int32) (hr4 : kd r4 = 2) (τ : St) (r : Unit) (τ' : St), k20 r4 x5 x7 x8 τ = some (r, τ') → V g x (qm g x none τ') 10 τ [(0, .ref (g.1 2)), (1, .ref (g.1 1)), (4, .ref (g.1 r4)), (5, .long x5), (7, .int x7), (8, .int x8)] [] 20) : ∀ (r4 : Nat) (x5 : Int64) (x7 : Int32) (x8 : Int32) (x9 : Int32) (hr4 : kd r4 = 2) (σ : St) (r : Unit) (σ' : St), f_X3_walkTo_76 k20 r4 x5 x7 x8 x9 σ = some (r, σ') → V g x (qm g x none σ') 10 σ [(0, .ref (g.1 2)), (1, .ref (g.1 1)), (4, .ref (g.1 r4)), (5, .long x5), (7, .int x7), (8, .int x8), (9, .int x9)] [] 76 := by
  intro r4 x5 x7 x8 x9 hr4 σ r σ' h
  unfold f_X3_walkTo_76 at h
  refine v_aload_n C dX3_walkTo_76 rfl 0 rfl ?_
  refine v_aload_n C dX3_walkTo_77 rfl 1 rfl ?_
  refine v_aload C dX3_walkTo_78 2 rfl ?_
  refine v_iload C dX3_walkTo_80 5 rfl ?_
  refine v_iload C dX3_walkTo_82 4 rfl ?_
  refine v_iload C dX3_walkTo_84 6 rfl ?_
  obtain ⟨v1, σ2, cσ2, h⟩ := bd_some h
  refine callVi C (c_X3_step hr4 cσ2) km_X3_step kv_X3_step rfl ml_RX3_107 rfl rfl (by decide) (Nat.le_of_ble_eq_true rfl) dX3_walkTo_86 ?_
  refine v_istore C (lv' := [(7, .int _), (0, .ref _), (1, .ref _), (4, .ref _), (5, .long _), (8, .int _), (9, .int _)]) dX3_walkTo_89 (by decide) rfl ?_
  refine v_iinc C (v := (x8 + 1)) (lv' := [(8, .int _), (7, .int _), (0, .ref _), (1, .ref _), (4, .ref _), (5, .long _), (9, .int _)]) dX3_walkTo_91 5 rfl rfl (by decide) rfl ?_
  refine v_goto C (tgt := 20) dX3_walkTo_94 (by decide) ?_
  refine V.sub (lv' := [(0, .ref _), (1, .ref _), (4, .ref _), (5, .long _), (7, .int _), (8, .int _)]) [2, 3, 4, 5, 1, 0] rfl ?_
  exact hk20 _ _ _ _ hr4 _ _ _ h
def f_X3_walkTo_37 (k20 : Nat → Int64 → Int32 → Int32 → St → Option (Unit × St)) : Nat → Nat → Int64 → Int32 → Int32 → Int32 → St → Option (Unit × St)
  | 0, _, _, _, _, _, _ => none
  | n + 1, r4, x5, x7, x8, x9, σ =>
    if (2 : Int32) ≤ x9 then
      f_X3_walkTo_76 k20 r4 x5 x7 x8 x9 σ
    else
      bd (f_X3_onwardBy x7 x9 σ) fun v1 σ2 =>
      if x5 < v1 then
        f_X3_walkTo_76 k20 r4 x5 x7 x8 x9 σ2
      else
        bd (f_X3_onwardBy x7 x9 σ2) fun v3 σ4 =>
        f_X3_walkTo_37 k20 n r4 (x5 - v3) x7 x8 (x9 + 1) σ4
set_option maxRecDepth 100000 in
set_option maxHeartbeats 4000000 in
theorem b_X3_walkTo_37 {g : Geo} {x : Cx} (C : Ok g x cX3_walkTo RX3 10 none rm_X3_walkTo) (k20 : Nat → Int64 → Int32 → Int32 → St → Option (Unit × St)) (hk20 : ∀ (r4 : Nat) (x5 : Int64) (x7 : Int32) (x8 : Int32) (hr4 : kd r4 = 2) (τ : St) (r : Unit) (τ' : St), k20 r4 x5 x7 x8 τ = some (r, τ') → V g x (qm g x none τ') 10 τ [(0, .ref (g.1 2)), (1, .ref (g.1 1)), (4, .ref (g.1 r4)), (5, .long x5), (7, .int x7), (8, .int x8)] [] 20) : ∀ (n : Nat) (r4 : Nat) (x5 : Int64) (x7 : Int32) (x8 : Int32) (x9 : Int32) (hr4 : kd r4 = 2) (σ : St) (r : Unit) (σ' : St), f_X3_walkTo_37 k20 n r4 x5 x7 x8 x9 σ = some (r, σ') → V g x (qm g x none σ') 10 σ [(0, .ref (g.1 2)), (1, .ref (g.1 1)), (4, .ref (g.1 r4)), (5, .long x5), (7, .int x7), (8, .int x8), (9, .int x9)] [] 37 := by
  intro n
  induction n with
  | zero =>
    intro r4 x5 x7 x8 x9 hr4 σ r σ' h
    rw [f_X3_walkTo_37] at h
    cases h
  | succ n ih =>
    intro r4 x5 x7 x8 x9 hr4 σ r σ' h
    rw [f_X3_walkTo_37] at h
    refine v_iload C dX3_walkTo_37 6 rfl ?_
    refine v_iconst C (v := (2 : Int32)) dX3_walkTo_39 (by decide) ?_
    refine v_icmp_ge C (tgt := 76) dX3_walkTo_40 (by decide) (fun q6 => ?_) (fun q6 => ?_)
    · rw [if_pos q6] at h
      refine V.sub (lv' := [(0, .ref _), (1, .ref _), (4, .ref _), (5, .long _), (7, .int _), (8, .int _), (9, .int _)]) [0, 1, 2, 3, 4, 5, 6] rfl ?_
      exact b_X3_walkTo_76 C _ hk20 _ _ _ _ _ hr4 _ _ _ h
    · rw [if_neg q6] at h
      refine v_lload C dX3_walkTo_43 3 rfl ?_
      refine v_aload_n C dX3_walkTo_45 rfl 0 rfl ?_
      refine v_iload C dX3_walkTo_46 4 rfl ?_
      refine v_iload C dX3_walkTo_48 6 rfl ?_
      obtain ⟨v1, σ2, cσ2, h⟩ := bd_some h
      refine callVl C (c_X3_onwardBy cσ2) km_X3_onwardBy kv_X3_onwardBy rfl ml_RX3_103 rfl rfl (by decide) (Nat.le_of_ble_eq_true rfl) dX3_walkTo_50 ?_
      refine v_lcmp_lt C (tgt := 76) dX3_walkTo_53 dX3_walkTo_54 (by decide) (fun q5 => ?_) (fun q5 => ?_)
      · rw [if_pos q5] at h
        refine V.sub (lv' := [(0, .ref _), (1, .ref _), (4, .ref _), (5, .long _), (7, .int _), (8, .int _), (9, .int _)]) [0, 1, 2, 3, 4, 5, 6] rfl ?_
        exact b_X3_walkTo_76 C _ hk20 _ _ _ _ _ hr4 _ _ _ h
      · rw [if_neg q5] at h
        refine v_lload C dX3_walkTo_57 3 rfl ?_
        refine v_aload_n C dX3_walkTo_59 rfl 0 rfl ?_
        refine v_iload C dX3_walkTo_60 4 rfl ?_
        refine v_iload C dX3_walkTo_62 6 rfl ?_
        obtain ⟨v3, σ4, cσ4, h⟩ := bd_some h
        refine callVl C (c_X3_onwardBy cσ4) km_X3_onwardBy kv_X3_onwardBy rfl ml_RX3_103 rfl rfl (by decide) (Nat.le_of_ble_eq_true rfl) dX3_walkTo_64 ?_
        refine v_lsub C dX3_walkTo_67 ?_
        refine v_lstore C (lv' := [(5, .long _), (0, .ref _), (1, .ref _), (4, .ref _), (7, .int _), (8, .int _), (9, .int _)]) dX3_walkTo_68 (by decide) rfl ?_
        refine v_iinc C (v := (x9 + 1)) (lv' := [(9, .int _), (5, .long _), (0, .ref _), (1, .ref _), (4, .ref _), (7, .int _), (8, .int _)]) dX3_walkTo_70 6 rfl rfl (by decide) rfl ?_
        refine v_goto C (tgt := 37) dX3_walkTo_73 (by decide) ?_
        refine V.sub (lv' := [(0, .ref _), (1, .ref _), (4, .ref _), (5, .long _), (7, .int _), (8, .int _), (9, .int _)]) [2, 3, 4, 1, 5, 6, 0] rfl ?_
        exact ih _ _ _ _ _ hr4 _ _ _ h
def f_X3_walkTo_20 : Nat → Nat → Int64 → Int32 → Int32 → St → Option (Unit × St)
  | 0, _, _, _, _, _ => none
  | n + 1, r4, x5, x7, x8, σ =>
    if (gi σ 1 2) ≤ x8 then
      f_X3_walkTo_97 σ
    else
      if x7 < 0 then
        f_X3_walkTo_97 σ
      else
        f_X3_walkTo_37 (f_X3_walkTo_20 n) FU r4 x5 x7 x8 (0 : Int32) σ
set_option maxRecDepth 100000 in
set_option maxHeartbeats 4000000 in
theorem b_X3_walkTo_20 {g : Geo} {x : Cx} (C : Ok g x cX3_walkTo RX3 10 none rm_X3_walkTo) : ∀ (n : Nat) (r4 : Nat) (x5 : Int64) (x7 : Int32) (x8 : Int32) (hr4 : kd r4 = 2) (σ : St) (r : Unit) (σ' : St), f_X3_walkTo_20 n r4 x5 x7 x8 σ = some (r, σ') → V g x (qm g x none σ') 10 σ [(0, .ref (g.1 2)), (1, .ref (g.1 1)), (4, .ref (g.1 r4)), (5, .long x5), (7, .int x7), (8, .int x8)] [] 20 := by
  intro n
  induction n with
  | zero =>
    intro r4 x5 x7 x8 hr4 σ r σ' h
    rw [f_X3_walkTo_20] at h
    cases h
  | succ n ih =>
    intro r4 x5 x7 x8 hr4 σ r σ' h
    rw [f_X3_walkTo_20] at h
    refine v_iload C dX3_walkTo_20 5 rfl ?_
    refine v_aload_n C dX3_walkTo_22 rfl 1 rfl ?_
    refine v_getI C fl_RX3_38 rfl dX3_walkTo_23 ?_
    refine v_icmp_ge C (tgt := 97) dX3_walkTo_26 (by decide) (fun q2 => ?_) (fun q2 => ?_)
    · rw [if_pos q2] at h
      refine V.sub (lv' := []) [] rfl ?_
      exact b_X3_walkTo_97 C  _ _ _ h
    · rw [if_neg q2] at h
      refine v_iload C dX3_walkTo_29 4 rfl ?_
      refine v_if_lt C (tgt := 97) dX3_walkTo_31 (by decide) (fun q1 => ?_) (fun q1 => ?_)
      · rw [if_pos q1] at h
        refine V.sub (lv' := []) [] rfl ?_
        exact b_X3_walkTo_97 C  _ _ _ h
      · rw [if_neg q1] at h
        refine v_iconst C (v := (0 : Int32)) dX3_walkTo_34 (by decide) ?_
        refine v_istore C (lv' := [(9, .int _), (0, .ref _), (1, .ref _), (4, .ref _), (5, .long _), (7, .int _), (8, .int _)]) dX3_walkTo_35 (by decide) rfl ?_
        refine V.sub (lv' := [(0, .ref _), (1, .ref _), (4, .ref _), (5, .long _), (7, .int _), (8, .int _), (9, .int _)]) [1, 2, 3, 4, 5, 6, 0] rfl ?_
        exact b_X3_walkTo_37 C _ ih FU _ _ _ _ _ hr4 _ _ _ h
def f_X3_walkTo (a2 : Int64) (q3 : Nat) (σ : St) : Option (Unit × St) :=
  bd (f_X2_clear q3 σ) fun _ σ2 =>
  fI σ2 q3 0 (1 : Int32) fun σ3 =>
  f_X3_walkTo_20 FU q3 a2 (0 : Int32) (0 : Int32) σ3
set_option maxRecDepth 100000 in
set_option maxHeartbeats 4000000 in
theorem c_X3_walkTo {g : Geo} {a2 : Int64} {q3 : Nat} (hq3 : kd q3 = 2) {σ : St} {r : Unit} {σ' : St} (h : f_X3_walkTo a2 q3 σ = some (r, σ')) : Ct g yX3_walkTo cX3_walkTo 10 none rm_X3_walkTo [.ref (g.1 2), .ref (g.1 1), .long a2, .ref (g.1 q3)] σ none σ' := by
  refine ct_of (own := RX3) (by decide) rfl (Nat.le_of_ble_eq_true rfl) (fun x C => ?_) ⟨rfl, rfl⟩
  show V g x _ 10 σ [(0, .ref (g.1 2)), (1, .ref (g.1 1)), (2, .long a2), (4, .ref (g.1 q3))] [] 0
  unfold f_X3_walkTo at h
  refine v_aload C dX3_walkTo_0 3 rfl ?_
  obtain ⟨v1, σ2, cσ2, h⟩ := bd_some h
  refine callVv C (c_X2_clear hq3 cσ2) km_X2_clear kv_X2_clear hq3 ml_RX3_94 rfl rfl (by decide) (Nat.le_of_ble_eq_true rfl) dX3_walkTo_2 ?_
  refine v_aload C dX3_walkTo_5 3 rfl ?_
  refine v_iconst C (v := (1 : Int32)) dX3_walkTo_7 (by decide) ?_
  obtain ⟨σ3, eσ3, h⟩ := fI_ex h
  refine x_putZ C fl_RX3_99 fw_2_0 hq3 (Or.inr rfl) eσ3 dX3_walkTo_8 ?_
  refine v_lload_n C dX3_walkTo_11 rfl 2 rfl ?_
  refine v_lstore C (lv' := [(5, .long _), (0, .ref _), (1, .ref _), (2, .long _), (4, .ref _)]) dX3_walkTo_12 (by decide) rfl ?_
  refine v_iconst C (v := (0 : Int32)) dX3_walkTo_14 (by decide) ?_
  refine v_istore C (lv' := [(7, .int _), (5, .long _), (0, .ref _), (1, .ref _), (2, .long _), (4, .ref _)]) dX3_walkTo_15 (by decide) rfl ?_
  refine v_iconst C (v := (0 : Int32)) dX3_walkTo_17 (by decide) ?_
  refine v_istore C (lv' := [(8, .int _), (7, .int _), (5, .long _), (0, .ref _), (1, .ref _), (2, .long _), (4, .ref _)]) dX3_walkTo_18 (by decide) rfl ?_
  refine V.sub (lv' := [(0, .ref _), (1, .ref _), (4, .ref _), (5, .long _), (7, .int _), (8, .int _)]) [3, 4, 6, 2, 1, 0] rfl ?_
  exact b_X3_walkTo_20 C FU _ _ _ _ hq3 _ _ _ h
theorem dX3_isBest_0 : decode cX3_isBest 0 = .ok (.aload_n 0, 1) := by decide +kernel
theorem dX3_isBest_1 : decode cX3_isBest 1 = .ok (.getfield 18, 3) := by decide +kernel
theorem dX3_isBest_4 : decode cX3_isBest 4 = .ok (.iload 4, 2) := by decide +kernel
theorem dX3_isBest_6 : decode cX3_isBest 6 = .ok (.iconst 3, 1) := by decide +kernel
theorem dX3_isBest_7 : decode cX3_isBest 7 = .ok (.imul, 1) := by decide +kernel
theorem dX3_isBest_8 : decode cX3_isBest 8 = .ok (.iload 5, 2) := by decide +kernel
theorem dX3_isBest_10 : decode cX3_isBest 10 = .ok (.iadd, 1) := by decide +kernel
theorem dX3_isBest_11 : decode cX3_isBest 11 = .ok (.iaload, 1) := by decide +kernel
theorem dX3_isBest_12 : decode cX3_isBest 12 = .ok (.ifCond .lt 28, 3) := by decide +kernel
theorem dX3_isBest_15 : decode cX3_isBest 15 = .ok (.aload_n 0, 1) := by decide +kernel
theorem dX3_isBest_16 : decode cX3_isBest 16 = .ok (.aload_n 1, 1) := by decide +kernel
theorem dX3_isBest_17 : decode cX3_isBest 17 = .ok (.aload_n 2, 1) := by decide +kernel
theorem dX3_isBest_18 : decode cX3_isBest 18 = .ok (.iload_n 3, 1) := by decide +kernel
theorem dX3_isBest_19 : decode cX3_isBest 19 = .ok (.iload 4, 2) := by decide +kernel
theorem dX3_isBest_21 : decode cX3_isBest 21 = .ok (.iload 5, 2) := by decide +kernel
theorem dX3_isBest_23 : decode cX3_isBest 23 = .ok (.invokevirtual 84, 3) := by decide +kernel
theorem dX3_isBest_26 : decode cX3_isBest 26 = .ok (.aload_n 0, 1) := by decide +kernel
theorem dX3_isBest_27 : decode cX3_isBest 27 = .ok (.getfield 28, 3) := by decide +kernel
theorem dX3_isBest_30 : decode cX3_isBest 30 = .ok (.iload 4, 2) := by decide +kernel
theorem dX3_isBest_32 : decode cX3_isBest 32 = .ok (.iaload, 1) := by decide +kernel
theorem dX3_isBest_33 : decode cX3_isBest 33 = .ok (.if_icmp .ne 7, 3) := by decide +kernel
theorem dX3_isBest_36 : decode cX3_isBest 36 = .ok (.iconst 1, 1) := by decide +kernel
theorem dX3_isBest_37 : decode cX3_isBest 37 = .ok (.goto 4, 3) := by decide +kernel
theorem dX3_isBest_40 : decode cX3_isBest 40 = .ok (.iconst 0, 1) := by decide +kernel
theorem dX3_isBest_41 : decode cX3_isBest 41 = .ok (.ireturn, 1) := by decide +kernel
def f_X3_isBest_41 (s0 : Int32) (σ : St) : Option (Int32 × St) :=
  gz s0 <|
  some (s0, σ)
set_option maxRecDepth 100000 in
set_option maxHeartbeats 4000000 in
theorem b_X3_isBest_41 {g : Geo} {x : Cx} (C : Ok g x cX3_isBest RX3 6 (some .boolean) rm_X3_isBest) : ∀ (s0 : Int32) (σ : St) (r : Int32) (σ' : St), f_X3_isBest_41 s0 σ = some (r, σ') → V g x (qm g x (some (.int r)) σ') 6 σ [] [.int s0] 41 := by
  intro s0 σ r σ' h
  unfold f_X3_isBest_41 at h
  obtain ⟨hz, h⟩ := gz_some h
  cases h
  exact v_zret C hz dX3_isBest_41
def f_X3_isBest_40 (σ : St) : Option (Int32 × St) :=
  f_X3_isBest_41 (0 : Int32) σ
set_option maxRecDepth 100000 in
set_option maxHeartbeats 4000000 in
theorem b_X3_isBest_40 {g : Geo} {x : Cx} (C : Ok g x cX3_isBest RX3 6 (some .boolean) rm_X3_isBest) : ∀ (σ : St) (r : Int32) (σ' : St), f_X3_isBest_40 σ = some (r, σ') → V g x (qm g x (some (.int r)) σ') 6 σ [] [] 40 := by
  intro σ r σ' h
  unfold f_X3_isBest_40 at h
  refine v_iconst C (v := (0 : Int32)) dX3_isBest_40 (by decide) ?_
  refine V.sub (lv' := []) [] rfl ?_
  exact b_X3_isBest_41 C _  _ _ _ h
def f_X3_isBest (q2 : Nat) (a3 : Int32) (a4 : Int32) (a5 : Int32) (σ : St) : Option (Int32 × St) :=
  rdI σ 19 ((a4 * (3 : Int32)) + a5) fun v1 =>
  if v1 < 0 then
    f_X3_isBest_40 σ
  else
    bd (f_X3_worthBy q2 a3 a4 a5 σ) fun v2 σ3 =>
    rdI σ3 22 a4 fun v4 =>
    if v2 = v4 then
      f_X3_isBest_41 (1 : Int32) σ3
    else
      f_X3_isBest_40 σ3
set_option maxRecDepth 100000 in
set_option maxHeartbeats 4000000 in
theorem c_X3_isBest {g : Geo} {q2 : Nat} {a3 : Int32} {a4 : Int32} {a5 : Int32} (hq2 : kd q2 = 7) {σ : St} {r : Int32} {σ' : St} (h : f_X3_isBest q2 a3 a4 a5 σ = some (r, σ')) : Ct g yX3_isBest cX3_isBest 6 (some .boolean) rm_X3_isBest [.ref (g.1 2), .ref (g.1 1), .ref (g.1 q2), .int a3, .int a4, .int a5] σ (some (.int r)) σ' := by
  refine ct_of (own := RX3) (by decide) rfl (Nat.le_of_ble_eq_true rfl) (fun x C => ?_) ⟨rfl, rfl⟩
  show V g x _ 6 σ [(0, .ref (g.1 2)), (1, .ref (g.1 1)), (2, .ref (g.1 q2)), (3, .int a3), (4, .int a4), (5, .int a5)] [] 0
  unfold f_X3_isBest at h
  refine v_aload_n C dX3_isBest_0 rfl 0 rfl ?_
  refine v_getR C (p' := 19) fl_RX3_18 rfl rfl dX3_isBest_1 ?_
  refine v_iload C dX3_isBest_4 4 rfl ?_
  refine v_iconst C (v := (3 : Int32)) dX3_isBest_6 (by decide) ?_
  refine v_imul C dX3_isBest_7 ?_
  refine v_iload C dX3_isBest_8 5 rfl ?_
  refine v_iadd C dX3_isBest_10 ?_
  obtain ⟨nv1, v1, ev1, h⟩ := rdI_ex h
  refine x_iald C rfl nv1 ev1 dX3_isBest_11 ?_
  refine v_if_lt C (tgt := 40) dX3_isBest_12 (by decide) (fun q6 => ?_) (fun q6 => ?_)
  · rw [if_pos q6] at h
    refine V.sub (lv' := []) [] rfl ?_
    exact b_X3_isBest_40 C  _ _ _ h
  · rw [if_neg q6] at h
    refine v_aload_n C dX3_isBest_15 rfl 0 rfl ?_
    refine v_aload_n C dX3_isBest_16 rfl 1 rfl ?_
    refine v_aload_n C dX3_isBest_17 rfl 2 rfl ?_
    refine v_iload_n C dX3_isBest_18 rfl 3 rfl ?_
    refine v_iload C dX3_isBest_19 4 rfl ?_
    refine v_iload C dX3_isBest_21 5 rfl ?_
    obtain ⟨v2, σ3, cσ3, h⟩ := bd_some h
    refine callVi C (c_X3_worthBy hq2 cσ3) km_X3_worthBy kv_X3_worthBy rfl ml_RX3_84 rfl rfl (by decide) (Nat.le_of_ble_eq_true rfl) dX3_isBest_23 ?_
    refine v_aload_n C dX3_isBest_26 rfl 0 rfl ?_
    refine v_getR C (p' := 22) fl_RX3_28 rfl rfl dX3_isBest_27 ?_
    refine v_iload C dX3_isBest_30 4 rfl ?_
    obtain ⟨nv4, v4, ev4, h⟩ := rdI_ex h
    refine x_iald C rfl nv4 ev4 dX3_isBest_32 ?_
    refine v_icmp_ne C (tgt := 40) dX3_isBest_33 (by decide) (fun q5 => ?_) (fun q5 => ?_)
    · rw [if_neg q5] at h
      refine V.sub (lv' := []) [] rfl ?_
      exact b_X3_isBest_40 C  _ _ _ h
    · rw [if_pos q5] at h
      refine v_iconst C (v := (1 : Int32)) dX3_isBest_36 (by decide) ?_
      refine v_goto C (tgt := 41) dX3_isBest_37 (by decide) ?_
      refine V.sub (lv' := []) [] rfl ?_
      exact b_X3_isBest_41 C _  _ _ _ h
theorem dX3_walkDearest_0 : decode cX3_walkDearest 0 = .ok (.aload_n 3, 1) := by decide +kernel
theorem dX3_walkDearest_1 : decode cX3_walkDearest 1 = .ok (.invokevirtual 94, 3) := by decide +kernel
theorem dX3_walkDearest_4 : decode cX3_walkDearest 4 = .ok (.aload_n 3, 1) := by decide +kernel
theorem dX3_walkDearest_5 : decode cX3_walkDearest 5 = .ok (.iconst 1, 1) := by decide +kernel
theorem dX3_walkDearest_6 : decode cX3_walkDearest 6 = .ok (.putfield 99, 3) := by decide +kernel
theorem dX3_walkDearest_9 : decode cX3_walkDearest 9 = .ok (.iconst 0, 1) := by decide +kernel
theorem dX3_walkDearest_10 : decode cX3_walkDearest 10 = .ok (.istore 4, 2) := by decide +kernel
theorem dX3_walkDearest_12 : decode cX3_walkDearest 12 = .ok (.iconst 0, 1) := by decide +kernel
theorem dX3_walkDearest_13 : decode cX3_walkDearest 13 = .ok (.istore 5, 2) := by decide +kernel
theorem dX3_walkDearest_15 : decode cX3_walkDearest 15 = .ok (.iload 5, 2) := by decide +kernel
theorem dX3_walkDearest_17 : decode cX3_walkDearest 17 = .ok (.aload_n 1, 1) := by decide +kernel
theorem dX3_walkDearest_18 : decode cX3_walkDearest 18 = .ok (.getfield 38, 3) := by decide +kernel
theorem dX3_walkDearest_21 : decode cX3_walkDearest 21 = .ok (.if_icmp .ge 58, 3) := by decide +kernel
theorem dX3_walkDearest_24 : decode cX3_walkDearest 24 = .ok (.iload 4, 2) := by decide +kernel
theorem dX3_walkDearest_26 : decode cX3_walkDearest 26 = .ok (.ifCond .lt 53, 3) := by decide +kernel
theorem dX3_walkDearest_29 : decode cX3_walkDearest 29 = .ok (.iconst 0, 1) := by decide +kernel
theorem dX3_walkDearest_30 : decode cX3_walkDearest 30 = .ok (.istore 6, 2) := by decide +kernel
theorem dX3_walkDearest_32 : decode cX3_walkDearest 32 = .ok (.iload 6, 2) := by decide +kernel
theorem dX3_walkDearest_34 : decode cX3_walkDearest 34 = .ok (.iconst 2, 1) := by decide +kernel
theorem dX3_walkDearest_35 : decode cX3_walkDearest 35 = .ok (.if_icmp .ge 24, 3) := by decide +kernel
theorem dX3_walkDearest_38 : decode cX3_walkDearest 38 = .ok (.aload_n 0, 1) := by decide +kernel
theorem dX3_walkDearest_39 : decode cX3_walkDearest 39 = .ok (.aload_n 1, 1) := by decide +kernel
theorem dX3_walkDearest_40 : decode cX3_walkDearest 40 = .ok (.aload_n 2, 1) := by decide +kernel
theorem dX3_walkDearest_41 : decode cX3_walkDearest 41 = .ok (.iload 5, 2) := by decide +kernel
theorem dX3_walkDearest_43 : decode cX3_walkDearest 43 = .ok (.iload 4, 2) := by decide +kernel
theorem dX3_walkDearest_45 : decode cX3_walkDearest 45 = .ok (.iload 6, 2) := by decide +kernel
theorem dX3_walkDearest_47 : decode cX3_walkDearest 47 = .ok (.invokevirtual 111, 3) := by decide +kernel
theorem dX3_walkDearest_50 : decode cX3_walkDearest 50 = .ok (.ifCond .ne 9, 3) := by decide +kernel
theorem dX3_walkDearest_53 : decode cX3_walkDearest 53 = .ok (.iinc 6 1, 3) := by decide +kernel
theorem dX3_walkDearest_56 : decode cX3_walkDearest 56 = .ok (.goto (-24), 3) := by decide +kernel
theorem dX3_walkDearest_59 : decode cX3_walkDearest 59 = .ok (.aload_n 0, 1) := by decide +kernel
theorem dX3_walkDearest_60 : decode cX3_walkDearest 60 = .ok (.aload_n 1, 1) := by decide +kernel
theorem dX3_walkDearest_61 : decode cX3_walkDearest 61 = .ok (.aload_n 3, 1) := by decide +kernel
theorem dX3_walkDearest_62 : decode cX3_walkDearest 62 = .ok (.iload 5, 2) := by decide +kernel
theorem dX3_walkDearest_64 : decode cX3_walkDearest 64 = .ok (.iload 4, 2) := by decide +kernel
theorem dX3_walkDearest_66 : decode cX3_walkDearest 66 = .ok (.iload 6, 2) := by decide +kernel
theorem dX3_walkDearest_68 : decode cX3_walkDearest 68 = .ok (.invokevirtual 107, 3) := by decide +kernel
theorem dX3_walkDearest_71 : decode cX3_walkDearest 71 = .ok (.istore 4, 2) := by decide +kernel
theorem dX3_walkDearest_73 : decode cX3_walkDearest 73 = .ok (.iinc 5 1, 3) := by decide +kernel
theorem dX3_walkDearest_76 : decode cX3_walkDearest 76 = .ok (.goto (-61), 3) := by decide +kernel
theorem dX3_walkDearest_79 : decode cX3_walkDearest 79 = .ok (.return_, 1) := by decide +kernel
def f_X3_walkDearest_79 (σ : St) : Option (Unit × St) :=
  some ((), σ)
set_option maxRecDepth 100000 in
set_option maxHeartbeats 4000000 in
theorem b_X3_walkDearest_79 {g : Geo} {x : Cx} (C : Ok g x cX3_walkDearest RX3 7 none rm_X3_walkDearest) : ∀ (σ : St) (r : Unit) (σ' : St), f_X3_walkDearest_79 σ = some (r, σ') → V g x (qm g x none σ') 7 σ [] [] 79 := by
  intro σ r σ' h
  unfold f_X3_walkDearest_79 at h
  cases h
  exact v_vret C dX3_walkDearest_79
def f_X3_walkDearest_59 (k15 : Nat → Nat → Int32 → Int32 → St → Option (Unit × St)) (r2 : Nat) (r3 : Nat) (x4 : Int32) (x5 : Int32) (x6 : Int32) (σ : St) : Option (Unit × St) :=
  bd (f_X3_step r3 x5 x4 x6 σ) fun v1 σ2 =>
  k15 r2 r3 v1 (x5 + 1) σ2
set_option maxRecDepth 100000 in
set_option maxHeartbeats 4000000 in
theorem b_X3_walkDearest_59 {g : Geo} {x : Cx} (C : Ok g x cX3_walkDearest RX3 7 none rm_X3_walkDearest) (k15 : Nat → Nat → Int32 → Int32 → St → Option (Unit × St)) (hk15 : ∀ (r2 : Nat) (r3 : Nat) (x4 : Int32) (x5 : Int32) (hr2 : kd r2 = 7) (hr3 : kd r3 = 2) (τ : St) (r : Unit) (τ' : St), k15 r2 r3 x4 x5 τ = some (r, τ') → V g x (qm g x none τ') 7 τ [(0, .ref (g.1 2)), (1, .ref (g.1 1)), (2, .ref (g.1 r2)), (3, .ref (g.1 r3)), (4, .int x4), (5, .int x5)] [] 15) : ∀ (r2 : Nat) (r3 : Nat) (x4 : Int32) (x5 : Int32) (x6 : Int32) (hr2 : kd r2 = 7) (hr3 : kd r3 = 2) (σ : St) (r : Unit) (σ' : St), f_X3_walkDearest_59 k15 r2 r3 x4 x5 x6 σ = some (r, σ') → V g x (qm g x none σ') 7 σ [(0, .ref (g.1 2)), (1, .ref (g.1 1)), (2, .ref (g.1 r2)), (3, .ref (g.1 r3)), (4, .int x4), (5, .int x5), (6, .int x6)] [] 59 := by
  intro r2 r3 x4 x5 x6 hr2 hr3 σ r σ' h
  unfold f_X3_walkDearest_59 at h
  refine v_aload_n C dX3_walkDearest_59 rfl 0 rfl ?_
  refine v_aload_n C dX3_walkDearest_60 rfl 1 rfl ?_
  refine v_aload_n C dX3_walkDearest_61 rfl 3 rfl ?_
  refine v_iload C dX3_walkDearest_62 5 rfl ?_
  refine v_iload C dX3_walkDearest_64 4 rfl ?_
  refine v_iload C dX3_walkDearest_66 6 rfl ?_
  obtain ⟨v1, σ2, cσ2, h⟩ := bd_some h
  refine callVi C (c_X3_step hr3 cσ2) km_X3_step kv_X3_step rfl ml_RX3_107 rfl rfl (by decide) (Nat.le_of_ble_eq_true rfl) dX3_walkDearest_68 ?_
  refine v_istore C (lv' := [(4, .int _), (0, .ref _), (1, .ref _), (2, .ref _), (3, .ref _), (5, .int _), (6, .int _)]) dX3_walkDearest_71 (by decide) rfl ?_
  refine v_iinc C (v := (x5 + 1)) (lv' := [(5, .int _), (4, .int _), (0, .ref _), (1, .ref _), (2, .ref _), (3, .ref _), (6, .int _)]) dX3_walkDearest_73 5 rfl rfl (by decide) rfl ?_
  refine v_goto C (tgt := 15) dX3_walkDearest_76 (by decide) ?_
  refine V.sub (lv' := [(0, .ref _), (1, .ref _), (2, .ref _), (3, .ref _), (4, .int _), (5, .int _)]) [2, 3, 4, 5, 1, 0] rfl ?_
  exact hk15 _ _ _ _ hr2 hr3 _ _ _ h
def f_X3_walkDearest_32 (k15 : Nat → Nat → Int32 → Int32 → St → Option (Unit × St)) : Nat → Nat → Nat → Int32 → Int32 → Int32 → St → Option (Unit × St)
  | 0, _, _, _, _, _, _ => none
  | n + 1, r2, r3, x4, x5, x6, σ =>
    if (2 : Int32) ≤ x6 then
      f_X3_walkDearest_59 k15 r2 r3 x4 x5 x6 σ
    else
      bd (f_X3_isBest r2 x5 x4 x6 σ) fun v1 σ2 =>
      if v1 = 0 then
        f_X3_walkDearest_32 k15 n r2 r3 x4 x5 (x6 + 1) σ2
      else
        f_X3_walkDearest_59 k15 r2 r3 x4 x5 x6 σ2
set_option maxRecDepth 100000 in
set_option maxHeartbeats 4000000 in
theorem b_X3_walkDearest_32 {g : Geo} {x : Cx} (C : Ok g x cX3_walkDearest RX3 7 none rm_X3_walkDearest) (k15 : Nat → Nat → Int32 → Int32 → St → Option (Unit × St)) (hk15 : ∀ (r2 : Nat) (r3 : Nat) (x4 : Int32) (x5 : Int32) (hr2 : kd r2 = 7) (hr3 : kd r3 = 2) (τ : St) (r : Unit) (τ' : St), k15 r2 r3 x4 x5 τ = some (r, τ') → V g x (qm g x none τ') 7 τ [(0, .ref (g.1 2)), (1, .ref (g.1 1)), (2, .ref (g.1 r2)), (3, .ref (g.1 r3)), (4, .int x4), (5, .int x5)] [] 15) : ∀ (n : Nat) (r2 : Nat) (r3 : Nat) (x4 : Int32) (x5 : Int32) (x6 : Int32) (hr2 : kd r2 = 7) (hr3 : kd r3 = 2) (σ : St) (r : Unit) (σ' : St), f_X3_walkDearest_32 k15 n r2 r3 x4 x5 x6 σ = some (r, σ') → V g x (qm g x none σ') 7 σ [(0, .ref (g.1 2)), (1, .ref (g.1 1)), (2, .ref (g.1 r2)), (3, .ref (g.1 r3)), (4, .int x4), (5, .int x5), (6, .int x6)] [] 32 := by
  intro n
  induction n with
  | zero =>
    intro r2 r3 x4 x5 x6 hr2 hr3 σ r σ' h
    rw [f_X3_walkDearest_32] at h
    cases h
  | succ n ih =>
    intro r2 r3 x4 x5 x6 hr2 hr3 σ r σ' h
    rw [f_X3_walkDearest_32] at h
    refine v_iload C dX3_walkDearest_32 6 rfl ?_
    refine v_iconst C (v := (2 : Int32)) dX3_walkDearest_34 (by decide) ?_
    refine v_icmp_ge C (tgt := 59) dX3_walkDearest_35 (by decide) (fun q4 => ?_) (fun q4 => ?_)
    · rw [if_pos q4] at h
      refine V.sub (lv' := [(0, .ref _), (1, .ref _), (2, .ref _), (3, .ref _), (4, .int _), (5, .int _), (6, .int _)]) [0, 1, 2, 3, 4, 5, 6] rfl ?_
      exact b_X3_walkDearest_59 C _ hk15 _ _ _ _ _ hr2 hr3 _ _ _ h
    · rw [if_neg q4] at h
      refine v_aload_n C dX3_walkDearest_38 rfl 0 rfl ?_
      refine v_aload_n C dX3_walkDearest_39 rfl 1 rfl ?_
      refine v_aload_n C dX3_walkDearest_40 rfl 2 rfl ?_
      refine v_iload C dX3_walkDearest_41 5 rfl ?_
      refine v_iload C dX3_walkDearest_43 4 rfl ?_
      refine v_iload C dX3_walkDearest_45 6 rfl ?_
      obtain ⟨v1, σ2, cσ2, h⟩ := bd_some h
      refine callVi C (c_X3_isBest hr2 cσ2) km_X3_isBest kv_X3_isBest rfl ml_RX3_111 rfl rfl (by decide) (Nat.le_of_ble_eq_true rfl) dX3_walkDearest_47 ?_
      refine v_if_ne C (tgt := 59) dX3_walkDearest_50 (by decide) (fun q3 => ?_) (fun q3 => ?_)
      · rw [if_neg q3] at h
        refine V.sub (lv' := [(0, .ref _), (1, .ref _), (2, .ref _), (3, .ref _), (4, .int _), (5, .int _), (6, .int _)]) [0, 1, 2, 3, 4, 5, 6] rfl ?_
        exact b_X3_walkDearest_59 C _ hk15 _ _ _ _ _ hr2 hr3 _ _ _ h
      · rw [if_pos q3] at h
        refine v_iinc C (v := (x6 + 1)) (lv' := [(6, .int _), (0, .ref _), (1, .ref _), (2, .ref _), (3, .ref _), (4, .int _), (5, .int _)]) dX3_walkDearest_53 6 rfl rfl (by decide) rfl ?_
        refine v_goto C (tgt := 32) dX3_walkDearest_56 (by decide) ?_
        refine V.sub (lv' := [(0, .ref _), (1, .ref _), (2, .ref _), (3, .ref _), (4, .int _), (5, .int _), (6, .int _)]) [1, 2, 3, 4, 5, 6, 0] rfl ?_
        exact ih _ _ _ _ _ hr2 hr3 _ _ _ h
def f_X3_walkDearest_15 : Nat → Nat → Nat → Int32 → Int32 → St → Option (Unit × St)
  | 0, _, _, _, _, _ => none
  | n + 1, r2, r3, x4, x5, σ =>
    if (gi σ 1 2) ≤ x5 then
      f_X3_walkDearest_79 σ
    else
      if x4 < 0 then
        f_X3_walkDearest_79 σ
      else
        f_X3_walkDearest_32 (f_X3_walkDearest_15 n) FU r2 r3 x4 x5 (0 : Int32) σ
set_option maxRecDepth 100000 in
set_option maxHeartbeats 4000000 in
theorem b_X3_walkDearest_15 {g : Geo} {x : Cx} (C : Ok g x cX3_walkDearest RX3 7 none rm_X3_walkDearest) : ∀ (n : Nat) (r2 : Nat) (r3 : Nat) (x4 : Int32) (x5 : Int32) (hr2 : kd r2 = 7) (hr3 : kd r3 = 2) (σ : St) (r : Unit) (σ' : St), f_X3_walkDearest_15 n r2 r3 x4 x5 σ = some (r, σ') → V g x (qm g x none σ') 7 σ [(0, .ref (g.1 2)), (1, .ref (g.1 1)), (2, .ref (g.1 r2)), (3, .ref (g.1 r3)), (4, .int x4), (5, .int x5)] [] 15 := by
  intro n
  induction n with
  | zero =>
    intro r2 r3 x4 x5 hr2 hr3 σ r σ' h
    rw [f_X3_walkDearest_15] at h
    cases h
  | succ n ih =>
    intro r2 r3 x4 x5 hr2 hr3 σ r σ' h
    rw [f_X3_walkDearest_15] at h
    refine v_iload C dX3_walkDearest_15 5 rfl ?_
    refine v_aload_n C dX3_walkDearest_17 rfl 1 rfl ?_
    refine v_getI C fl_RX3_38 rfl dX3_walkDearest_18 ?_
    refine v_icmp_ge C (tgt := 79) dX3_walkDearest_21 (by decide) (fun q2 => ?_) (fun q2 => ?_)
    · rw [if_pos q2] at h
      refine V.sub (lv' := []) [] rfl ?_
      exact b_X3_walkDearest_79 C  _ _ _ h
    · rw [if_neg q2] at h
      refine v_iload C dX3_walkDearest_24 4 rfl ?_
      refine v_if_lt C (tgt := 79) dX3_walkDearest_26 (by decide) (fun q1 => ?_) (fun q1 => ?_)
      · rw [if_pos q1] at h
        refine V.sub (lv' := []) [] rfl ?_
        exact b_X3_walkDearest_79 C  _ _ _ h
      · rw [if_neg q1] at h
        refine v_iconst C (v := (0 : Int32)) dX3_walkDearest_29 (by decide) ?_
        refine v_istore C (lv' := [(6, .int _), (0, .ref _), (1, .ref _), (2, .ref _), (3, .ref _), (4, .int _), (5, .int _)]) dX3_walkDearest_30 (by decide) rfl ?_
        refine V.sub (lv' := [(0, .ref _), (1, .ref _), (2, .ref _), (3, .ref _), (4, .int _), (5, .int _), (6, .int _)]) [1, 2, 3, 4, 5, 6, 0] rfl ?_
        exact b_X3_walkDearest_32 C _ ih FU _ _ _ _ _ hr2 hr3 _ _ _ h
def f_X3_walkDearest (q2 : Nat) (q3 : Nat) (σ : St) : Option (Unit × St) :=
  bd (f_X2_clear q3 σ) fun _ σ2 =>
  fI σ2 q3 0 (1 : Int32) fun σ3 =>
  f_X3_walkDearest_15 FU q2 q3 (0 : Int32) (0 : Int32) σ3
set_option maxRecDepth 100000 in
set_option maxHeartbeats 4000000 in
theorem c_X3_walkDearest {g : Geo} {q2 : Nat} {q3 : Nat} (hq2 : kd q2 = 7) (hq3 : kd q3 = 2) {σ : St} {r : Unit} {σ' : St} (h : f_X3_walkDearest q2 q3 σ = some (r, σ')) : Ct g yX3_walkDearest cX3_walkDearest 7 none rm_X3_walkDearest [.ref (g.1 2), .ref (g.1 1), .ref (g.1 q2), .ref (g.1 q3)] σ none σ' := by
  refine ct_of (own := RX3) (by decide) rfl (Nat.le_of_ble_eq_true rfl) (fun x C => ?_) ⟨rfl, rfl⟩
  show V g x _ 7 σ [(0, .ref (g.1 2)), (1, .ref (g.1 1)), (2, .ref (g.1 q2)), (3, .ref (g.1 q3))] [] 0
  unfold f_X3_walkDearest at h
  refine v_aload_n C dX3_walkDearest_0 rfl 3 rfl ?_
  obtain ⟨v1, σ2, cσ2, h⟩ := bd_some h
  refine callVv C (c_X2_clear hq3 cσ2) km_X2_clear kv_X2_clear hq3 ml_RX3_94 rfl rfl (by decide) (Nat.le_of_ble_eq_true rfl) dX3_walkDearest_1 ?_
  refine v_aload_n C dX3_walkDearest_4 rfl 3 rfl ?_
  refine v_iconst C (v := (1 : Int32)) dX3_walkDearest_5 (by decide) ?_
  obtain ⟨σ3, eσ3, h⟩ := fI_ex h
  refine x_putZ C fl_RX3_99 fw_2_0 hq3 (Or.inr rfl) eσ3 dX3_walkDearest_6 ?_
  refine v_iconst C (v := (0 : Int32)) dX3_walkDearest_9 (by decide) ?_
  refine v_istore C (lv' := [(4, .int _), (0, .ref _), (1, .ref _), (2, .ref _), (3, .ref _)]) dX3_walkDearest_10 (by decide) rfl ?_
  refine v_iconst C (v := (0 : Int32)) dX3_walkDearest_12 (by decide) ?_
  refine v_istore C (lv' := [(5, .int _), (4, .int _), (0, .ref _), (1, .ref _), (2, .ref _), (3, .ref _)]) dX3_walkDearest_13 (by decide) rfl ?_
  refine V.sub (lv' := [(0, .ref _), (1, .ref _), (2, .ref _), (3, .ref _), (4, .int _), (5, .int _)]) [2, 3, 4, 5, 1, 0] rfl ?_
  exact b_X3_walkDearest_15 C FU _ _ _ _ hq2 hq3 _ _ _ h
theorem dX3_waysAhead_0 : decode cX3_waysAhead 0 = .ok (.lconst 0, 1) := by decide +kernel
theorem dX3_waysAhead_1 : decode cX3_waysAhead 1 = .ok (.lstore_n 3, 1) := by decide +kernel
theorem dX3_waysAhead_2 : decode cX3_waysAhead 2 = .ok (.iconst 0, 1) := by decide +kernel
theorem dX3_waysAhead_3 : decode cX3_waysAhead 3 = .ok (.istore 5, 2) := by decide +kernel
theorem dX3_waysAhead_5 : decode cX3_waysAhead 5 = .ok (.iconst 0, 1) := by decide +kernel
theorem dX3_waysAhead_6 : decode cX3_waysAhead 6 = .ok (.istore 6, 2) := by decide +kernel
theorem dX3_waysAhead_8 : decode cX3_waysAhead 8 = .ok (.iload 6, 2) := by decide +kernel
theorem dX3_waysAhead_10 : decode cX3_waysAhead 10 = .ok (.aload_n 1, 1) := by decide +kernel
theorem dX3_waysAhead_11 : decode cX3_waysAhead 11 = .ok (.getfield 38, 3) := by decide +kernel
theorem dX3_waysAhead_14 : decode cX3_waysAhead 14 = .ok (.if_icmp .ge 67, 3) := by decide +kernel
theorem dX3_waysAhead_17 : decode cX3_waysAhead 17 = .ok (.iload 5, 2) := by decide +kernel
theorem dX3_waysAhead_19 : decode cX3_waysAhead 19 = .ok (.ifCond .lt 62, 3) := by decide +kernel
theorem dX3_waysAhead_22 : decode cX3_waysAhead 22 = .ok (.iconst 0, 1) := by decide +kernel
theorem dX3_waysAhead_23 : decode cX3_waysAhead 23 = .ok (.aload_n 2, 1) := by decide +kernel
theorem dX3_waysAhead_24 : decode cX3_waysAhead 24 = .ok (.iload 6, 2) := by decide +kernel
theorem dX3_waysAhead_26 : decode cX3_waysAhead 26 = .ok (.invokevirtual 119, 3) := by decide +kernel
theorem dX3_waysAhead_29 : decode cX3_waysAhead 29 = .ok (.invokestatic 88, 3) := by decide +kernel
theorem dX3_waysAhead_32 : decode cX3_waysAhead 32 = .ok (.istore 7, 2) := by decide +kernel
theorem dX3_waysAhead_34 : decode cX3_waysAhead 34 = .ok (.iconst 0, 1) := by decide +kernel
theorem dX3_waysAhead_35 : decode cX3_waysAhead 35 = .ok (.istore 8, 2) := by decide +kernel
theorem dX3_waysAhead_37 : decode cX3_waysAhead 37 = .ok (.iload 8, 2) := by decide +kernel
theorem dX3_waysAhead_39 : decode cX3_waysAhead 39 = .ok (.iload 7, 2) := by decide +kernel
theorem dX3_waysAhead_41 : decode cX3_waysAhead 41 = .ok (.if_icmp .ge 20, 3) := by decide +kernel
theorem dX3_waysAhead_44 : decode cX3_waysAhead 44 = .ok (.lload_n 3, 1) := by decide +kernel
theorem dX3_waysAhead_45 : decode cX3_waysAhead 45 = .ok (.aload_n 0, 1) := by decide +kernel
theorem dX3_waysAhead_46 : decode cX3_waysAhead 46 = .ok (.iload 5, 2) := by decide +kernel
theorem dX3_waysAhead_48 : decode cX3_waysAhead 48 = .ok (.iload 8, 2) := by decide +kernel
theorem dX3_waysAhead_50 : decode cX3_waysAhead 50 = .ok (.invokevirtual 103, 3) := by decide +kernel
theorem dX3_waysAhead_53 : decode cX3_waysAhead 53 = .ok (.ladd, 1) := by decide +kernel
theorem dX3_waysAhead_54 : decode cX3_waysAhead 54 = .ok (.lstore_n 3, 1) := by decide +kernel
theorem dX3_waysAhead_55 : decode cX3_waysAhead 55 = .ok (.iinc 8 1, 3) := by decide +kernel
theorem dX3_waysAhead_58 : decode cX3_waysAhead 58 = .ok (.goto (-21), 3) := by decide +kernel
theorem dX3_waysAhead_61 : decode cX3_waysAhead 61 = .ok (.aload_n 0, 1) := by decide +kernel
theorem dX3_waysAhead_62 : decode cX3_waysAhead 62 = .ok (.getfield 18, 3) := by decide +kernel
theorem dX3_waysAhead_65 : decode cX3_waysAhead 65 = .ok (.iload 5, 2) := by decide +kernel
theorem dX3_waysAhead_67 : decode cX3_waysAhead 67 = .ok (.iconst 3, 1) := by decide +kernel
theorem dX3_waysAhead_68 : decode cX3_waysAhead 68 = .ok (.imul, 1) := by decide +kernel
theorem dX3_waysAhead_69 : decode cX3_waysAhead 69 = .ok (.iload 7, 2) := by decide +kernel
theorem dX3_waysAhead_71 : decode cX3_waysAhead 71 = .ok (.iadd, 1) := by decide +kernel
theorem dX3_waysAhead_72 : decode cX3_waysAhead 72 = .ok (.iaload, 1) := by decide +kernel
theorem dX3_waysAhead_73 : decode cX3_waysAhead 73 = .ok (.istore 5, 2) := by decide +kernel
theorem dX3_waysAhead_75 : decode cX3_waysAhead 75 = .ok (.iinc 6 1, 3) := by decide +kernel
theorem dX3_waysAhead_78 : decode cX3_waysAhead 78 = .ok (.goto (-70), 3) := by decide +kernel
theorem dX3_waysAhead_81 : decode cX3_waysAhead 81 = .ok (.lload_n 3, 1) := by decide +kernel
theorem dX3_waysAhead_82 : decode cX3_waysAhead 82 = .ok (.lreturn, 1) := by decide +kernel
def f_X3_waysAhead_81 (x3 : Int64) (σ : St) : Option (Int64 × St) :=
  some (x3, σ)
set_option maxRecDepth 100000 in
set_option maxHeartbeats 4000000 in
theorem b_X3_waysAhead_81 {g : Geo} {x : Cx} (C : Ok g x cX3_waysAhead RX3 9 (some .long) rm_X3_waysAhead) : ∀ (x3 : Int64) (σ : St) (r : Int64) (σ' : St), f_X3_waysAhead_81 x3 σ = some (r, σ') → V g x (qm g x (some (.long r)) σ') 9 σ [(3, .long x3)] [] 81 := by
  intro x3 σ r σ' h
  unfold f_X3_waysAhead_81 at h
  refine v_lload_n C dX3_waysAhead_81 rfl 0 rfl ?_
  cases h
  exact v_lret C dX3_waysAhead_82
def f_X3_waysAhead_37 (k8 : Nat → Int64 → Int32 → Int32 → St → Option (Int64 × St)) : Nat → Nat → Int64 → Int32 → Int32 → Int32 → Int32 → St → Option (Int64 × St)
  | 0, _, _, _, _, _, _, _ => none
  | n + 1, r2, x3, x5, x6, x7, x8, σ =>
    if x7 ≤ x8 then
      rdI σ 19 ((x5 * (3 : Int32)) + x7) fun v1 =>
      k8 r2 x3 v1 (x6 + 1) σ
    else
      bd (f_X3_onwardBy x5 x8 σ) fun v2 σ3 =>
      f_X3_waysAhead_37 k8 n r2 (x3 + v2) x5 x6 x7 (x8 + 1) σ3
set_option maxRecDepth 100000 in
set_option maxHeartbeats 4000000 in
theorem b_X3_waysAhead_37 {g : Geo} {x : Cx} (C : Ok g x cX3_waysAhead RX3 9 (some .long) rm_X3_waysAhead) (k8 : Nat → Int64 → Int32 → Int32 → St → Option (Int64 × St)) (hk8 : ∀ (r2 : Nat) (x3 : Int64) (x5 : Int32) (x6 : Int32) (hr2 : kd r2 = 2) (τ : St) (r : Int64) (τ' : St), k8 r2 x3 x5 x6 τ = some (r, τ') → V g x (qm g x (some (.long r)) τ') 9 τ [(0, .ref (g.1 2)), (1, .ref (g.1 1)), (2, .ref (g.1 r2)), (3, .long x3), (5, .int x5), (6, .int x6)] [] 8) : ∀ (n : Nat) (r2 : Nat) (x3 : Int64) (x5 : Int32) (x6 : Int32) (x7 : Int32) (x8 : Int32) (hr2 : kd r2 = 2) (σ : St) (r : Int64) (σ' : St), f_X3_waysAhead_37 k8 n r2 x3 x5 x6 x7 x8 σ = some (r, σ') → V g x (qm g x (some (.long r)) σ') 9 σ [(0, .ref (g.1 2)), (1, .ref (g.1 1)), (2, .ref (g.1 r2)), (3, .long x3), (5, .int x5), (6, .int x6), (7, .int x7), (8, .int x8)] [] 37 := by
  intro n
  induction n with
  | zero =>
    intro r2 x3 x5 x6 x7 x8 hr2 σ r σ' h
    rw [f_X3_waysAhead_37] at h
    cases h
  | succ n ih =>
    intro r2 x3 x5 x6 x7 x8 hr2 σ r σ' h
    rw [f_X3_waysAhead_37] at h
    refine v_iload C dX3_waysAhead_37 7 rfl ?_
    refine v_iload C dX3_waysAhead_39 6 rfl ?_
    refine v_icmp_ge C (tgt := 61) dX3_waysAhead_41 (by decide) (fun q4 => ?_) (fun q4 => ?_)
    · rw [if_pos q4] at h
      refine v_aload_n C dX3_waysAhead_61 rfl 0 rfl ?_
      refine v_getR C (p' := 19) fl_RX3_18 rfl rfl dX3_waysAhead_62 ?_
      refine v_iload C dX3_waysAhead_65 4 rfl ?_
      refine v_iconst C (v := (3 : Int32)) dX3_waysAhead_67 (by decide) ?_
      refine v_imul C dX3_waysAhead_68 ?_
      refine v_iload C dX3_waysAhead_69 6 rfl ?_
      refine v_iadd C dX3_waysAhead_71 ?_
      obtain ⟨nv1, v1, ev1, h⟩ := rdI_ex h
      refine x_iald C rfl nv1 ev1 dX3_waysAhead_72 ?_
      refine v_istore C (lv' := [(5, .int _), (0, .ref _), (1, .ref _), (2, .ref _), (3, .long _), (6, .int _), (7, .int _), (8, .int _)]) dX3_waysAhead_73 (by decide) rfl ?_
      refine v_iinc C (v := (x6 + 1)) (lv' := [(6, .int _), (5, .int _), (0, .ref _), (1, .ref _), (2, .ref _), (3, .long _), (7, .int _), (8, .int _)]) dX3_waysAhead_75 5 rfl rfl (by decide) rfl ?_
      refine v_goto C (tgt := 8) dX3_waysAhead_78 (by decide) ?_
      refine V.sub (lv' := [(0, .ref _), (1, .ref _), (2, .ref _), (3, .long _), (5, .int _), (6, .int _)]) [2, 3, 4, 5, 1, 0] rfl ?_
      exact hk8 _ _ _ _ hr2 _ _ _ h
    · rw [if_neg q4] at h
      refine v_lload_n C dX3_waysAhead_44 rfl 3 rfl ?_
      refine v_aload_n C dX3_waysAhead_45 rfl 0 rfl ?_
      refine v_iload C dX3_waysAhead_46 4 rfl ?_
      refine v_iload C dX3_waysAhead_48 7 rfl ?_
      obtain ⟨v2, σ3, cσ3, h⟩ := bd_some h
      refine callVl C (c_X3_onwardBy cσ3) km_X3_onwardBy kv_X3_onwardBy rfl ml_RX3_103 rfl rfl (by decide) (Nat.le_of_ble_eq_true rfl) dX3_waysAhead_50 ?_
      refine v_ladd C dX3_waysAhead_53 ?_
      refine v_lstore_n C (lv' := [(3, .long _), (0, .ref _), (1, .ref _), (2, .ref _), (5, .int _), (6, .int _), (7, .int _), (8, .int _)]) dX3_waysAhead_54 rfl (by decide) rfl ?_
      refine v_iinc C (v := (x8 + 1)) (lv' := [(8, .int _), (3, .long _), (0, .ref _), (1, .ref _), (2, .ref _), (5, .int _), (6, .int _), (7, .int _)]) dX3_waysAhead_55 7 rfl rfl (by decide) rfl ?_
      refine v_goto C (tgt := 37) dX3_waysAhead_58 (by decide) ?_
      refine V.sub (lv' := [(0, .ref _), (1, .ref _), (2, .ref _), (3, .long _), (5, .int _), (6, .int _), (7, .int _), (8, .int _)]) [2, 3, 4, 1, 5, 6, 7, 0] rfl ?_
      exact ih _ _ _ _ _ _ hr2 _ _ _ h
def f_X3_waysAhead_8 : Nat → Nat → Int64 → Int32 → Int32 → St → Option (Int64 × St)
  | 0, _, _, _, _, _ => none
  | n + 1, r2, x3, x5, x6, σ =>
    if (gi σ 1 2) ≤ x6 then
      f_X3_waysAhead_81 x3 σ
    else
      if x5 < 0 then
        f_X3_waysAhead_81 x3 σ
      else
        bd (f_X2_kindAt r2 x6 σ) fun v1 σ2 =>
        f_X3_waysAhead_37 (f_X3_waysAhead_8 n) FU r2 x3 x5 x6 (jmax (0 : Int32) v1) (0 : Int32) σ2
set_option maxRecDepth 100000 in
set_option maxHeartbeats 4000000 in
theorem b_X3_waysAhead_8 {g : Geo} {x : Cx} (C : Ok g x cX3_waysAhead RX3 9 (some .long) rm_X3_waysAhead) : ∀ (n : Nat) (r2 : Nat) (x3 : Int64) (x5 : Int32) (x6 : Int32) (hr2 : kd r2 = 2) (σ : St) (r : Int64) (σ' : St), f_X3_waysAhead_8 n r2 x3 x5 x6 σ = some (r, σ') → V g x (qm g x (some (.long r)) σ') 9 σ [(0, .ref (g.1 2)), (1, .ref (g.1 1)), (2, .ref (g.1 r2)), (3, .long x3), (5, .int x5), (6, .int x6)] [] 8 := by
  intro n
  induction n with
  | zero =>
    intro r2 x3 x5 x6 hr2 σ r σ' h
    rw [f_X3_waysAhead_8] at h
    cases h
  | succ n ih =>
    intro r2 x3 x5 x6 hr2 σ r σ' h
    rw [f_X3_waysAhead_8] at h
    refine v_iload C dX3_waysAhead_8 5 rfl ?_
    refine v_aload_n C dX3_waysAhead_10 rfl 1 rfl ?_
    refine v_getI C fl_RX3_38 rfl dX3_waysAhead_11 ?_
    refine v_icmp_ge C (tgt := 81) dX3_waysAhead_14 (by decide) (fun q4 => ?_) (fun q4 => ?_)
    · rw [if_pos q4] at h
      refine V.sub (lv' := [(3, .long _)]) [3] rfl ?_
      exact b_X3_waysAhead_81 C _  _ _ _ h
    · rw [if_neg q4] at h
      refine v_iload C dX3_waysAhead_17 4 rfl ?_
      refine v_if_lt C (tgt := 81) dX3_waysAhead_19 (by decide) (fun q3 => ?_) (fun q3 => ?_)
      · rw [if_pos q3] at h
        refine V.sub (lv' := [(3, .long _)]) [3] rfl ?_
        exact b_X3_waysAhead_81 C _  _ _ _ h
      · rw [if_neg q3] at h
        refine v_iconst C (v := (0 : Int32)) dX3_waysAhead_22 (by decide) ?_
        refine v_aload_n C dX3_waysAhead_23 rfl 2 rfl ?_
        refine v_iload C dX3_waysAhead_24 5 rfl ?_
        obtain ⟨v1, σ2, cσ2, h⟩ := bd_some h
        refine callVi C (c_X2_kindAt hr2 cσ2) km_X2_kindAt kv_X2_kindAt hr2 ml_RX3_119 rfl rfl (by decide) (Nat.le_of_ble_eq_true rfl) dX3_waysAhead_26 ?_
        refine v_max C kx_RX3_88 (by decide) (Nat.le_of_ble_eq_true rfl) dX3_waysAhead_29 ?_
        refine v_istore C (lv' := [(7, .int _), (0, .ref _), (1, .ref _), (2, .ref _), (3, .long _), (5, .int _), (6, .int _)]) dX3_waysAhead_32 (by decide) rfl ?_
        refine v_iconst C (v := (0 : Int32)) dX3_waysAhead_34 (by decide) ?_
        refine v_istore C (lv' := [(8, .int _), (7, .int _), (0, .ref _), (1, .ref _), (2, .ref _), (3, .long _), (5, .int _), (6, .int _)]) dX3_waysAhead_35 (by decide) rfl ?_
        refine V.sub (lv' := [(0, .ref _), (1, .ref _), (2, .ref _), (3, .long _), (5, .int _), (6, .int _), (7, .int _), (8, .int _)]) [2, 3, 4, 5, 6, 7, 1, 0] rfl ?_
        exact b_X3_waysAhead_37 C _ ih FU _ _ _ _ _ _ hr2 _ _ _ h
def f_X3_waysAhead (q2 : Nat) (σ : St) : Option (Int64 × St) :=
  f_X3_waysAhead_8 FU q2 (0 : Int64) (0 : Int32) (0 : Int32) σ
set_option maxRecDepth 100000 in
set_option maxHeartbeats 4000000 in
theorem c_X3_waysAhead {g : Geo} {q2 : Nat} (hq2 : kd q2 = 2) {σ : St} {r : Int64} {σ' : St} (h : f_X3_waysAhead q2 σ = some (r, σ')) : Ct g yX3_waysAhead cX3_waysAhead 9 (some .long) rm_X3_waysAhead [.ref (g.1 2), .ref (g.1 1), .ref (g.1 q2)] σ (some (.long r)) σ' := by
  refine ct_of (own := RX3) (by decide) rfl (Nat.le_of_ble_eq_true rfl) (fun x C => ?_) ⟨rfl, rfl⟩
  show V g x _ 9 σ [(0, .ref (g.1 2)), (1, .ref (g.1 1)), (2, .ref (g.1 q2))] [] 0
  unfold f_X3_waysAhead at h
  refine v_lconst C (v := (0 : Int64)) dX3_waysAhead_0 (by decide) ?_
  refine v_lstore_n C (lv' := [(3, .long _), (0, .ref _), (1, .ref _), (2, .ref _)]) dX3_waysAhead_1 rfl (by decide) rfl ?_
  refine v_iconst C (v := (0 : Int32)) dX3_waysAhead_2 (by decide) ?_
  refine v_istore C (lv' := [(5, .int _), (3, .long _), (0, .ref _), (1, .ref _), (2, .ref _)]) dX3_waysAhead_3 (by decide) rfl ?_
  refine v_iconst C (v := (0 : Int32)) dX3_waysAhead_5 (by decide) ?_
  refine v_istore C (lv' := [(6, .int _), (5, .int _), (3, .long _), (0, .ref _), (1, .ref _), (2, .ref _)]) dX3_waysAhead_6 (by decide) rfl ?_
  refine V.sub (lv' := [(0, .ref _), (1, .ref _), (2, .ref _), (3, .long _), (5, .int _), (6, .int _)]) [3, 4, 5, 2, 1, 0] rfl ?_
  exact b_X3_waysAhead_8 C FU _ _ _ _ hq2 _ _ _ h
theorem dX4_forget_0 : decode cX4_forget 0 = .ok (.aload_n 0, 1) := by decide +kernel
theorem dX4_forget_1 : decode cX4_forget 1 = .ok (.getfield 21, 3) := by decide +kernel
theorem dX4_forget_4 : decode cX4_forget 4 = .ok (.invokevirtual 28, 3) := by decide +kernel
theorem dX4_forget_7 : decode cX4_forget 7 = .ok (.return_, 1) := by decide +kernel
def f_X4_forget (σ : St) : Option (Unit × St) :=
  bd (f_X2_clear 12 σ) fun _ σ2 =>
  some ((), σ2)
set_option maxRecDepth 100000 in
set_option maxHeartbeats 4000000 in
theorem c_X4_forget {g : Geo} {σ : St} {r : Unit} {σ' : St} (h : f_X4_forget σ = some (r, σ')) : Ct g yX4_forget cX4_forget 1 none rm_X4_forget [.ref (g.1 4)] σ none σ' := by
  refine ct_of (own := RX4) (by decide) rfl (Nat.le_of_ble_eq_true rfl) (fun x C => ?_) ⟨rfl, rfl⟩
  show V g x _ 1 σ [(0, .ref (g.1 4))] [] 0
  unfold f_X4_forget at h
  refine v_aload_n C dX4_forget_0 rfl 0 rfl ?_
  refine v_getR C (p' := 12) fl_RX4_21 rfl rfl dX4_forget_1 ?_
  obtain ⟨v1, σ2, cσ2, h⟩ := bd_some h
  refine callVv C (c_X2_clear rfl cσ2) km_X2_clear kv_X2_clear rfl ml_RX4_28 rfl rfl (by decide) (Nat.le_of_ble_eq_true rfl) dX4_forget_4 ?_
  cases h
  exact v_vret C dX4_forget_7
theorem dX4_toEnd_0 : decode cX4_toEnd 0 = .ok (.iconst 0, 1) := by decide +kernel
theorem dX4_toEnd_1 : decode cX4_toEnd 1 = .ok (.istore 4, 2) := by decide +kernel
theorem dX4_toEnd_3 : decode cX4_toEnd 3 = .ok (.iconst 0, 1) := by decide +kernel
theorem dX4_toEnd_4 : decode cX4_toEnd 4 = .ok (.istore 5, 2) := by decide +kernel
theorem dX4_toEnd_6 : decode cX4_toEnd 6 = .ok (.iload 5, 2) := by decide +kernel
theorem dX4_toEnd_8 : decode cX4_toEnd 8 = .ok (.sipush 1000, 3) := by decide +kernel
theorem dX4_toEnd_11 : decode cX4_toEnd 11 = .ok (.if_icmp .ge 58, 3) := by decide +kernel
theorem dX4_toEnd_14 : decode cX4_toEnd 14 = .ok (.iload_n 3, 1) := by decide +kernel
theorem dX4_toEnd_15 : decode cX4_toEnd 15 = .ok (.ifCond .eq 11, 3) := by decide +kernel
theorem dX4_toEnd_18 : decode cX4_toEnd 18 = .ok (.aload_n 2, 1) := by decide +kernel
theorem dX4_toEnd_19 : decode cX4_toEnd 19 = .ok (.aload_n 1, 1) := by decide +kernel
theorem dX4_toEnd_20 : decode cX4_toEnd 20 = .ok (.invokevirtual 31, 3) := by decide +kernel
theorem dX4_toEnd_23 : decode cX4_toEnd 23 = .ok (.goto 8, 3) := by decide +kernel
theorem dX4_toEnd_26 : decode cX4_toEnd 26 = .ok (.aload_n 2, 1) := by decide +kernel
theorem dX4_toEnd_27 : decode cX4_toEnd 27 = .ok (.aload_n 1, 1) := by decide +kernel
theorem dX4_toEnd_28 : decode cX4_toEnd 28 = .ok (.invokevirtual 35, 3) := by decide +kernel
theorem dX4_toEnd_31 : decode cX4_toEnd 31 = .ok (.lstore 6, 2) := by decide +kernel
theorem dX4_toEnd_33 : decode cX4_toEnd 33 = .ok (.lload 6, 2) := by decide +kernel
theorem dX4_toEnd_35 : decode cX4_toEnd 35 = .ok (.lconst 0, 1) := by decide +kernel
theorem dX4_toEnd_36 : decode cX4_toEnd 36 = .ok (.lcmp, 1) := by decide +kernel
theorem dX4_toEnd_37 : decode cX4_toEnd 37 = .ok (.ifCond .ne 6, 3) := by decide +kernel
theorem dX4_toEnd_40 : decode cX4_toEnd 40 = .ok (.iload 4, 2) := by decide +kernel
theorem dX4_toEnd_42 : decode cX4_toEnd 42 = .ok (.ireturn, 1) := by decide +kernel
theorem dX4_toEnd_43 : decode cX4_toEnd 43 = .ok (.iload 4, 2) := by decide +kernel
theorem dX4_toEnd_45 : decode cX4_toEnd 45 = .ok (.lload 6, 2) := by decide +kernel
theorem dX4_toEnd_47 : decode cX4_toEnd 47 = .ok (.invokestatic 38, 3) := by decide +kernel
theorem dX4_toEnd_50 : decode cX4_toEnd 50 = .ok (.iadd, 1) := by decide +kernel
theorem dX4_toEnd_51 : decode cX4_toEnd 51 = .ok (.istore 4, 2) := by decide +kernel
theorem dX4_toEnd_53 : decode cX4_toEnd 53 = .ok (.aload_n 2, 1) := by decide +kernel
theorem dX4_toEnd_54 : decode cX4_toEnd 54 = .ok (.lload 6, 2) := by decide +kernel
theorem dX4_toEnd_56 : decode cX4_toEnd 56 = .ok (.aload_n 1, 1) := by decide +kernel
theorem dX4_toEnd_57 : decode cX4_toEnd 57 = .ok (.getfield 44, 3) := by decide +kernel
theorem dX4_toEnd_60 : decode cX4_toEnd 60 = .ok (.invokevirtual 50, 3) := by decide +kernel
theorem dX4_toEnd_63 : decode cX4_toEnd 63 = .ok (.iinc 5 1, 3) := by decide +kernel
theorem dX4_toEnd_66 : decode cX4_toEnd 66 = .ok (.goto (-60), 3) := by decide +kernel
theorem dX4_toEnd_69 : decode cX4_toEnd 69 = .ok (.iload 4, 2) := by decide +kernel
theorem dX4_toEnd_71 : decode cX4_toEnd 71 = .ok (.ireturn, 1) := by decide +kernel
def f_X4_toEnd_31 (k6 : Nat → Int32 → Int32 → Int32 → St → Option (Int32 × St)) (r2 : Nat) (x3 : Int32) (x4 : Int32) (x5 : Int32) (s0 : Int64) (σ : St) : Option (Int32 × St) :=
  if s0 = (0 : Int64) then
    some (x4, σ)
  else
    bd (f_J13_bitCount_95d88 s0 σ) fun v1 σ2 =>
    bd (f_X2_flip r2 s0 (gi σ2 1 0) σ2) fun _ σ4 =>
    k6 r2 x3 (x4 + v1) (x5 + 1) σ4
set_option maxRecDepth 100000 in
set_option maxHeartbeats 4000000 in
theorem b_X4_toEnd_31 {g : Geo} {x : Cx} (C : Ok g x cX4_toEnd RX4 8 (some .int) rm_X4_toEnd) (k6 : Nat → Int32 → Int32 → Int32 → St → Option (Int32 × St)) (hk6 : ∀ (r2 : Nat) (x3 : Int32) (x4 : Int32) (x5 : Int32) (hr2 : kd r2 = 2) (τ : St) (r : Int32) (τ' : St), k6 r2 x3 x4 x5 τ = some (r, τ') → V g x (qm g x (some (.int r)) τ') 8 τ [(1, .ref (g.1 1)), (2, .ref (g.1 r2)), (3, .int x3), (4, .int x4), (5, .int x5)] [] 6) : ∀ (r2 : Nat) (x3 : Int32) (x4 : Int32) (x5 : Int32) (s0 : Int64) (hr2 : kd r2 = 2) (σ : St) (r : Int32) (σ' : St), f_X4_toEnd_31 k6 r2 x3 x4 x5 s0 σ = some (r, σ') → V g x (qm g x (some (.int r)) σ') 8 σ [(1, .ref (g.1 1)), (2, .ref (g.1 r2)), (3, .int x3), (4, .int x4), (5, .int x5)] [.long s0] 31 := by
  intro r2 x3 x4 x5 s0 hr2 σ r σ' h
  unfold f_X4_toEnd_31 at h
  refine v_lstore C (lv' := [(6, .long _), (1, .ref _), (2, .ref _), (3, .int _), (4, .int _), (5, .int _)]) dX4_toEnd_31 (by decide) rfl ?_
  refine v_lload C dX4_toEnd_33 0 rfl ?_
  refine v_lconst C (v := (0 : Int64)) dX4_toEnd_35 (by decide) ?_
  refine v_lcmp_ne C (tgt := 43) dX4_toEnd_36 dX4_toEnd_37 (by decide) (fun q5 => ?_) (fun q5 => ?_)
  · rw [if_neg q5] at h
    refine v_iload C dX4_toEnd_43 4 rfl ?_
    refine v_lload C dX4_toEnd_45 0 rfl ?_
    obtain ⟨v1, σ2, cσ2, h⟩ := bd_some h
    refine callSi C (c_J13_bitCount_95d88 cσ2) km_J13_bitCount_95d88 ks_J13_bitCount_95d88 ml_RX4_38 rfl rfl (by decide) (Nat.le_of_ble_eq_true rfl) dX4_toEnd_47 ?_
    refine v_iadd C dX4_toEnd_50 ?_
    refine v_istore C (lv' := [(4, .int _), (6, .long _), (1, .ref _), (2, .ref _), (3, .int _), (5, .int _)]) dX4_toEnd_51 (by decide) rfl ?_
    refine v_aload_n C dX4_toEnd_53 rfl 3 rfl ?_
    refine v_lload C dX4_toEnd_54 1 rfl ?_
    refine v_aload_n C dX4_toEnd_56 rfl 2 rfl ?_
    refine v_getI C fl_RX4_44 rfl dX4_toEnd_57 ?_
    obtain ⟨v3, σ4, cσ4, h⟩ := bd_some h
    refine callVv C (c_X2_flip hr2 cσ4) km_X2_flip kv_X2_flip hr2 ml_RX4_50 rfl rfl (by decide) (Nat.le_of_ble_eq_true rfl) dX4_toEnd_60 ?_
    refine v_iinc C (v := (x5 + 1)) (lv' := [(5, .int _), (4, .int _), (6, .long _), (1, .ref _), (2, .ref _), (3, .int _)]) dX4_toEnd_63 5 rfl rfl (by decide) rfl ?_
    refine v_goto C (tgt := 6) dX4_toEnd_66 (by decide) ?_
    refine V.sub (lv' := [(1, .ref _), (2, .ref _), (3, .int _), (4, .int _), (5, .int _)]) [3, 4, 5, 1, 0] rfl ?_
    exact hk6 _ _ _ _ hr2 _ _ _ h
  · rw [if_pos q5] at h
    refine v_iload C dX4_toEnd_40 4 rfl ?_
    cases h
    exact v_iret C dX4_toEnd_42
def f_X4_toEnd_6 : Nat → Nat → Int32 → Int32 → Int32 → St → Option (Int32 × St)
  | 0, _, _, _, _, _ => none
  | n + 1, r2, x3, x4, x5, σ =>
    if (1000 : Int32) ≤ x5 then
      some (x4, σ)
    else
      if x3 = 0 then
        bd (f_X2_highs r2 σ) fun v1 σ2 =>
        f_X4_toEnd_31 (f_X4_toEnd_6 n) r2 x3 x4 x5 v1 σ2
      else
        bd (f_X2_lows r2 σ) fun v3 σ4 =>
        f_X4_toEnd_31 (f_X4_toEnd_6 n) r2 x3 x4 x5 v3 σ4
set_option maxRecDepth 100000 in
set_option maxHeartbeats 4000000 in
theorem b_X4_toEnd_6 {g : Geo} {x : Cx} (C : Ok g x cX4_toEnd RX4 8 (some .int) rm_X4_toEnd) : ∀ (n : Nat) (r2 : Nat) (x3 : Int32) (x4 : Int32) (x5 : Int32) (hr2 : kd r2 = 2) (σ : St) (r : Int32) (σ' : St), f_X4_toEnd_6 n r2 x3 x4 x5 σ = some (r, σ') → V g x (qm g x (some (.int r)) σ') 8 σ [(1, .ref (g.1 1)), (2, .ref (g.1 r2)), (3, .int x3), (4, .int x4), (5, .int x5)] [] 6 := by
  intro n
  induction n with
  | zero =>
    intro r2 x3 x4 x5 hr2 σ r σ' h
    rw [f_X4_toEnd_6] at h
    cases h
  | succ n ih =>
    intro r2 x3 x4 x5 hr2 σ r σ' h
    rw [f_X4_toEnd_6] at h
    refine v_iload C dX4_toEnd_6 4 rfl ?_
    refine v_sipush C (v := (1000 : Int32)) dX4_toEnd_8 (by decide) ?_
    refine v_icmp_ge C (tgt := 69) dX4_toEnd_11 (by decide) (fun q6 => ?_) (fun q6 => ?_)
    · rw [if_pos q6] at h
      refine v_iload C dX4_toEnd_69 3 rfl ?_
      cases h
      exact v_iret C dX4_toEnd_71
    · rw [if_neg q6] at h
      refine v_iload_n C dX4_toEnd_14 rfl 2 rfl ?_
      refine v_if_eq C (tgt := 26) dX4_toEnd_15 (by decide) (fun q5 => ?_) (fun q5 => ?_)
      · rw [if_pos q5] at h
        refine v_aload_n C dX4_toEnd_26 rfl 1 rfl ?_
        refine v_aload_n C dX4_toEnd_27 rfl 0 rfl ?_
        obtain ⟨v1, σ2, cσ2, h⟩ := bd_some h
        refine callVl C (c_X2_highs hr2 cσ2) km_X2_highs kv_X2_highs hr2 ml_RX4_35 rfl rfl (by decide) (Nat.le_of_ble_eq_true rfl) dX4_toEnd_28 ?_
        refine V.sub (lv' := [(1, .ref _), (2, .ref _), (3, .int _), (4, .int _), (5, .int _)]) [0, 1, 2, 3, 4] rfl ?_
        exact b_X4_toEnd_31 C _ ih _ _ _ _ _ hr2 _ _ _ h
      · rw [if_neg q5] at h
        refine v_aload_n C dX4_toEnd_18 rfl 1 rfl ?_
        refine v_aload_n C dX4_toEnd_19 rfl 0 rfl ?_
        obtain ⟨v3, σ4, cσ4, h⟩ := bd_some h
        refine callVl C (c_X2_lows hr2 cσ4) km_X2_lows kv_X2_lows hr2 ml_RX4_31 rfl rfl (by decide) (Nat.le_of_ble_eq_true rfl) dX4_toEnd_20 ?_
        refine v_goto C (tgt := 31) dX4_toEnd_23 (by decide) ?_
        refine V.sub (lv' := [(1, .ref _), (2, .ref _), (3, .int _), (4, .int _), (5, .int _)]) [0, 1, 2, 3, 4] rfl ?_
        exact b_X4_toEnd_31 C _ ih _ _ _ _ _ hr2 _ _ _ h
def f_X4_toEnd (q2 : Nat) (a3 : Int32) (σ : St) : Option (Int32 × St) :=
  f_X4_toEnd_6 FU q2 a3 (0 : Int32) (0 : Int32) σ
set_option maxRecDepth 100000 in
set_option maxHeartbeats 4000000 in
theorem c_X4_toEnd {g : Geo} {q2 : Nat} {a3 : Int32} (hq2 : kd q2 = 2) {σ : St} {r : Int32} {σ' : St} (h : f_X4_toEnd q2 a3 σ = some (r, σ')) : Ct g yX4_toEnd cX4_toEnd 8 (some .int) rm_X4_toEnd [.ref (g.1 4), .ref (g.1 1), .ref (g.1 q2), .int a3] σ (some (.int r)) σ' := by
  refine ct_of (own := RX4) (by decide) rfl (Nat.le_of_ble_eq_true rfl) (fun x C => ?_) ⟨rfl, rfl⟩
  show V g x _ 8 σ [(0, .ref (g.1 4)), (1, .ref (g.1 1)), (2, .ref (g.1 q2)), (3, .int a3)] [] 0
  unfold f_X4_toEnd at h
  refine v_iconst C (v := (0 : Int32)) dX4_toEnd_0 (by decide) ?_
  refine v_istore C (lv' := [(4, .int _), (0, .ref _), (1, .ref _), (2, .ref _), (3, .int _)]) dX4_toEnd_1 (by decide) rfl ?_
  refine v_iconst C (v := (0 : Int32)) dX4_toEnd_3 (by decide) ?_
  refine v_istore C (lv' := [(5, .int _), (4, .int _), (0, .ref _), (1, .ref _), (2, .ref _), (3, .int _)]) dX4_toEnd_4 (by decide) rfl ?_
  refine V.sub (lv' := [(1, .ref _), (2, .ref _), (3, .int _), (4, .int _), (5, .int _)]) [3, 4, 5, 1, 0] rfl ?_
  exact b_X4_toEnd_6 C FU _ _ _ _ hq2 _ _ _ h
theorem dX4_sinkTallied_0 : decode cX4_sinkTallied 0 = .ok (.iconst 0, 1) := by decide +kernel
theorem dX4_sinkTallied_1 : decode cX4_sinkTallied 1 = .ok (.istore 4, 2) := by decide +kernel
theorem dX4_sinkTallied_3 : decode cX4_sinkTallied 3 = .ok (.iload 4, 2) := by decide +kernel
theorem dX4_sinkTallied_5 : decode cX4_sinkTallied 5 = .ok (.sipush 1000, 3) := by decide +kernel
theorem dX4_sinkTallied_8 : decode cX4_sinkTallied 8 = .ok (.if_icmp .ge 73, 3) := by decide +kernel
theorem dX4_sinkTallied_11 : decode cX4_sinkTallied 11 = .ok (.aload_n 2, 1) := by decide +kernel
theorem dX4_sinkTallied_12 : decode cX4_sinkTallied 12 = .ok (.aload_n 1, 1) := by decide +kernel
theorem dX4_sinkTallied_13 : decode cX4_sinkTallied 13 = .ok (.invokevirtual 35, 3) := by decide +kernel
theorem dX4_sinkTallied_16 : decode cX4_sinkTallied 16 = .ok (.lstore 5, 2) := by decide +kernel
theorem dX4_sinkTallied_18 : decode cX4_sinkTallied 18 = .ok (.lload 5, 2) := by decide +kernel
theorem dX4_sinkTallied_20 : decode cX4_sinkTallied 20 = .ok (.lconst 0, 1) := by decide +kernel
theorem dX4_sinkTallied_21 : decode cX4_sinkTallied 21 = .ok (.lcmp, 1) := by decide +kernel
theorem dX4_sinkTallied_22 : decode cX4_sinkTallied 22 = .ok (.ifCond .ne 4, 3) := by decide +kernel
theorem dX4_sinkTallied_25 : decode cX4_sinkTallied 25 = .ok (.return_, 1) := by decide +kernel
theorem dX4_sinkTallied_26 : decode cX4_sinkTallied 26 = .ok (.iconst 0, 1) := by decide +kernel
theorem dX4_sinkTallied_27 : decode cX4_sinkTallied 27 = .ok (.istore 7, 2) := by decide +kernel
theorem dX4_sinkTallied_29 : decode cX4_sinkTallied 29 = .ok (.iload 7, 2) := by decide +kernel
theorem dX4_sinkTallied_31 : decode cX4_sinkTallied 31 = .ok (.bipush 64, 2) := by decide +kernel
theorem dX4_sinkTallied_33 : decode cX4_sinkTallied 33 = .ok (.if_icmp .ge 32, 3) := by decide +kernel
theorem dX4_sinkTallied_36 : decode cX4_sinkTallied 36 = .ok (.lload 5, 2) := by decide +kernel
theorem dX4_sinkTallied_38 : decode cX4_sinkTallied 38 = .ok (.iload 7, 2) := by decide +kernel
theorem dX4_sinkTallied_40 : decode cX4_sinkTallied 40 = .ok (.lushr, 1) := by decide +kernel
theorem dX4_sinkTallied_41 : decode cX4_sinkTallied 41 = .ok (.lconst 1, 1) := by decide +kernel
theorem dX4_sinkTallied_42 : decode cX4_sinkTallied 42 = .ok (.land, 1) := by decide +kernel
theorem dX4_sinkTallied_43 : decode cX4_sinkTallied 43 = .ok (.lconst 0, 1) := by decide +kernel
theorem dX4_sinkTallied_44 : decode cX4_sinkTallied 44 = .ok (.lcmp, 1) := by decide +kernel
theorem dX4_sinkTallied_45 : decode cX4_sinkTallied 45 = .ok (.ifCond .eq 14, 3) := by decide +kernel
theorem dX4_sinkTallied_48 : decode cX4_sinkTallied 48 = .ok (.aload_n 0, 1) := by decide +kernel
theorem dX4_sinkTallied_49 : decode cX4_sinkTallied 49 = .ok (.getfield 24, 3) := by decide +kernel
theorem dX4_sinkTallied_52 : decode cX4_sinkTallied 52 = .ok (.iload 7, 2) := by decide +kernel
theorem dX4_sinkTallied_54 : decode cX4_sinkTallied 54 = .ok (.dup2, 1) := by decide +kernel
theorem dX4_sinkTallied_55 : decode cX4_sinkTallied 55 = .ok (.iaload, 1) := by decide +kernel
theorem dX4_sinkTallied_56 : decode cX4_sinkTallied 56 = .ok (.iload_n 3, 1) := by decide +kernel
theorem dX4_sinkTallied_57 : decode cX4_sinkTallied 57 = .ok (.iadd, 1) := by decide +kernel
theorem dX4_sinkTallied_58 : decode cX4_sinkTallied 58 = .ok (.iastore, 1) := by decide +kernel
theorem dX4_sinkTallied_59 : decode cX4_sinkTallied 59 = .ok (.iinc 7 1, 3) := by decide +kernel
theorem dX4_sinkTallied_62 : decode cX4_sinkTallied 62 = .ok (.goto (-33), 3) := by decide +kernel
theorem dX4_sinkTallied_65 : decode cX4_sinkTallied 65 = .ok (.aload_n 2, 1) := by decide +kernel
theorem dX4_sinkTallied_66 : decode cX4_sinkTallied 66 = .ok (.lload 5, 2) := by decide +kernel
theorem dX4_sinkTallied_68 : decode cX4_sinkTallied 68 = .ok (.aload_n 1, 1) := by decide +kernel
theorem dX4_sinkTallied_69 : decode cX4_sinkTallied 69 = .ok (.getfield 44, 3) := by decide +kernel
theorem dX4_sinkTallied_72 : decode cX4_sinkTallied 72 = .ok (.invokevirtual 50, 3) := by decide +kernel
theorem dX4_sinkTallied_75 : decode cX4_sinkTallied 75 = .ok (.iinc 4 1, 3) := by decide +kernel
theorem dX4_sinkTallied_78 : decode cX4_sinkTallied 78 = .ok (.goto (-75), 3) := by decide +kernel
theorem dX4_sinkTallied_81 : decode cX4_sinkTallied 81 = .ok (.return_, 1) := by decide +kernel
def f_X4_sinkTallied_59 (k29 : Nat → Int32 → Int32 → Int64 → Int32 → St → Option (Unit × St)) (r2 : Nat) (x3 : Int32) (x4 : Int32) (x5 : Int64) (x7 : Int32) (σ : St) : Option (Unit × St) :=
  k29 r2 x3 x4 x5 (x7 + 1) σ
set_option maxRecDepth 100000 in
set_option maxHeartbeats 4000000 in
theorem b_X4_sinkTallied_59 {g : Geo} {x : Cx} (C : Ok g x cX4_sinkTallied RX4 8 none rm_X4_sinkTallied) (k29 : Nat → Int32 → Int32 → Int64 → Int32 → St → Option (Unit × St)) (hk29 : ∀ (r2 : Nat) (x3 : Int32) (x4 : Int32) (x5 : Int64) (x7 : Int32) (hr2 : kd r2 = 2) (τ : St) (r : Unit) (τ' : St), k29 r2 x3 x4 x5 x7 τ = some (r, τ') → V g x (qm g x none τ') 8 τ [(0, .ref (g.1 4)), (1, .ref (g.1 1)), (2, .ref (g.1 r2)), (3, .int x3), (4, .int x4), (5, .long x5), (7, .int x7)] [] 29) : ∀ (r2 : Nat) (x3 : Int32) (x4 : Int32) (x5 : Int64) (x7 : Int32) (hr2 : kd r2 = 2) (σ : St) (r : Unit) (σ' : St), f_X4_sinkTallied_59 k29 r2 x3 x4 x5 x7 σ = some (r, σ') → V g x (qm g x none σ') 8 σ [(0, .ref (g.1 4)), (1, .ref (g.1 1)), (2, .ref (g.1 r2)), (3, .int x3), (4, .int x4), (5, .long x5), (7, .int x7)] [] 59 := by
  intro r2 x3 x4 x5 x7 hr2 σ r σ' h
  unfold f_X4_sinkTallied_59 at h
  refine v_iinc C (v := (x7 + 1)) (lv' := [(7, .int _), (0, .ref _), (1, .ref _), (2, .ref _), (3, .int _), (4, .int _), (5, .long _)]) dX4_sinkTallied_59 6 rfl rfl (by decide) rfl ?_
  refine v_goto C (tgt := 29) dX4_sinkTallied_62 (by decide) ?_
  refine V.sub (lv' := [(0, .ref _), (1, .ref _), (2, .ref _), (3, .int _), (4, .int _), (5, .long _), (7, .int _)]) [1, 2, 3, 4, 5, 6, 0] rfl ?_
  exact hk29 _ _ _ _ _ hr2 _ _ _ h
def f_X4_sinkTallied_29 (k3 : Nat → Int32 → Int32 → St → Option (Unit × St)) : Nat → Nat → Int32 → Int32 → Int64 → Int32 → St → Option (Unit × St)
  | 0, _, _, _, _, _, _ => none
  | n + 1, r2, x3, x4, x5, x7, σ =>
    if (64 : Int32) ≤ x7 then
      bd (f_X2_flip r2 x5 (gi σ 1 0) σ) fun _ σ2 =>
      k3 r2 x3 (x4 + 1) σ2
    else
      if ((lushr x5 x7) &&& (1 : Int64)) = (0 : Int64) then
        f_X4_sinkTallied_59 (f_X4_sinkTallied_29 k3 n) r2 x3 x4 x5 x7 σ
      else
        rdI σ 24 x7 fun v3 =>
        wrI σ 24 x7 (v3 + x3) fun σ4 =>
        f_X4_sinkTallied_59 (f_X4_sinkTallied_29 k3 n) r2 x3 x4 x5 x7 σ4
set_option maxRecDepth 100000 in
set_option maxHeartbeats 4000000 in
theorem b_X4_sinkTallied_29 {g : Geo} {x : Cx} (C : Ok g x cX4_sinkTallied RX4 8 none rm_X4_sinkTallied) (k3 : Nat → Int32 → Int32 → St → Option (Unit × St)) (hk3 : ∀ (r2 : Nat) (x3 : Int32) (x4 : Int32) (hr2 : kd r2 = 2) (τ : St) (r : Unit) (τ' : St), k3 r2 x3 x4 τ = some (r, τ') → V g x (qm g x none τ') 8 τ [(0, .ref (g.1 4)), (1, .ref (g.1 1)), (2, .ref (g.1 r2)), (3, .int x3), (4, .int x4)] [] 3) : ∀ (n : Nat) (r2 : Nat) (x3 : Int32) (x4 : Int32) (x5 : Int64) (x7 : Int32) (hr2 : kd r2 = 2) (σ : St) (r : Unit) (σ' : St), f_X4_sinkTallied_29 k3 n r2 x3 x4 x5 x7 σ = some (r, σ') → V g x (qm g x none σ') 8 σ [(0, .ref (g.1 4)), (1, .ref (g.1 1)), (2, .ref (g.1 r2)), (3, .int x3), (4, .int x4), (5, .long x5), (7, .int x7)] [] 29 := by
  intro n
  induction n with
  | zero =>
    intro r2 x3 x4 x5 x7 hr2 σ r σ' h
    rw [f_X4_sinkTallied_29] at h
    cases h
  | succ n ih =>
    intro r2 x3 x4 x5 x7 hr2 σ r σ' h
    rw [f_X4_sinkTallied_29] at h
    refine v_iload C dX4_sinkTallied_29 6 rfl ?_
    refine v_bipush C (v := (64 : Int32)) dX4_sinkTallied_31 (by decide) ?_
    refine v_icmp_ge C (tgt := 65) dX4_sinkTallied_33 (by decide) (fun q6 => ?_) (fun q6 => ?_)
    · rw [if_pos q6] at h
      refine v_aload_n C dX4_sinkTallied_65 rfl 2 rfl ?_
      refine v_lload C dX4_sinkTallied_66 5 rfl ?_
      refine v_aload_n C dX4_sinkTallied_68 rfl 1 rfl ?_
      refine v_getI C fl_RX4_44 rfl dX4_sinkTallied_69 ?_
      obtain ⟨v1, σ2, cσ2, h⟩ := bd_some h
      refine callVv C (c_X2_flip hr2 cσ2) km_X2_flip kv_X2_flip hr2 ml_RX4_50 rfl rfl (by decide) (Nat.le_of_ble_eq_true rfl) dX4_sinkTallied_72 ?_
      refine v_iinc C (v := (x4 + 1)) (lv' := [(4, .int _), (0, .ref _), (1, .ref _), (2, .ref _), (3, .int _), (5, .long _), (7, .int _)]) dX4_sinkTallied_75 4 rfl rfl (by decide) rfl ?_
      refine v_goto C (tgt := 3) dX4_sinkTallied_78 (by decide) ?_
      refine V.sub (lv' := [(0, .ref _), (1, .ref _), (2, .ref _), (3, .int _), (4, .int _)]) [1, 2, 3, 4, 0] rfl ?_
      exact hk3 _ _ _ hr2 _ _ _ h
    · rw [if_neg q6] at h
      refine v_lload C dX4_sinkTallied_36 5 rfl ?_
      refine v_iload C dX4_sinkTallied_38 6 rfl ?_
      refine v_lushr C dX4_sinkTallied_40 ?_
      refine v_lconst C (v := (1 : Int64)) dX4_sinkTallied_41 (by decide) ?_
      refine v_land C dX4_sinkTallied_42 ?_
      refine v_lconst C (v := (0 : Int64)) dX4_sinkTallied_43 (by decide) ?_
      refine v_lcmp_eq C (tgt := 59) dX4_sinkTallied_44 dX4_sinkTallied_45 (by decide) (fun q5 => ?_) (fun q5 => ?_)
      · rw [if_pos q5] at h
        refine V.sub (lv' := [(0, .ref _), (1, .ref _), (2, .ref _), (3, .int _), (4, .int _), (5, .long _), (7, .int _)]) [0, 1, 2, 3, 4, 5, 6] rfl ?_
        exact b_X4_sinkTallied_59 C _ ih _ _ _ _ _ hr2 _ _ _ h
      · rw [if_neg q5] at h
        refine v_aload_n C dX4_sinkTallied_48 rfl 0 rfl ?_
        refine v_getR C (p' := 24) fl_RX4_24 rfl rfl dX4_sinkTallied_49 ?_
        refine v_iload C dX4_sinkTallied_52 6 rfl ?_
        refine v_dup2 C dX4_sinkTallied_54 rfl rfl ?_
        obtain ⟨nv3, v3, ev3, h⟩ := rdI_ex h
        refine x_iald C rfl nv3 ev3 dX4_sinkTallied_55 ?_
        refine v_iload_n C dX4_sinkTallied_56 rfl 3 rfl ?_
        refine v_iadd C dX4_sinkTallied_57 ?_
        obtain ⟨nσ4, σ4, eσ4, h⟩ := wrI_ex h
        refine x_iast C rfl nσ4 eσ4 dX4_sinkTallied_58 ?_
        refine V.sub (lv' := [(0, .ref _), (1, .ref _), (2, .ref _), (3, .int _), (4, .int _), (5, .long _), (7, .int _)]) [0, 1, 2, 3, 4, 5, 6] rfl ?_
        exact b_X4_sinkTallied_59 C _ ih _ _ _ _ _ hr2 _ _ _ h
def f_X4_sinkTallied_3 : Nat → Nat → Int32 → Int32 → St → Option (Unit × St)
  | 0, _, _, _, _ => none
  | n + 1, r2, x3, x4, σ =>
    if (1000 : Int32) ≤ x4 then
      some ((), σ)
    else
      bd (f_X2_highs r2 σ) fun v1 σ2 =>
      if v1 = (0 : Int64) then
        some ((), σ2)
      else
        f_X4_sinkTallied_29 (f_X4_sinkTallied_3 n) FU r2 x3 x4 v1 (0 : Int32) σ2
set_option maxRecDepth 100000 in
set_option maxHeartbeats 4000000 in
theorem b_X4_sinkTallied_3 {g : Geo} {x : Cx} (C : Ok g x cX4_sinkTallied RX4 8 none rm_X4_sinkTallied) : ∀ (n : Nat) (r2 : Nat) (x3 : Int32) (x4 : Int32) (hr2 : kd r2 = 2) (σ : St) (r : Unit) (σ' : St), f_X4_sinkTallied_3 n r2 x3 x4 σ = some (r, σ') → V g x (qm g x none σ') 8 σ [(0, .ref (g.1 4)), (1, .ref (g.1 1)), (2, .ref (g.1 r2)), (3, .int x3), (4, .int x4)] [] 3 := by
  intro n
  induction n with
  | zero =>
    intro r2 x3 x4 hr2 σ r σ' h
    rw [f_X4_sinkTallied_3] at h
    cases h
  | succ n ih =>
    intro r2 x3 x4 hr2 σ r σ' h
    rw [f_X4_sinkTallied_3] at h
    refine v_iload C dX4_sinkTallied_3 4 rfl ?_
    refine v_sipush C (v := (1000 : Int32)) dX4_sinkTallied_5 (by decide) ?_
    refine v_icmp_ge C (tgt := 81) dX4_sinkTallied_8 (by decide) (fun q4 => ?_) (fun q4 => ?_)
    · rw [if_pos q4] at h
      cases h
      exact v_vret C dX4_sinkTallied_81
    · rw [if_neg q4] at h
      refine v_aload_n C dX4_sinkTallied_11 rfl 2 rfl ?_
      refine v_aload_n C dX4_sinkTallied_12 rfl 1 rfl ?_
      obtain ⟨v1, σ2, cσ2, h⟩ := bd_some h
      refine callVl C (c_X2_highs hr2 cσ2) km_X2_highs kv_X2_highs hr2 ml_RX4_35 rfl rfl (by decide) (Nat.le_of_ble_eq_true rfl) dX4_sinkTallied_13 ?_
      refine v_lstore C (lv' := [(5, .long _), (0, .ref _), (1, .ref _), (2, .ref _), (3, .int _), (4, .int _)]) dX4_sinkTallied_16 (by decide) rfl ?_
      refine v_lload C dX4_sinkTallied_18 0 rfl ?_
      refine v_lconst C (v := (0 : Int64)) dX4_sinkTallied_20 (by decide) ?_
      refine v_lcmp_ne C (tgt := 26) dX4_sinkTallied_21 dX4_sinkTallied_22 (by decide) (fun q3 => ?_) (fun q3 => ?_)
      · rw [if_neg q3] at h
        refine v_iconst C (v := (0 : Int32)) dX4_sinkTallied_26 (by decide) ?_
        refine v_istore C (lv' := [(7, .int _), (5, .long _), (0, .ref _), (1, .ref _), (2, .ref _), (3, .int _), (4, .int _)]) dX4_sinkTallied_27 (by decide) rfl ?_
        refine V.sub (lv' := [(0, .ref _), (1, .ref _), (2, .ref _), (3, .int _), (4, .int _), (5, .long _), (7, .int _)]) [2, 3, 4, 5, 6, 1, 0] rfl ?_
        exact b_X4_sinkTallied_29 C _ ih FU _ _ _ _ _ hr2 _ _ _ h
      · rw [if_pos q3] at h
        cases h
        exact v_vret C dX4_sinkTallied_25
def f_X4_sinkTallied (q2 : Nat) (a3 : Int32) (σ : St) : Option (Unit × St) :=
  f_X4_sinkTallied_3 FU q2 a3 (0 : Int32) σ
set_option maxRecDepth 100000 in
set_option maxHeartbeats 4000000 in
theorem c_X4_sinkTallied {g : Geo} {q2 : Nat} {a3 : Int32} (hq2 : kd q2 = 2) {σ : St} {r : Unit} {σ' : St} (h : f_X4_sinkTallied q2 a3 σ = some (r, σ')) : Ct g yX4_sinkTallied cX4_sinkTallied 8 none rm_X4_sinkTallied [.ref (g.1 4), .ref (g.1 1), .ref (g.1 q2), .int a3] σ none σ' := by
  refine ct_of (own := RX4) (by decide) rfl (Nat.le_of_ble_eq_true rfl) (fun x C => ?_) ⟨rfl, rfl⟩
  show V g x _ 8 σ [(0, .ref (g.1 4)), (1, .ref (g.1 1)), (2, .ref (g.1 q2)), (3, .int a3)] [] 0
  unfold f_X4_sinkTallied at h
  refine v_iconst C (v := (0 : Int32)) dX4_sinkTallied_0 (by decide) ?_
  refine v_istore C (lv' := [(4, .int _), (0, .ref _), (1, .ref _), (2, .ref _), (3, .int _)]) dX4_sinkTallied_1 (by decide) rfl ?_
  refine V.sub (lv' := [(0, .ref _), (1, .ref _), (2, .ref _), (3, .int _), (4, .int _)]) [1, 2, 3, 4, 0] rfl ?_
  exact b_X4_sinkTallied_3 C FU _ _ _ hq2 _ _ _ h
theorem dX4_between_0 : decode cX4_between 0 = .ok (.aload_n 0, 1) := by decide +kernel
theorem dX4_between_1 : decode cX4_between 1 = .ok (.getfield 24, 3) := by decide +kernel
theorem dX4_between_4 : decode cX4_between 4 = .ok (.iconst 0, 1) := by decide +kernel
theorem dX4_between_5 : decode cX4_between 5 = .ok (.invokestatic 54, 3) := by decide +kernel
theorem dX4_between_8 : decode cX4_between 8 = .ok (.aload_n 0, 1) := by decide +kernel
theorem dX4_between_9 : decode cX4_between 9 = .ok (.getfield 12, 3) := by decide +kernel
theorem dX4_between_12 : decode cX4_between 12 = .ok (.aload_n 2, 1) := by decide +kernel
theorem dX4_between_13 : decode cX4_between 13 = .ok (.invokevirtual 60, 3) := by decide +kernel
theorem dX4_between_16 : decode cX4_between 16 = .ok (.aload_n 0, 1) := by decide +kernel
theorem dX4_between_17 : decode cX4_between 17 = .ok (.getfield 18, 3) := by decide +kernel
theorem dX4_between_20 : decode cX4_between 20 = .ok (.aload_n 3, 1) := by decide +kernel
theorem dX4_between_21 : decode cX4_between 21 = .ok (.invokevirtual 60, 3) := by decide +kernel
theorem dX4_between_24 : decode cX4_between 24 = .ok (.aload_n 0, 1) := by decide +kernel
theorem dX4_between_25 : decode cX4_between 25 = .ok (.aload_n 1, 1) := by decide +kernel
theorem dX4_between_26 : decode cX4_between 26 = .ok (.aload_n 0, 1) := by decide +kernel
theorem dX4_between_27 : decode cX4_between 27 = .ok (.getfield 12, 3) := by decide +kernel
theorem dX4_between_30 : decode cX4_between 30 = .ok (.iconst 1, 1) := by decide +kernel
theorem dX4_between_31 : decode cX4_between 31 = .ok (.invokevirtual 64, 3) := by decide +kernel
theorem dX4_between_34 : decode cX4_between 34 = .ok (.aload_n 0, 1) := by decide +kernel
theorem dX4_between_35 : decode cX4_between 35 = .ok (.aload_n 1, 1) := by decide +kernel
theorem dX4_between_36 : decode cX4_between 36 = .ok (.aload_n 0, 1) := by decide +kernel
theorem dX4_between_37 : decode cX4_between 37 = .ok (.getfield 18, 3) := by decide +kernel
theorem dX4_between_40 : decode cX4_between 40 = .ok (.iconst (-1), 1) := by decide +kernel
theorem dX4_between_41 : decode cX4_between 41 = .ok (.invokevirtual 64, 3) := by decide +kernel
theorem dX4_between_44 : decode cX4_between 44 = .ok (.aload_n 0, 1) := by decide +kernel
theorem dX4_between_45 : decode cX4_between 45 = .ok (.getfield 12, 3) := by decide +kernel
theorem dX4_between_48 : decode cX4_between 48 = .ok (.aload_n 0, 1) := by decide +kernel
theorem dX4_between_49 : decode cX4_between 49 = .ok (.getfield 18, 3) := by decide +kernel
theorem dX4_between_52 : decode cX4_between 52 = .ok (.invokevirtual 68, 3) := by decide +kernel
theorem dX4_between_55 : decode cX4_between 55 = .ok (.ifCond .ne 5, 3) := by decide +kernel
theorem dX4_between_58 : decode cX4_between 58 = .ok (.iconst (-1), 1) := by decide +kernel
theorem dX4_between_59 : decode cX4_between 59 = .ok (.ireturn, 1) := by decide +kernel
theorem dX4_between_60 : decode cX4_between 60 = .ok (.iconst 0, 1) := by decide +kernel
theorem dX4_between_61 : decode cX4_between 61 = .ok (.istore 4, 2) := by decide +kernel
theorem dX4_between_63 : decode cX4_between 63 = .ok (.iconst 0, 1) := by decide +kernel
theorem dX4_between_64 : decode cX4_between 64 = .ok (.istore 5, 2) := by decide +kernel
theorem dX4_between_66 : decode cX4_between 66 = .ok (.iload 5, 2) := by decide +kernel
theorem dX4_between_68 : decode cX4_between 68 = .ok (.bipush 64, 2) := by decide +kernel
theorem dX4_between_70 : decode cX4_between 70 = .ok (.if_icmp .ge 24, 3) := by decide +kernel
theorem dX4_between_73 : decode cX4_between 73 = .ok (.iload 4, 2) := by decide +kernel
theorem dX4_between_75 : decode cX4_between 75 = .ok (.aload_n 0, 1) := by decide +kernel
theorem dX4_between_76 : decode cX4_between 76 = .ok (.getfield 24, 3) := by decide +kernel
theorem dX4_between_79 : decode cX4_between 79 = .ok (.iload 5, 2) := by decide +kernel
theorem dX4_between_81 : decode cX4_between 81 = .ok (.iaload, 1) := by decide +kernel
theorem dX4_between_82 : decode cX4_between 82 = .ok (.invokestatic 72, 3) := by decide +kernel
theorem dX4_between_85 : decode cX4_between 85 = .ok (.iadd, 1) := by decide +kernel
theorem dX4_between_86 : decode cX4_between 86 = .ok (.istore 4, 2) := by decide +kernel
theorem dX4_between_88 : decode cX4_between 88 = .ok (.iinc 5 1, 3) := by decide +kernel
theorem dX4_between_91 : decode cX4_between 91 = .ok (.goto (-25), 3) := by decide +kernel
theorem dX4_between_94 : decode cX4_between 94 = .ok (.iload 4, 2) := by decide +kernel
theorem dX4_between_96 : decode cX4_between 96 = .ok (.ireturn, 1) := by decide +kernel
def f_X4_between_66 : Nat → Int32 → Int32 → St → Option (Int32 × St)
  | 0, _, _, _ => none
  | n + 1, x4, x5, σ =>
    if (64 : Int32) ≤ x5 then
      some (x4, σ)
    else
      rdI σ 24 x5 fun v1 =>
      f_X4_between_66 n (x4 + (jabs v1)) (x5 + 1) σ
set_option maxRecDepth 100000 in
set_option maxHeartbeats 4000000 in
theorem b_X4_between_66 {g : Geo} {x : Cx} (C : Ok g x cX4_between RX4 6 (some .int) rm_X4_between) : ∀ (n : Nat) (x4 : Int32) (x5 : Int32) (σ : St) (r : Int32) (σ' : St), f_X4_between_66 n x4 x5 σ = some (r, σ') → V g x (qm g x (some (.int r)) σ') 6 σ [(0, .ref (g.1 4)), (4, .int x4), (5, .int x5)] [] 66 := by
  intro n
  induction n with
  | zero =>
    intro x4 x5 σ r σ' h
    rw [f_X4_between_66] at h
    cases h
  | succ n ih =>
    intro x4 x5 σ r σ' h
    rw [f_X4_between_66] at h
    refine v_iload C dX4_between_66 2 rfl ?_
    refine v_bipush C (v := (64 : Int32)) dX4_between_68 (by decide) ?_
    refine v_icmp_ge C (tgt := 94) dX4_between_70 (by decide) (fun q2 => ?_) (fun q2 => ?_)
    · rw [if_pos q2] at h
      refine v_iload C dX4_between_94 1 rfl ?_
      cases h
      exact v_iret C dX4_between_96
    · rw [if_neg q2] at h
      refine v_iload C dX4_between_73 1 rfl ?_
      refine v_aload_n C dX4_between_75 rfl 0 rfl ?_
      refine v_getR C (p' := 24) fl_RX4_24 rfl rfl dX4_between_76 ?_
      refine v_iload C dX4_between_79 2 rfl ?_
      obtain ⟨nv1, v1, ev1, h⟩ := rdI_ex h
      refine x_iald C rfl nv1 ev1 dX4_between_81 ?_
      refine v_abs C ka_RX4_72 (by decide) (Nat.le_of_ble_eq_true rfl) dX4_between_82 ?_
      refine v_iadd C dX4_between_85 ?_
      refine v_istore C (lv' := [(4, .int _), (0, .ref _), (5, .int _)]) dX4_between_86 (by decide) rfl ?_
      refine v_iinc C (v := (x5 + 1)) (lv' := [(5, .int _), (4, .int _), (0, .ref _)]) dX4_between_88 2 rfl rfl (by decide) rfl ?_
      refine v_goto C (tgt := 66) dX4_between_91 (by decide) ?_
      refine V.sub (lv' := [(0, .ref _), (4, .int _), (5, .int _)]) [2, 1, 0] rfl ?_
      exact ih _ _  _ _ _ h
def f_X4_between (q2 : Nat) (q3 : Nat) (σ : St) : Option (Int32 × St) :=
  bd (f_J7_fill_53178 24 (0 : Int32) σ) fun _ σ2 =>
  bd (f_X2_take 10 q2 σ2) fun _ σ4 =>
  bd (f_X2_take 11 q3 σ4) fun _ σ6 =>
  bd (f_X4_sinkTallied 10 (1 : Int32) σ6) fun _ σ8 =>
  bd (f_X4_sinkTallied 11 (-1 : Int32) σ8) fun _ σ10 =>
  bd (f_X2_isLike 10 11 σ10) fun v11 σ12 =>
  if v11 = 0 then
    some ((-1 : Int32), σ12)
  else
    f_X4_between_66 FU (0 : Int32) (0 : Int32) σ12
set_option maxRecDepth 100000 in
set_option maxHeartbeats 4000000 in
theorem c_X4_between {g : Geo} {q2 : Nat} {q3 : Nat} (hq2 : kd q2 = 2) (hq3 : kd q3 = 2) {σ : St} {r : Int32} {σ' : St} (h : f_X4_between q2 q3 σ = some (r, σ')) : Ct g yX4_between cX4_between 6 (some .int) rm_X4_between [.ref (g.1 4), .ref (g.1 1), .ref (g.1 q2), .ref (g.1 q3)] σ (some (.int r)) σ' := by
  refine ct_of (own := RX4) (by decide) rfl (Nat.le_of_ble_eq_true rfl) (fun x C => ?_) ⟨rfl, rfl⟩
  show V g x _ 6 σ [(0, .ref (g.1 4)), (1, .ref (g.1 1)), (2, .ref (g.1 q2)), (3, .ref (g.1 q3))] [] 0
  unfold f_X4_between at h
  refine v_aload_n C dX4_between_0 rfl 0 rfl ?_
  refine v_getR C (p' := 24) fl_RX4_24 rfl rfl dX4_between_1 ?_
  refine v_iconst C (v := (0 : Int32)) dX4_between_4 (by decide) ?_
  obtain ⟨v1, σ2, cσ2, h⟩ := bd_some h
  refine callSv C (c_J7_fill_53178 rfl cσ2) km_J7_fill_53178 ks_J7_fill_53178 ml_RX4_54 rfl rfl (by decide) (Nat.le_of_ble_eq_true rfl) dX4_between_5 ?_
  refine v_aload_n C dX4_between_8 rfl 0 rfl ?_
  refine v_getR C (p' := 10) fl_RX4_12 rfl rfl dX4_between_9 ?_
  refine v_aload_n C dX4_between_12 rfl 2 rfl ?_
  obtain ⟨v3, σ4, cσ4, h⟩ := bd_some h
  refine callVv C (c_X2_take rfl hq2 cσ4) km_X2_take kv_X2_take rfl ml_RX4_60 rfl rfl (by decide) (Nat.le_of_ble_eq_true rfl) dX4_between_13 ?_
  refine v_aload_n C dX4_between_16 rfl 0 rfl ?_
  refine v_getR C (p' := 11) fl_RX4_18 rfl rfl dX4_between_17 ?_
  refine v_aload_n C dX4_between_20 rfl 3 rfl ?_
  obtain ⟨v5, σ6, cσ6, h⟩ := bd_some h
  refine callVv C (c_X2_take rfl hq3 cσ6) km_X2_take kv_X2_take rfl ml_RX4_60 rfl rfl (by decide) (Nat.le_of_ble_eq_true rfl) dX4_between_21 ?_
  refine v_aload_n C dX4_between_24 rfl 0 rfl ?_
  refine v_aload_n C dX4_between_25 rfl 1 rfl ?_
  refine v_aload_n C dX4_between_26 rfl 0 rfl ?_
  refine v_getR C (p' := 10) fl_RX4_12 rfl rfl dX4_between_27 ?_
  refine v_iconst C (v := (1 : Int32)) dX4_between_30 (by decide) ?_
  obtain ⟨v7, σ8, cσ8, h⟩ := bd_some h
  refine callVv C (c_X4_sinkTallied rfl cσ8) km_X4_sinkTallied kv_X4_sinkTallied rfl ml_RX4_64 rfl rfl (by decide) (Nat.le_of_ble_eq_true rfl) dX4_between_31 ?_
  refine v_aload_n C dX4_between_34 rfl 0 rfl ?_
  refine v_aload_n C dX4_between_35 rfl 1 rfl ?_
  refine v_aload_n C dX4_between_36 rfl 0 rfl ?_
  refine v_getR C (p' := 11) fl_RX4_18 rfl rfl dX4_between_37 ?_
  refine v_iconst C (v := (-1 : Int32)) dX4_between_40 (by decide) ?_
  obtain ⟨v9, σ10, cσ10, h⟩ := bd_some h
  refine callVv C (c_X4_sinkTallied rfl cσ10) km_X4_sinkTallied kv_X4_sinkTallied rfl ml_RX4_64 rfl rfl (by decide) (Nat.le_of_ble_eq_true rfl) dX4_between_41 ?_
  refine v_aload_n C dX4_between_44 rfl 0 rfl ?_
  refine v_getR C (p' := 10) fl_RX4_12 rfl rfl dX4_between_45 ?_
  refine v_aload_n C dX4_between_48 rfl 0 rfl ?_
  refine v_getR C (p' := 11) fl_RX4_18 rfl rfl dX4_between_49 ?_
  obtain ⟨v11, σ12, cσ12, h⟩ := bd_some h
  refine callVi C (c_X2_isLike rfl rfl cσ12) km_X2_isLike kv_X2_isLike rfl ml_RX4_68 rfl rfl (by decide) (Nat.le_of_ble_eq_true rfl) dX4_between_52 ?_
  refine v_if_ne C (tgt := 60) dX4_between_55 (by decide) (fun q13 => ?_) (fun q13 => ?_)
  · rw [if_neg q13] at h
    refine v_iconst C (v := (0 : Int32)) dX4_between_60 (by decide) ?_
    refine v_istore C (lv' := [(4, .int _), (0, .ref _), (1, .ref _), (2, .ref _), (3, .ref _)]) dX4_between_61 (by decide) rfl ?_
    refine v_iconst C (v := (0 : Int32)) dX4_between_63 (by decide) ?_
    refine v_istore C (lv' := [(5, .int _), (4, .int _), (0, .ref _), (1, .ref _), (2, .ref _), (3, .ref _)]) dX4_between_64 (by decide) rfl ?_
    refine V.sub (lv' := [(0, .ref _), (4, .int _), (5, .int _)]) [2, 1, 0] rfl ?_
    exact b_X4_between_66 C FU _ _  _ _ _ h
  · rw [if_pos q13] at h
    refine v_iconst C (v := (-1 : Int32)) dX4_between_58 (by decide) ?_
    cases h
    exact v_iret C dX4_between_59
theorem dX4_firstBranch_0 : decode cX4_firstBranch 0 = .ok (.lload_n 0, 1) := by decide +kernel
theorem dX4_firstBranch_1 : decode cX4_firstBranch 1 = .ok (.lstore 5, 2) := by decide +kernel
theorem dX4_firstBranch_3 : decode cX4_firstBranch 3 = .ok (.iconst 0, 1) := by decide +kernel
theorem dX4_firstBranch_4 : decode cX4_firstBranch 4 = .ok (.istore 7, 2) := by decide +kernel
theorem dX4_firstBranch_6 : decode cX4_firstBranch 6 = .ok (.iload 7, 2) := by decide +kernel
theorem dX4_firstBranch_8 : decode cX4_firstBranch 8 = .ok (.bipush 64, 2) := by decide +kernel
theorem dX4_firstBranch_10 : decode cX4_firstBranch 10 = .ok (.if_icmp .ge 66, 3) := by decide +kernel
theorem dX4_firstBranch_13 : decode cX4_firstBranch 13 = .ok (.lload 5, 2) := by decide +kernel
theorem dX4_firstBranch_15 : decode cX4_firstBranch 15 = .ok (.lconst 0, 1) := by decide +kernel
theorem dX4_firstBranch_16 : decode cX4_firstBranch 16 = .ok (.lcmp, 1) := by decide +kernel
theorem dX4_firstBranch_17 : decode cX4_firstBranch 17 = .ok (.ifCond .eq 59, 3) := by decide +kernel
theorem dX4_firstBranch_20 : decode cX4_firstBranch 20 = .ok (.lload 5, 2) := by decide +kernel
theorem dX4_firstBranch_22 : decode cX4_firstBranch 22 = .ok (.lload 5, 2) := by decide +kernel
theorem dX4_firstBranch_24 : decode cX4_firstBranch 24 = .ok (.lneg, 1) := by decide +kernel
theorem dX4_firstBranch_25 : decode cX4_firstBranch 25 = .ok (.land, 1) := by decide +kernel
theorem dX4_firstBranch_26 : decode cX4_firstBranch 26 = .ok (.lstore 8, 2) := by decide +kernel
theorem dX4_firstBranch_28 : decode cX4_firstBranch 28 = .ok (.lload 8, 2) := by decide +kernel
theorem dX4_firstBranch_30 : decode cX4_firstBranch 30 = .ok (.iconst 1, 1) := by decide +kernel
theorem dX4_firstBranch_31 : decode cX4_firstBranch 31 = .ok (.lushr, 1) := by decide +kernel
theorem dX4_firstBranch_32 : decode cX4_firstBranch 32 = .ok (.lload 8, 2) := by decide +kernel
theorem dX4_firstBranch_34 : decode cX4_firstBranch 34 = .ok (.iload 4, 2) := by decide +kernel
theorem dX4_firstBranch_36 : decode cX4_firstBranch 36 = .ok (.iconst 1, 1) := by decide +kernel
theorem dX4_firstBranch_37 : decode cX4_firstBranch 37 = .ok (.isub, 1) := by decide +kernel
theorem dX4_firstBranch_38 : decode cX4_firstBranch 38 = .ok (.lushr, 1) := by decide +kernel
theorem dX4_firstBranch_39 : decode cX4_firstBranch 39 = .ok (.lor, 1) := by decide +kernel
theorem dX4_firstBranch_40 : decode cX4_firstBranch 40 = .ok (.lstore 10, 2) := by decide +kernel
theorem dX4_firstBranch_42 : decode cX4_firstBranch 42 = .ok (.lload_n 2, 1) := by decide +kernel
theorem dX4_firstBranch_43 : decode cX4_firstBranch 43 = .ok (.lload 8, 2) := by decide +kernel
theorem dX4_firstBranch_45 : decode cX4_firstBranch 45 = .ok (.lconst 1, 1) := by decide +kernel
theorem dX4_firstBranch_46 : decode cX4_firstBranch 46 = .ok (.lsub, 1) := by decide +kernel
theorem dX4_firstBranch_47 : decode cX4_firstBranch 47 = .ok (.land, 1) := by decide +kernel
theorem dX4_firstBranch_48 : decode cX4_firstBranch 48 = .ok (.lload 10, 2) := by decide +kernel
theorem dX4_firstBranch_50 : decode cX4_firstBranch 50 = .ok (.ldc2_w 93, 3) := by decide +kernel
theorem dX4_firstBranch_53 : decode cX4_firstBranch 53 = .ok (.lxor, 1) := by decide +kernel
theorem dX4_firstBranch_54 : decode cX4_firstBranch 54 = .ok (.land, 1) := by decide +kernel
theorem dX4_firstBranch_55 : decode cX4_firstBranch 55 = .ok (.lconst 0, 1) := by decide +kernel
theorem dX4_firstBranch_56 : decode cX4_firstBranch 56 = .ok (.lcmp, 1) := by decide +kernel
theorem dX4_firstBranch_57 : decode cX4_firstBranch 57 = .ok (.ifCond .ne 6, 3) := by decide +kernel
theorem dX4_firstBranch_60 : decode cX4_firstBranch 60 = .ok (.lload 8, 2) := by decide +kernel
theorem dX4_firstBranch_62 : decode cX4_firstBranch 62 = .ok (.lreturn, 1) := by decide +kernel
theorem dX4_firstBranch_63 : decode cX4_firstBranch 63 = .ok (.lload 5, 2) := by decide +kernel
theorem dX4_firstBranch_65 : decode cX4_firstBranch 65 = .ok (.lload 8, 2) := by decide +kernel
theorem dX4_firstBranch_67 : decode cX4_firstBranch 67 = .ok (.lxor, 1) := by decide +kernel
theorem dX4_firstBranch_68 : decode cX4_firstBranch 68 = .ok (.lstore 5, 2) := by decide +kernel
theorem dX4_firstBranch_70 : decode cX4_firstBranch 70 = .ok (.iinc 7 1, 3) := by decide +kernel
theorem dX4_firstBranch_73 : decode cX4_firstBranch 73 = .ok (.goto (-67), 3) := by decide +kernel
theorem dX4_firstBranch_76 : decode cX4_firstBranch 76 = .ok (.lconst 0, 1) := by decide +kernel
theorem dX4_firstBranch_77 : decode cX4_firstBranch 77 = .ok (.lreturn, 1) := by decide +kernel
def f_X4_firstBranch_76 (σ : St) : Option (Int64 × St) :=
  some ((0 : Int64), σ)
set_option maxRecDepth 100000 in
set_option maxHeartbeats 4000000 in
theorem b_X4_firstBranch_76 {g : Geo} {x : Cx} (C : Ok g x cX4_firstBranch RX4 12 (some .long) rm_X4_firstBranch) : ∀ (σ : St) (r : Int64) (σ' : St), f_X4_firstBranch_76 σ = some (r, σ') → V g x (qm g x (some (.long r)) σ') 12 σ [] [] 76 := by
  intro σ r σ' h
  unfold f_X4_firstBranch_76 at h
  refine v_lconst C (v := (0 : Int64)) dX4_firstBranch_76 (by decide) ?_
  cases h
  exact v_lret C dX4_firstBranch_77
def f_X4_firstBranch_6 : Nat → Int64 → Int32 → Int64 → Int32 → St → Option (Int64 × St)
  | 0, _, _, _, _, _ => none
  | n + 1, x2, x4, x5, x7, σ =>
    if (64 : Int32) ≤ x7 then
      f_X4_firstBranch_76 σ
    else
      if x5 = (0 : Int64) then
        f_X4_firstBranch_76 σ
      else
        if ((x2 &&& ((x5 &&& (-x5)) - (1 : Int64))) &&& (((lushr (x5 &&& (-x5)) (1 : Int32)) ||| (lushr (x5 &&& (-x5)) (x4 - (1 : Int32)))) ^^^ (-1 : Int64))) = (0 : Int64) then
          some ((x5 &&& (-x5)), σ)
        else
          f_X4_firstBranch_6 n x2 x4 (x5 ^^^ (x5 &&& (-x5))) (x7 + 1) σ
set_option maxRecDepth 100000 in
set_option maxHeartbeats 4000000 in
theorem b_X4_firstBranch_6 {g : Geo} {x : Cx} (C : Ok g x cX4_firstBranch RX4 12 (some .long) rm_X4_firstBranch) : ∀ (n : Nat) (x2 : Int64) (x4 : Int32) (x5 : Int64) (x7 : Int32) (σ : St) (r : Int64) (σ' : St), f_X4_firstBranch_6 n x2 x4 x5 x7 σ = some (r, σ') → V g x (qm g x (some (.long r)) σ') 12 σ [(2, .long x2), (4, .int x4), (5, .long x5), (7, .int x7)] [] 6 := by
  intro n
  induction n with
  | zero =>
    intro x2 x4 x5 x7 σ r σ' h
    rw [f_X4_firstBranch_6] at h
    cases h
  | succ n ih =>
    intro x2 x4 x5 x7 σ r σ' h
    rw [f_X4_firstBranch_6] at h
    refine v_iload C dX4_firstBranch_6 3 rfl ?_
    refine v_bipush C (v := (64 : Int32)) dX4_firstBranch_8 (by decide) ?_
    refine v_icmp_ge C (tgt := 76) dX4_firstBranch_10 (by decide) (fun q3 => ?_) (fun q3 => ?_)
    · rw [if_pos q3] at h
      refine V.sub (lv' := []) [] rfl ?_
      exact b_X4_firstBranch_76 C  _ _ _ h
    · rw [if_neg q3] at h
      refine v_lload C dX4_firstBranch_13 2 rfl ?_
      refine v_lconst C (v := (0 : Int64)) dX4_firstBranch_15 (by decide) ?_
      refine v_lcmp_eq C (tgt := 76) dX4_firstBranch_16 dX4_firstBranch_17 (by decide) (fun q2 => ?_) (fun q2 => ?_)
      · rw [if_pos q2] at h
        refine V.sub (lv' := []) [] rfl ?_
        exact b_X4_firstBranch_76 C  _ _ _ h
      · rw [if_neg q2] at h
        refine v_lload C dX4_firstBranch_20 2 rfl ?_
        refine v_lload C dX4_firstBranch_22 2 rfl ?_
        refine v_lneg C dX4_firstBranch_24 ?_
        refine v_land C dX4_firstBranch_25 ?_
        refine v_lstore C (lv' := [(8, .long _), (2, .long _), (4, .int _), (5, .long _), (7, .int _)]) dX4_firstBranch_26 (by decide) rfl ?_
        refine v_lload C dX4_firstBranch_28 0 rfl ?_
        refine v_iconst C (v := (1 : Int32)) dX4_firstBranch_30 (by decide) ?_
        refine v_lushr C dX4_firstBranch_31 ?_
        refine v_lload C dX4_firstBranch_32 0 rfl ?_
        refine v_iload C dX4_firstBranch_34 2 rfl ?_
        refine v_iconst C (v := (1 : Int32)) dX4_firstBranch_36 (by decide) ?_
        refine v_isub C dX4_firstBranch_37 ?_
        refine v_lushr C dX4_firstBranch_38 ?_
        refine v_lor C dX4_firstBranch_39 ?_
        refine v_lstore C (lv' := [(10, .long _), (8, .long _), (2, .long _), (4, .int _), (5, .long _), (7, .int _)]) dX4_firstBranch_40 (by decide) rfl ?_
        refine v_lload_n C dX4_firstBranch_42 rfl 2 rfl ?_
        refine v_lload C dX4_firstBranch_43 1 rfl ?_
        refine v_lconst C (v := (1 : Int64)) dX4_firstBranch_45 (by decide) ?_
        refine v_lsub C dX4_firstBranch_46 ?_
        refine v_land C dX4_firstBranch_47 ?_
        refine v_lload C dX4_firstBranch_48 0 rfl ?_
        refine v_ldc2_w C (v := (-1 : Int64)) conl_RX4_93 dX4_firstBranch_50 ?_
        refine v_lxor C dX4_firstBranch_53 ?_
        refine v_land C dX4_firstBranch_54 ?_
        refine v_lconst C (v := (0 : Int64)) dX4_firstBranch_55 (by decide) ?_
        refine v_lcmp_ne C (tgt := 63) dX4_firstBranch_56 dX4_firstBranch_57 (by decide) (fun q1 => ?_) (fun q1 => ?_)
        · rw [if_neg q1] at h
          refine v_lload C dX4_firstBranch_63 4 rfl ?_
          refine v_lload C dX4_firstBranch_65 1 rfl ?_
          refine v_lxor C dX4_firstBranch_67 ?_
          refine v_lstore C (lv' := [(5, .long _), (10, .long _), (8, .long _), (2, .long _), (4, .int _), (7, .int _)]) dX4_firstBranch_68 (by decide) rfl ?_
          refine v_iinc C (v := (x7 + 1)) (lv' := [(7, .int _), (5, .long _), (10, .long _), (8, .long _), (2, .long _), (4, .int _)]) dX4_firstBranch_70 5 rfl rfl (by decide) rfl ?_
          refine v_goto C (tgt := 6) dX4_firstBranch_73 (by decide) ?_
          refine V.sub (lv' := [(2, .long _), (4, .int _), (5, .long _), (7, .int _)]) [4, 5, 1, 0] rfl ?_
          exact ih _ _ _ _  _ _ _ h
        · rw [if_pos q1] at h
          refine v_lload C dX4_firstBranch_60 1 rfl ?_
          cases h
          exact v_lret C dX4_firstBranch_62
def f_X4_firstBranch (a1 : Int64) (a2 : Int64) (a3 : Int32) (σ : St) : Option (Int64 × St) :=
  f_X4_firstBranch_6 FU a2 a3 a1 (0 : Int32) σ
set_option maxRecDepth 100000 in
set_option maxHeartbeats 4000000 in
theorem c_X4_firstBranch {g : Geo} {a1 : Int64} {a2 : Int64} {a3 : Int32} {σ : St} {r : Int64} {σ' : St} (h : f_X4_firstBranch a1 a2 a3 σ = some (r, σ')) : Ct g yX4_firstBranch cX4_firstBranch 12 (some .long) rm_X4_firstBranch [.long a1, .long a2, .int a3] σ (some (.long r)) σ' := by
  refine ct_of (own := RX4) (by decide) rfl (Nat.le_of_ble_eq_true rfl) (fun x C => ?_) ⟨rfl, rfl⟩
  show V g x _ 12 σ [(0, .long a1), (2, .long a2), (4, .int a3)] [] 0
  unfold f_X4_firstBranch at h
  refine v_lload_n C dX4_firstBranch_0 rfl 0 rfl ?_
  refine v_lstore C (lv' := [(5, .long _), (0, .long _), (2, .long _), (4, .int _)]) dX4_firstBranch_1 (by decide) rfl ?_
  refine v_iconst C (v := (0 : Int32)) dX4_firstBranch_3 (by decide) ?_
  refine v_istore C (lv' := [(7, .int _), (5, .long _), (0, .long _), (2, .long _), (4, .int _)]) dX4_firstBranch_4 (by decide) rfl ?_
  refine V.sub (lv' := [(2, .long _), (4, .int _), (5, .long _), (7, .int _)]) [3, 4, 1, 0] rfl ?_
  exact b_X4_firstBranch_6 C FU _ _ _ _  _ _ _ h
theorem dX4_countFrom_0 : decode cX4_countFrom 0 = .ok (.iconst 1, 1) := by decide +kernel
theorem dX4_countFrom_1 : decode cX4_countFrom 1 = .ok (.istore_n 3, 1) := by decide +kernel
theorem dX4_countFrom_2 : decode cX4_countFrom 2 = .ok (.ldc2_w 93, 3) := by decide +kernel
theorem dX4_countFrom_5 : decode cX4_countFrom 5 = .ok (.lstore 4, 2) := by decide +kernel
theorem dX4_countFrom_7 : decode cX4_countFrom 7 = .ok (.iconst 0, 1) := by decide +kernel
theorem dX4_countFrom_8 : decode cX4_countFrom 8 = .ok (.istore 6, 2) := by decide +kernel
theorem dX4_countFrom_10 : decode cX4_countFrom 10 = .ok (.iload 6, 2) := by decide +kernel
theorem dX4_countFrom_12 : decode cX4_countFrom 12 = .ok (.sipush 10000, 3) := by decide +kernel
theorem dX4_countFrom_15 : decode cX4_countFrom 15 = .ok (.if_icmp .ge 114, 3) := by decide +kernel
theorem dX4_countFrom_18 : decode cX4_countFrom 18 = .ok (.iload_n 3, 1) := by decide +kernel
theorem dX4_countFrom_19 : decode cX4_countFrom 19 = .ok (.iload_n 2, 1) := by decide +kernel
theorem dX4_countFrom_20 : decode cX4_countFrom 20 = .ok (.if_icmp .gt 109, 3) := by decide +kernel
theorem dX4_countFrom_23 : decode cX4_countFrom 23 = .ok (.aload_n 0, 1) := by decide +kernel
theorem dX4_countFrom_24 : decode cX4_countFrom 24 = .ok (.getfield 12, 3) := by decide +kernel
theorem dX4_countFrom_27 : decode cX4_countFrom 27 = .ok (.aload_n 1, 1) := by decide +kernel
theorem dX4_countFrom_28 : decode cX4_countFrom 28 = .ok (.invokevirtual 35, 3) := by decide +kernel
theorem dX4_countFrom_31 : decode cX4_countFrom 31 = .ok (.lstore 7, 2) := by decide +kernel
theorem dX4_countFrom_33 : decode cX4_countFrom 33 = .ok (.aload_n 0, 1) := by decide +kernel
theorem dX4_countFrom_34 : decode cX4_countFrom 34 = .ok (.getfield 12, 3) := by decide +kernel
theorem dX4_countFrom_37 : decode cX4_countFrom 37 = .ok (.aload_n 1, 1) := by decide +kernel
theorem dX4_countFrom_38 : decode cX4_countFrom 38 = .ok (.invokevirtual 31, 3) := by decide +kernel
theorem dX4_countFrom_41 : decode cX4_countFrom 41 = .ok (.lload 4, 2) := by decide +kernel
theorem dX4_countFrom_43 : decode cX4_countFrom 43 = .ok (.land, 1) := by decide +kernel
theorem dX4_countFrom_44 : decode cX4_countFrom 44 = .ok (.lload 7, 2) := by decide +kernel
theorem dX4_countFrom_46 : decode cX4_countFrom 46 = .ok (.aload_n 1, 1) := by decide +kernel
theorem dX4_countFrom_47 : decode cX4_countFrom 47 = .ok (.getfield 44, 3) := by decide +kernel
theorem dX4_countFrom_50 : decode cX4_countFrom 50 = .ok (.invokestatic 95, 3) := by decide +kernel
theorem dX4_countFrom_53 : decode cX4_countFrom 53 = .ok (.lstore 9, 2) := by decide +kernel
theorem dX4_countFrom_55 : decode cX4_countFrom 55 = .ok (.lload 9, 2) := by decide +kernel
theorem dX4_countFrom_57 : decode cX4_countFrom 57 = .ok (.lconst 0, 1) := by decide +kernel
theorem dX4_countFrom_58 : decode cX4_countFrom 58 = .ok (.lcmp, 1) := by decide +kernel
theorem dX4_countFrom_59 : decode cX4_countFrom 59 = .ok (.ifCond .eq 27, 3) := by decide +kernel
theorem dX4_countFrom_62 : decode cX4_countFrom 62 = .ok (.aload_n 0, 1) := by decide +kernel
theorem dX4_countFrom_63 : decode cX4_countFrom 63 = .ok (.getfield 12, 3) := by decide +kernel
theorem dX4_countFrom_66 : decode cX4_countFrom 66 = .ok (.lload 9, 2) := by decide +kernel
theorem dX4_countFrom_68 : decode cX4_countFrom 68 = .ok (.aload_n 1, 1) := by decide +kernel
theorem dX4_countFrom_69 : decode cX4_countFrom 69 = .ok (.getfield 44, 3) := by decide +kernel
theorem dX4_countFrom_72 : decode cX4_countFrom 72 = .ok (.invokevirtual 50, 3) := by decide +kernel
theorem dX4_countFrom_75 : decode cX4_countFrom 75 = .ok (.iinc 3 1, 3) := by decide +kernel
theorem dX4_countFrom_78 : decode cX4_countFrom 78 = .ok (.ldc2_w 93, 3) := by decide +kernel
theorem dX4_countFrom_81 : decode cX4_countFrom 81 = .ok (.lstore 4, 2) := by decide +kernel
theorem dX4_countFrom_83 : decode cX4_countFrom 83 = .ok (.goto 40, 3) := by decide +kernel
theorem dX4_countFrom_86 : decode cX4_countFrom 86 = .ok (.lload 7, 2) := by decide +kernel
theorem dX4_countFrom_88 : decode cX4_countFrom 88 = .ok (.lconst 0, 1) := by decide +kernel
theorem dX4_countFrom_89 : decode cX4_countFrom 89 = .ok (.lcmp, 1) := by decide +kernel
theorem dX4_countFrom_90 : decode cX4_countFrom 90 = .ok (.ifCond .ne 5, 3) := by decide +kernel
theorem dX4_countFrom_93 : decode cX4_countFrom 93 = .ok (.iload_n 3, 1) := by decide +kernel
theorem dX4_countFrom_94 : decode cX4_countFrom 94 = .ok (.ireturn, 1) := by decide +kernel
theorem dX4_countFrom_95 : decode cX4_countFrom 95 = .ok (.lload 7, 2) := by decide +kernel
theorem dX4_countFrom_97 : decode cX4_countFrom 97 = .ok (.lload 7, 2) := by decide +kernel
theorem dX4_countFrom_99 : decode cX4_countFrom 99 = .ok (.lneg, 1) := by decide +kernel
theorem dX4_countFrom_100 : decode cX4_countFrom 100 = .ok (.land, 1) := by decide +kernel
theorem dX4_countFrom_101 : decode cX4_countFrom 101 = .ok (.lstore 11, 2) := by decide +kernel
theorem dX4_countFrom_103 : decode cX4_countFrom 103 = .ok (.aload_n 0, 1) := by decide +kernel
theorem dX4_countFrom_104 : decode cX4_countFrom 104 = .ok (.getfield 12, 3) := by decide +kernel
theorem dX4_countFrom_107 : decode cX4_countFrom 107 = .ok (.lload 11, 2) := by decide +kernel
theorem dX4_countFrom_109 : decode cX4_countFrom 109 = .ok (.aload_n 1, 1) := by decide +kernel
theorem dX4_countFrom_110 : decode cX4_countFrom 110 = .ok (.getfield 44, 3) := by decide +kernel
theorem dX4_countFrom_113 : decode cX4_countFrom 113 = .ok (.invokevirtual 50, 3) := by decide +kernel
theorem dX4_countFrom_116 : decode cX4_countFrom 116 = .ok (.lload 11, 2) := by decide +kernel
theorem dX4_countFrom_118 : decode cX4_countFrom 118 = .ok (.lneg, 1) := by decide +kernel
theorem dX4_countFrom_119 : decode cX4_countFrom 119 = .ok (.iconst 1, 1) := by decide +kernel
theorem dX4_countFrom_120 : decode cX4_countFrom 120 = .ok (.lshl, 1) := by decide +kernel
theorem dX4_countFrom_121 : decode cX4_countFrom 121 = .ok (.lstore 4, 2) := by decide +kernel
theorem dX4_countFrom_123 : decode cX4_countFrom 123 = .ok (.iinc 6 1, 3) := by decide +kernel
theorem dX4_countFrom_126 : decode cX4_countFrom 126 = .ok (.goto (-116), 3) := by decide +kernel
theorem dX4_countFrom_129 : decode cX4_countFrom 129 = .ok (.iload_n 3, 1) := by decide +kernel
theorem dX4_countFrom_130 : decode cX4_countFrom 130 = .ok (.ireturn, 1) := by decide +kernel
def f_X4_countFrom_129 (x3 : Int32) (σ : St) : Option (Int32 × St) :=
  some (x3, σ)
set_option maxRecDepth 100000 in
set_option maxHeartbeats 4000000 in
theorem b_X4_countFrom_129 {g : Geo} {x : Cx} (C : Ok g x cX4_countFrom RX4 13 (some .int) rm_X4_countFrom) : ∀ (x3 : Int32) (σ : St) (r : Int32) (σ' : St), f_X4_countFrom_129 x3 σ = some (r, σ') → V g x (qm g x (some (.int r)) σ') 13 σ [(3, .int x3)] [] 129 := by
  intro x3 σ r σ' h
  unfold f_X4_countFrom_129 at h
  refine v_iload_n C dX4_countFrom_129 rfl 0 rfl ?_
  cases h
  exact v_iret C dX4_countFrom_130
def f_X4_countFrom_123 (k10 : Int32 → Int32 → Int64 → Int32 → St → Option (Int32 × St)) (x2 : Int32) (x3 : Int32) (x4 : Int64) (x6 : Int32) (σ : St) : Option (Int32 × St) :=
  k10 x2 x3 x4 (x6 + 1) σ
set_option maxRecDepth 100000 in
set_option maxHeartbeats 4000000 in
theorem b_X4_countFrom_123 {g : Geo} {x : Cx} (C : Ok g x cX4_countFrom RX4 13 (some .int) rm_X4_countFrom) (k10 : Int32 → Int32 → Int64 → Int32 → St → Option (Int32 × St)) (hk10 : ∀ (x2 : Int32) (x3 : Int32) (x4 : Int64) (x6 : Int32) (τ : St) (r : Int32) (τ' : St), k10 x2 x3 x4 x6 τ = some (r, τ') → V g x (qm g x (some (.int r)) τ') 13 τ [(0, .ref (g.1 4)), (1, .ref (g.1 1)), (2, .int x2), (3, .int x3), (4, .long x4), (6, .int x6)] [] 10) : ∀ (x2 : Int32) (x3 : Int32) (x4 : Int64) (x6 : Int32) (σ : St) (r : Int32) (σ' : St), f_X4_countFrom_123 k10 x2 x3 x4 x6 σ = some (r, σ') → V g x (qm g x (some (.int r)) σ') 13 σ [(0, .ref (g.1 4)), (1, .ref (g.1 1)), (2, .int x2), (3, .int x3), (4, .long x4), (6, .int x6)] [] 123 := by
  intro x2 x3 x4 x6 σ r σ' h
  unfold f_X4_countFrom_123 at h
  refine v_iinc C (v := (x6 + 1)) (lv' := [(6, .int _), (0, .ref _), (1, .ref _), (2, .int _), (3, .int _), (4, .long _)]) dX4_countFrom_123 5 rfl rfl (by decide) rfl ?_
  refine v_goto C (tgt := 10) dX4_countFrom_126 (by decide) ?_
  refine V.sub (lv' := [(0, .ref _), (1, .ref _), (2, .int _), (3, .int _), (4, .long _), (6, .int _)]) [1, 2, 3, 4, 5, 0] rfl ?_
  exact hk10 _ _ _ _  _ _ _ h
def f_X4_countFrom_10 : Nat → Int32 → Int32 → Int64 → Int32 → St → Option (Int32 × St)
  | 0, _, _, _, _, _ => none
  | n + 1, x2, x3, x4, x6, σ =>
    if (10000 : Int32) ≤ x6 then
      f_X4_countFrom_129 x3 σ
    else
      if x2 < x3 then
        f_X4_countFrom_129 x3 σ
      else
        bd (f_X2_highs 10 σ) fun v1 σ2 =>
        bd (f_X2_lows 10 σ2) fun v3 σ4 =>
        bd (f_X4_firstBranch (v3 &&& x4) v1 (gi σ4 1 0) σ4) fun v5 σ6 =>
        if v5 = (0 : Int64) then
          if v1 = (0 : Int64) then
            some (x3, σ6)
          else
            bd (f_X2_flip 10 (v1 &&& (-v1)) (gi σ6 1 0) σ6) fun _ σ8 =>
            f_X4_countFrom_123 (f_X4_countFrom_10 n) x2 x3 (lshl (-(v1 &&& (-v1))) (1 : Int32)) x6 σ8
        else
          bd (f_X2_flip 10 v5 (gi σ6 1 0) σ6) fun _ σ11 =>
          f_X4_countFrom_123 (f_X4_countFrom_10 n) x2 (x3 + 1) (-1 : Int64) x6 σ11
set_option maxRecDepth 100000 in
set_option maxHeartbeats 4000000 in
theorem b_X4_countFrom_10 {g : Geo} {x : Cx} (C : Ok g x cX4_countFrom RX4 13 (some .int) rm_X4_countFrom) : ∀ (n : Nat) (x2 : Int32) (x3 : Int32) (x4 : Int64) (x6 : Int32) (σ : St) (r : Int32) (σ' : St), f_X4_countFrom_10 n x2 x3 x4 x6 σ = some (r, σ') → V g x (qm g x (some (.int r)) σ') 13 σ [(0, .ref (g.1 4)), (1, .ref (g.1 1)), (2, .int x2), (3, .int x3), (4, .long x4), (6, .int x6)] [] 10 := by
  intro n
  induction n with
  | zero =>
    intro x2 x3 x4 x6 σ r σ' h
    rw [f_X4_countFrom_10] at h
    cases h
  | succ n ih =>
    intro x2 x3 x4 x6 σ r σ' h
    rw [f_X4_countFrom_10] at h
    refine v_iload C dX4_countFrom_10 5 rfl ?_
    refine v_sipush C (v := (10000 : Int32)) dX4_countFrom_12 (by decide) ?_
    refine v_icmp_ge C (tgt := 129) dX4_countFrom_15 (by decide) (fun q14 => ?_) (fun q14 => ?_)
    · rw [if_pos q14] at h
      refine V.sub (lv' := [(3, .int _)]) [3] rfl ?_
      exact b_X4_countFrom_129 C _  _ _ _ h
    · rw [if_neg q14] at h
      refine v_iload_n C dX4_countFrom_18 rfl 3 rfl ?_
      refine v_iload_n C dX4_countFrom_19 rfl 2 rfl ?_
      refine v_icmp_gt C (tgt := 129) dX4_countFrom_20 (by decide) (fun q13 => ?_) (fun q13 => ?_)
      · rw [if_pos q13] at h
        refine V.sub (lv' := [(3, .int _)]) [3] rfl ?_
        exact b_X4_countFrom_129 C _  _ _ _ h
      · rw [if_neg q13] at h
        refine v_aload_n C dX4_countFrom_23 rfl 0 rfl ?_
        refine v_getR C (p' := 10) fl_RX4_12 rfl rfl dX4_countFrom_24 ?_
        refine v_aload_n C dX4_countFrom_27 rfl 1 rfl ?_
        obtain ⟨v1, σ2, cσ2, h⟩ := bd_some h
        refine callVl C (c_X2_highs rfl cσ2) km_X2_highs kv_X2_highs rfl ml_RX4_35 rfl rfl (by decide) (Nat.le_of_ble_eq_true rfl) dX4_countFrom_28 ?_
        refine v_lstore C (lv' := [(7, .long _), (0, .ref _), (1, .ref _), (2, .int _), (3, .int _), (4, .long _), (6, .int _)]) dX4_countFrom_31 (by decide) rfl ?_
        refine v_aload_n C dX4_countFrom_33 rfl 1 rfl ?_
        refine v_getR C (p' := 10) fl_RX4_12 rfl rfl dX4_countFrom_34 ?_
        refine v_aload_n C dX4_countFrom_37 rfl 2 rfl ?_
        obtain ⟨v3, σ4, cσ4, h⟩ := bd_some h
        refine callVl C (c_X2_lows rfl cσ4) km_X2_lows kv_X2_lows rfl ml_RX4_31 rfl rfl (by decide) (Nat.le_of_ble_eq_true rfl) dX4_countFrom_38 ?_
        refine v_lload C dX4_countFrom_41 5 rfl ?_
        refine v_land C dX4_countFrom_43 ?_
        refine v_lload C dX4_countFrom_44 0 rfl ?_
        refine v_aload_n C dX4_countFrom_46 rfl 2 rfl ?_
        refine v_getI C fl_RX4_44 rfl dX4_countFrom_47 ?_
        obtain ⟨v5, σ6, cσ6, h⟩ := bd_some h
        refine callSl C (c_X4_firstBranch cσ6) km_X4_firstBranch ks_X4_firstBranch ml_RX4_95 rfl rfl (by decide) (Nat.le_of_ble_eq_true rfl) dX4_countFrom_50 ?_
        refine v_lstore C (lv' := [(9, .long _), (7, .long _), (0, .ref _), (1, .ref _), (2, .int _), (3, .int _), (4, .long _), (6, .int _)]) dX4_countFrom_53 (by decide) rfl ?_
        refine v_lload C dX4_countFrom_55 0 rfl ?_
        refine v_lconst C (v := (0 : Int64)) dX4_countFrom_57 (by decide) ?_
        refine v_lcmp_eq C (tgt := 86) dX4_countFrom_58 dX4_countFrom_59 (by decide) (fun q12 => ?_) (fun q12 => ?_)
        · rw [if_pos q12] at h
          refine v_lload C dX4_countFrom_86 1 rfl ?_
          refine v_lconst C (v := (0 : Int64)) dX4_countFrom_88 (by decide) ?_
          refine v_lcmp_ne C (tgt := 95) dX4_countFrom_89 dX4_countFrom_90 (by decide) (fun q9 => ?_) (fun q9 => ?_)
          · rw [if_neg q9] at h
            refine v_lload C dX4_countFrom_95 1 rfl ?_
            refine v_lload C dX4_countFrom_97 1 rfl ?_
            refine v_lneg C dX4_countFrom_99 ?_
            refine v_land C dX4_countFrom_100 ?_
            refine v_lstore C (lv' := [(11, .long _), (9, .long _), (7, .long _), (0, .ref _), (1, .ref _), (2, .int _), (3, .int _), (4, .long _), (6, .int _)]) dX4_countFrom_101 (by decide) rfl ?_
            refine v_aload_n C dX4_countFrom_103 rfl 3 rfl ?_
            refine v_getR C (p' := 10) fl_RX4_12 rfl rfl dX4_countFrom_104 ?_
            refine v_lload C dX4_countFrom_107 0 rfl ?_
            refine v_aload_n C dX4_countFrom_109 rfl 4 rfl ?_
            refine v_getI C fl_RX4_44 rfl dX4_countFrom_110 ?_
            obtain ⟨v7, σ8, cσ8, h⟩ := bd_some h
            refine callVv C (c_X2_flip rfl cσ8) km_X2_flip kv_X2_flip rfl ml_RX4_50 rfl rfl (by decide) (Nat.le_of_ble_eq_true rfl) dX4_countFrom_113 ?_
            refine v_lload C dX4_countFrom_116 0 rfl ?_
            refine v_lneg C dX4_countFrom_118 ?_
            refine v_iconst C (v := (1 : Int32)) dX4_countFrom_119 (by decide) ?_
            refine v_lshl C dX4_countFrom_120 ?_
            refine v_lstore C (lv' := [(4, .long _), (11, .long _), (9, .long _), (7, .long _), (0, .ref _), (1, .ref _), (2, .int _), (3, .int _), (6, .int _)]) dX4_countFrom_121 (by decide) rfl ?_
            refine V.sub (lv' := [(0, .ref _), (1, .ref _), (2, .int _), (3, .int _), (4, .long _), (6, .int _)]) [4, 5, 6, 7, 0, 8] rfl ?_
            exact b_X4_countFrom_123 C _ ih _ _ _ _  _ _ _ h
          · rw [if_pos q9] at h
            refine v_iload_n C dX4_countFrom_93 rfl 5 rfl ?_
            cases h
            exact v_iret C dX4_countFrom_94
        · rw [if_neg q12] at h
          refine v_aload_n C dX4_countFrom_62 rfl 2 rfl ?_
          refine v_getR C (p' := 10) fl_RX4_12 rfl rfl dX4_countFrom_63 ?_
          refine v_lload C dX4_countFrom_66 0 rfl ?_
          refine v_aload_n C dX4_countFrom_68 rfl 3 rfl ?_
          refine v_getI C fl_RX4_44 rfl dX4_countFrom_69 ?_
          obtain ⟨v10, σ11, cσ11, h⟩ := bd_some h
          refine callVv C (c_X2_flip rfl cσ11) km_X2_flip kv_X2_flip rfl ml_RX4_50 rfl rfl (by decide) (Nat.le_of_ble_eq_true rfl) dX4_countFrom_72 ?_
          refine v_iinc C (v := (x3 + 1)) (lv' := [(3, .int _), (9, .long _), (7, .long _), (0, .ref _), (1, .ref _), (2, .int _), (4, .long _), (6, .int _)]) dX4_countFrom_75 5 rfl rfl (by decide) rfl ?_
          refine v_ldc2_w C (v := (-1 : Int64)) conl_RX4_93 dX4_countFrom_78 ?_
          refine v_lstore C (lv' := [(4, .long _), (3, .int _), (9, .long _), (7, .long _), (0, .ref _), (1, .ref _), (2, .int _), (6, .int _)]) dX4_countFrom_81 (by decide) rfl ?_
          refine v_goto C (tgt := 123) dX4_countFrom_83 (by decide) ?_
          refine V.sub (lv' := [(0, .ref _), (1, .ref _), (2, .int _), (3, .int _), (4, .long _), (6, .int _)]) [4, 5, 6, 1, 0, 7] rfl ?_
          exact b_X4_countFrom_123 C _ ih _ _ _ _  _ _ _ h
def f_X4_countFrom (a2 : Int32) (σ : St) : Option (Int32 × St) :=
  f_X4_countFrom_10 FU a2 (1 : Int32) (-1 : Int64) (0 : Int32) σ
set_option maxRecDepth 100000 in
set_option maxHeartbeats 4000000 in
theorem c_X4_countFrom {g : Geo} {a2 : Int32} {σ : St} {r : Int32} {σ' : St} (h : f_X4_countFrom a2 σ = some (r, σ')) : Ct g yX4_countFrom cX4_countFrom 13 (some .int) rm_X4_countFrom [.ref (g.1 4), .ref (g.1 1), .int a2] σ (some (.int r)) σ' := by
  refine ct_of (own := RX4) (by decide) rfl (Nat.le_of_ble_eq_true rfl) (fun x C => ?_) ⟨rfl, rfl⟩
  show V g x _ 13 σ [(0, .ref (g.1 4)), (1, .ref (g.1 1)), (2, .int a2)] [] 0
  unfold f_X4_countFrom at h
  refine v_iconst C (v := (1 : Int32)) dX4_countFrom_0 (by decide) ?_
  refine v_istore_n C (lv' := [(3, .int _), (0, .ref _), (1, .ref _), (2, .int _)]) dX4_countFrom_1 rfl (by decide) rfl ?_
  refine v_ldc2_w C (v := (-1 : Int64)) conl_RX4_93 dX4_countFrom_2 ?_
  refine v_lstore C (lv' := [(4, .long _), (3, .int _), (0, .ref _), (1, .ref _), (2, .int _)]) dX4_countFrom_5 (by decide) rfl ?_
  refine v_iconst C (v := (0 : Int32)) dX4_countFrom_7 (by decide) ?_
  refine v_istore C (lv' := [(6, .int _), (4, .long _), (3, .int _), (0, .ref _), (1, .ref _), (2, .int _)]) dX4_countFrom_8 (by decide) rfl ?_
  refine V.sub (lv' := [(0, .ref _), (1, .ref _), (2, .int _), (3, .int _), (4, .long _), (6, .int _)]) [3, 4, 5, 2, 1, 0] rfl ?_
  exact b_X4_countFrom_10 C FU _ _ _ _  _ _ _ h
theorem dX4_family_0 : decode cX4_family 0 = .ok (.aload_n 0, 1) := by decide +kernel
theorem dX4_family_1 : decode cX4_family 1 = .ok (.getfield 12, 3) := by decide +kernel
theorem dX4_family_4 : decode cX4_family 4 = .ok (.aload_n 2, 1) := by decide +kernel
theorem dX4_family_5 : decode cX4_family 5 = .ok (.invokevirtual 60, 3) := by decide +kernel
theorem dX4_family_8 : decode cX4_family 8 = .ok (.aload_n 0, 1) := by decide +kernel
theorem dX4_family_9 : decode cX4_family 9 = .ok (.aload_n 1, 1) := by decide +kernel
theorem dX4_family_10 : decode cX4_family 10 = .ok (.aload_n 0, 1) := by decide +kernel
theorem dX4_family_11 : decode cX4_family 11 = .ok (.getfield 12, 3) := by decide +kernel
theorem dX4_family_14 : decode cX4_family 14 = .ok (.iconst 0, 1) := by decide +kernel
theorem dX4_family_15 : decode cX4_family 15 = .ok (.invokevirtual 78, 3) := by decide +kernel
theorem dX4_family_18 : decode cX4_family 18 = .ok (.pop, 1) := by decide +kernel
theorem dX4_family_19 : decode cX4_family 19 = .ok (.aload_n 0, 1) := by decide +kernel
theorem dX4_family_20 : decode cX4_family 20 = .ok (.getfield 21, 3) := by decide +kernel
theorem dX4_family_23 : decode cX4_family 23 = .ok (.getfield 82, 3) := by decide +kernel
theorem dX4_family_26 : decode cX4_family 26 = .ok (.ifCond .eq 17, 3) := by decide +kernel
theorem dX4_family_29 : decode cX4_family 29 = .ok (.aload_n 0, 1) := by decide +kernel
theorem dX4_family_30 : decode cX4_family 30 = .ok (.getfield 21, 3) := by decide +kernel
theorem dX4_family_33 : decode cX4_family 33 = .ok (.aload_n 0, 1) := by decide +kernel
theorem dX4_family_34 : decode cX4_family 34 = .ok (.getfield 12, 3) := by decide +kernel
theorem dX4_family_37 : decode cX4_family 37 = .ok (.invokevirtual 68, 3) := by decide +kernel
theorem dX4_family_40 : decode cX4_family 40 = .ok (.ifCond .ne 24, 3) := by decide +kernel
theorem dX4_family_43 : decode cX4_family 43 = .ok (.aload_n 0, 1) := by decide +kernel
theorem dX4_family_44 : decode cX4_family 44 = .ok (.getfield 21, 3) := by decide +kernel
theorem dX4_family_47 : decode cX4_family 47 = .ok (.aload_n 0, 1) := by decide +kernel
theorem dX4_family_48 : decode cX4_family 48 = .ok (.getfield 12, 3) := by decide +kernel
theorem dX4_family_51 : decode cX4_family 51 = .ok (.invokevirtual 60, 3) := by decide +kernel
theorem dX4_family_54 : decode cX4_family 54 = .ok (.aload_n 0, 1) := by decide +kernel
theorem dX4_family_55 : decode cX4_family 55 = .ok (.aload_n 0, 1) := by decide +kernel
theorem dX4_family_56 : decode cX4_family 56 = .ok (.aload_n 1, 1) := by decide +kernel
theorem dX4_family_57 : decode cX4_family 57 = .ok (.iload_n 3, 1) := by decide +kernel
theorem dX4_family_58 : decode cX4_family 58 = .ok (.invokevirtual 86, 3) := by decide +kernel
theorem dX4_family_61 : decode cX4_family 61 = .ok (.putfield 90, 3) := by decide +kernel
theorem dX4_family_64 : decode cX4_family 64 = .ok (.aload_n 0, 1) := by decide +kernel
theorem dX4_family_65 : decode cX4_family 65 = .ok (.getfield 90, 3) := by decide +kernel
theorem dX4_family_68 : decode cX4_family 68 = .ok (.ireturn, 1) := by decide +kernel
def f_X4_family_64 (σ : St) : Option (Int32 × St) :=
  some ((gi σ 4 4), σ)
set_option maxRecDepth 100000 in
set_option maxHeartbeats 4000000 in
theorem b_X4_family_64 {g : Geo} {x : Cx} (C : Ok g x cX4_family RX4 4 (some .int) rm_X4_family) : ∀ (σ : St) (r : Int32) (σ' : St), f_X4_family_64 σ = some (r, σ') → V g x (qm g x (some (.int r)) σ') 4 σ [(0, .ref (g.1 4))] [] 64 := by
  intro σ r σ' h
  unfold f_X4_family_64 at h
  refine v_aload_n C dX4_family_64 rfl 0 rfl ?_
  refine v_getI C fl_RX4_90 rfl dX4_family_65 ?_
  cases h
  exact v_iret C dX4_family_68
def f_X4_family_43 (x3 : Int32) (σ : St) : Option (Int32 × St) :=
  bd (f_X2_take 12 10 σ) fun _ σ2 =>
  bd (f_X4_countFrom x3 σ2) fun v3 σ4 =>
  fI σ4 4 4 v3 fun σ5 =>
  f_X4_family_64 σ5
set_option maxRecDepth 100000 in
set_option maxHeartbeats 4000000 in
theorem b_X4_family_43 {g : Geo} {x : Cx} (C : Ok g x cX4_family RX4 4 (some .int) rm_X4_family) : ∀ (x3 : Int32) (σ : St) (r : Int32) (σ' : St), f_X4_family_43 x3 σ = some (r, σ') → V g x (qm g x (some (.int r)) σ') 4 σ [(0, .ref (g.1 4)), (1, .ref (g.1 1)), (3, .int x3)] [] 43 := by
  intro x3 σ r σ' h
  unfold f_X4_family_43 at h
  refine v_aload_n C dX4_family_43 rfl 0 rfl ?_
  refine v_getR C (p' := 12) fl_RX4_21 rfl rfl dX4_family_44 ?_
  refine v_aload_n C dX4_family_47 rfl 0 rfl ?_
  refine v_getR C (p' := 10) fl_RX4_12 rfl rfl dX4_family_48 ?_
  obtain ⟨v1, σ2, cσ2, h⟩ := bd_some h
  refine callVv C (c_X2_take rfl rfl cσ2) km_X2_take kv_X2_take rfl ml_RX4_60 rfl rfl (by decide) (Nat.le_of_ble_eq_true rfl) dX4_family_51 ?_
  refine v_aload_n C dX4_family_54 rfl 0 rfl ?_
  refine v_aload_n C dX4_family_55 rfl 0 rfl ?_
  refine v_aload_n C dX4_family_56 rfl 1 rfl ?_
  refine v_iload_n C dX4_family_57 rfl 2 rfl ?_
  obtain ⟨v3, σ4, cσ4, h⟩ := bd_some h
  refine callVi C (c_X4_countFrom cσ4) km_X4_countFrom kv_X4_countFrom rfl ml_RX4_86 rfl rfl (by decide) (Nat.le_of_ble_eq_true rfl) dX4_family_58 ?_
  obtain ⟨σ5, eσ5, h⟩ := fI_ex h
  refine x_putI C fl_RX4_90 fw_4_4 rfl eσ5 dX4_family_61 ?_
  refine V.sub (lv' := [(0, .ref _)]) [0] rfl ?_
  exact b_X4_family_64 C  _ _ _ h
def f_X4_family (q2 : Nat) (a3 : Int32) (σ : St) : Option (Int32 × St) :=
  bd (f_X2_take 10 q2 σ) fun _ σ2 =>
  bd (f_X4_toEnd 10 (0 : Int32) σ2) fun v3 σ4 =>
  if (gi σ4 12 0) = 0 then
    f_X4_family_43 a3 σ4
  else
    bd (f_X2_isLike 12 10 σ4) fun v5 σ6 =>
    if v5 = 0 then
      f_X4_family_43 a3 σ6
    else
      f_X4_family_64 σ6
set_option maxRecDepth 100000 in
set_option maxHeartbeats 4000000 in
theorem c_X4_family {g : Geo} {q2 : Nat} {a3 : Int32} (hq2 : kd q2 = 2) {σ : St} {r : Int32} {σ' : St} (h : f_X4_family q2 a3 σ = some (r, σ')) : Ct g yX4_family cX4_family 4 (some .int) rm_X4_family [.ref (g.1 4), .ref (g.1 1), .ref (g.1 q2), .int a3] σ (some (.int r)) σ' := by
  refine ct_of (own := RX4) (by decide) rfl (Nat.le_of_ble_eq_true rfl) (fun x C => ?_) ⟨rfl, rfl⟩
  show V g x _ 4 σ [(0, .ref (g.1 4)), (1, .ref (g.1 1)), (2, .ref (g.1 q2)), (3, .int a3)] [] 0
  unfold f_X4_family at h
  refine v_aload_n C dX4_family_0 rfl 0 rfl ?_
  refine v_getR C (p' := 10) fl_RX4_12 rfl rfl dX4_family_1 ?_
  refine v_aload_n C dX4_family_4 rfl 2 rfl ?_
  obtain ⟨v1, σ2, cσ2, h⟩ := bd_some h
  refine callVv C (c_X2_take rfl hq2 cσ2) km_X2_take kv_X2_take rfl ml_RX4_60 rfl rfl (by decide) (Nat.le_of_ble_eq_true rfl) dX4_family_5 ?_
  refine v_aload_n C dX4_family_8 rfl 0 rfl ?_
  refine v_aload_n C dX4_family_9 rfl 1 rfl ?_
  refine v_aload_n C dX4_family_10 rfl 0 rfl ?_
  refine v_getR C (p' := 10) fl_RX4_12 rfl rfl dX4_family_11 ?_
  refine v_iconst C (v := (0 : Int32)) dX4_family_14 (by decide) ?_
  obtain ⟨v3, σ4, cσ4, h⟩ := bd_some h
  refine callVi C (c_X4_toEnd rfl cσ4) km_X4_toEnd kv_X4_toEnd rfl ml_RX4_78 rfl rfl (by decide) (Nat.le_of_ble_eq_true rfl) dX4_family_15 ?_
  refine v_pop C dX4_family_18 rfl ?_
  refine v_aload_n C dX4_family_19 rfl 0 rfl ?_
  refine v_getR C (p' := 12) fl_RX4_21 rfl rfl dX4_family_20 ?_
  refine v_getZ C fl_RX4_82 rfl dX4_family_23 ?_
  refine v_if_eq C (tgt := 43) dX4_family_26 (by decide) (fun q8 => ?_) (fun q8 => ?_)
  · rw [if_pos q8] at h
    refine V.sub (lv' := [(0, .ref _), (1, .ref _), (3, .int _)]) [0, 1, 3] rfl ?_
    exact b_X4_family_43 C _  _ _ _ h
  · rw [if_neg q8] at h
    refine v_aload_n C dX4_family_29 rfl 0 rfl ?_
    refine v_getR C (p' := 12) fl_RX4_21 rfl rfl dX4_family_30 ?_
    refine v_aload_n C dX4_family_33 rfl 0 rfl ?_
    refine v_getR C (p' := 10) fl_RX4_12 rfl rfl dX4_family_34 ?_
    obtain ⟨v5, σ6, cσ6, h⟩ := bd_some h
    refine callVi C (c_X2_isLike rfl rfl cσ6) km_X2_isLike kv_X2_isLike rfl ml_RX4_68 rfl rfl (by decide) (Nat.le_of_ble_eq_true rfl) dX4_family_37 ?_
    refine v_if_ne C (tgt := 64) dX4_family_40 (by decide) (fun q7 => ?_) (fun q7 => ?_)
    · rw [if_neg q7] at h
      refine V.sub (lv' := [(0, .ref _)]) [0] rfl ?_
      exact b_X4_family_64 C  _ _ _ h
    · rw [if_pos q7] at h
      refine V.sub (lv' := [(0, .ref _), (1, .ref _), (3, .int _)]) [0, 1, 3] rfl ?_
      exact b_X4_family_43 C _  _ _ _ h
theorem dX5_forgetWeights_0 : decode cX5_forgetWeights 0 = .ok (.aload_n 0, 1) := by decide +kernel
theorem dX5_forgetWeights_1 : decode cX5_forgetWeights 1 = .ok (.getfield 48, 3) := by decide +kernel
theorem dX5_forgetWeights_4 : decode cX5_forgetWeights 4 = .ok (.iconst 0, 1) := by decide +kernel
theorem dX5_forgetWeights_5 : decode cX5_forgetWeights 5 = .ok (.invokestatic 254, 3) := by decide +kernel
theorem dX5_forgetWeights_8 : decode cX5_forgetWeights 8 = .ok (.return_, 1) := by decide +kernel
def f_X5_forgetWeights (σ : St) : Option (Unit × St) :=
  bd (f_J7_fill_53178 15 (0 : Int32) σ) fun _ σ2 =>
  some ((), σ2)
set_option maxRecDepth 100000 in
set_option maxHeartbeats 4000000 in
theorem c_X5_forgetWeights {g : Geo} {σ : St} {r : Unit} {σ' : St} (h : f_X5_forgetWeights σ = some (r, σ')) : Ct g yX5_forgetWeights cX5_forgetWeights 1 none rm_X5_forgetWeights [.ref (g.1 0)] σ none σ' := by
  refine ct_of (own := RX5) (by decide) rfl (Nat.le_of_ble_eq_true rfl) (fun x C => ?_) ⟨rfl, rfl⟩
  show V g x _ 1 σ [(0, .ref (g.1 0))] [] 0
  unfold f_X5_forgetWeights at h
  refine v_aload_n C dX5_forgetWeights_0 rfl 0 rfl ?_
  refine v_getR C (p' := 15) fl_RX5_48 rfl rfl dX5_forgetWeights_1 ?_
  refine v_iconst C (v := (0 : Int32)) dX5_forgetWeights_4 (by decide) ?_
  obtain ⟨v1, σ2, cσ2, h⟩ := bd_some h
  refine callSv C (c_J7_fill_53178 rfl cσ2) km_J7_fill_53178 ks_J7_fill_53178 ml_RX5_254 rfl rfl (by decide) (Nat.le_of_ble_eq_true rfl) dX5_forgetWeights_5 ?_
  cases h
  exact v_vret C dX5_forgetWeights_8
