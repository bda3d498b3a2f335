/-! ===== printed: X5_count, X5_weighs, X5_point, X5_free, X5_turn, X5_apart, X5_end, X5_reach, X5_mirror, X5_makeJoining, X5_most, X5_lack, X5_bar, X5_barred, X6_in, X6_empty, X6_layGround, X6_cells, X6_isCell, X6_isUp, X6_isDown, X6_ground, X6_isHexagon ===== -/
theorem dX5_count_0 : decode cX5_count 0 = .ok (.iload_n 1, 1) := by decide +kernel
theorem dX5_count_1 : decode cX5_count 1 = .ok (.invokestatic 151, 3) := by decide +kernel
theorem dX5_count_4 : decode cX5_count 4 = .ok (.ifCond .eq 10, 3) := by decide +kernel
theorem dX5_count_7 : decode cX5_count 7 = .ok (.iload_n 2, 1) := by decide +kernel
theorem dX5_count_8 : decode cX5_count 8 = .ok (.invokestatic 128, 3) := by decide +kernel
theorem dX5_count_11 : decode cX5_count 11 = .ok (.ifCond .ne 6, 3) := by decide +kernel
theorem dX5_count_14 : decode cX5_count 14 = .ok (.ldc 95, 2) := by decide +kernel
theorem dX5_count_16 : decode cX5_count 16 = .ok (.ireturn, 1) := by decide +kernel
theorem dX5_count_17 : decode cX5_count 17 = .ok (.aload_n 0, 1) := by decide +kernel
theorem dX5_count_18 : decode cX5_count 18 = .ok (.getfield 39, 3) := by decide +kernel
theorem dX5_count_21 : decode cX5_count 21 = .ok (.iload_n 1, 1) := by decide +kernel
theorem dX5_count_22 : decode cX5_count 22 = .ok (.aaload, 1) := by decide +kernel
theorem dX5_count_23 : decode cX5_count 23 = .ok (.getfield 163, 3) := by decide +kernel
theorem dX5_count_26 : decode cX5_count 26 = .ok (.ifCond .ne 6, 3) := by decide +kernel
theorem dX5_count_29 : decode cX5_count 29 = .ok (.ldc 158, 2) := by decide +kernel
theorem dX5_count_31 : decode cX5_count 31 = .ok (.ireturn, 1) := by decide +kernel
theorem dX5_count_32 : decode cX5_count 32 = .ok (.aload_n 0, 1) := by decide +kernel
theorem dX5_count_33 : decode cX5_count 33 = .ok (.getfield 39, 3) := by decide +kernel
theorem dX5_count_36 : decode cX5_count 36 = .ok (.iload_n 1, 1) := by decide +kernel
theorem dX5_count_37 : decode cX5_count 37 = .ok (.aaload, 1) := by decide +kernel
theorem dX5_count_38 : decode cX5_count 38 = .ok (.iload_n 2, 1) := by decide +kernel
theorem dX5_count_39 : decode cX5_count 39 = .ok (.invokevirtual 180, 3) := by decide +kernel
theorem dX5_count_42 : decode cX5_count 42 = .ok (.invokestatic 82, 3) := by decide +kernel
theorem dX5_count_45 : decode cX5_count 45 = .ok (.ireturn, 1) := by decide +kernel
def f_X5_count_14 (σ : St) : Option (Int32 × St) :=
  some ((-900001 : Int32), σ)
set_option maxRecDepth 100000 in
set_option maxHeartbeats 4000000 in
theorem b_X5_count_14 {g : Geo} {x : Cx} (C : Ok g x cX5_count RX5 3 (some .int) rm_X5_count) : ∀ (σ : St) (r : Int32) (σ' : St), f_X5_count_14 σ = some (r, σ') → V g x (qm g x (some (.int r)) σ') 3 σ [] [] 14 := by
  intro σ r σ' h
  unfold f_X5_count_14 at h
  refine v_ldc C (v := (-900001 : Int32)) con_RX5_95 dX5_count_14 ?_
  cases h
  exact v_iret C dX5_count_16
def f_X5_count (a1 : Int32) (a2 : Int32) (σ : St) : Option (Int32 × St) :=
  bd (f_X5_isSlot a1 σ) fun v1 σ2 =>
  if v1 = 0 then
    f_X5_count_14 σ2
  else
    bd (f_X5_isKind a2 σ2) fun v3 σ4 =>
    if v3 = 0 then
      f_X5_count_14 σ4
    else
      rdR a1 fun p5 =>
      if (gi σ4 p5 0) = 0 then
        some ((-900003 : Int32), σ4)
      else
        rdR a1 fun p6 =>
        bd (f_X2_cellsOf p6 a2 σ4) fun v7 σ8 =>
        bd (f_J13_bitCount_95d88 v7 σ8) fun v9 σ10 =>
        some (v9, σ10)
set_option maxRecDepth 100000 in
set_option maxHeartbeats 4000000 in
theorem c_X5_count {g : Geo} {a1 : Int32} {a2 : Int32} {σ : St} {r : Int32} {σ' : St} (h : f_X5_count a1 a2 σ = some (r, σ')) : Ct g yX5_count cX5_count 3 (some .int) rm_X5_count [.ref (g.1 0), .int a1, .int a2] σ (some (.int r)) σ' := by
  refine ct_of (own := RX5) (by decide) rfl (Nat.le_of_ble_eq_true rfl) (fun x C => ?_) ⟨rfl, rfl⟩
  show V g x _ 3 σ [(0, .ref (g.1 0)), (1, .int a1), (2, .int a2)] [] 0
  unfold f_X5_count at h
  refine v_iload_n C dX5_count_0 rfl 1 rfl ?_
  obtain ⟨v1, σ2, cσ2, h⟩ := bd_some h
  refine callSi C (c_X5_isSlot cσ2) km_X5_isSlot ks_X5_isSlot ml_RX5_151 rfl rfl (by decide) (Nat.le_of_ble_eq_true rfl) dX5_count_1 ?_
  refine v_if_eq C (tgt := 14) dX5_count_4 (by decide) (fun q13 => ?_) (fun q13 => ?_)
  · rw [if_pos q13] at h
    refine V.sub (lv' := []) [] rfl ?_
    exact b_X5_count_14 C  _ _ _ h
  · rw [if_neg q13] at h
    refine v_iload_n C dX5_count_7 rfl 2 rfl ?_
    obtain ⟨v3, σ4, cσ4, h⟩ := bd_some h
    refine callSi C (c_X5_isKind cσ4) km_X5_isKind ks_X5_isKind ml_RX5_128 rfl rfl (by decide) (Nat.le_of_ble_eq_true rfl) dX5_count_8 ?_
    refine v_if_ne C (tgt := 17) dX5_count_11 (by decide) (fun q12 => ?_) (fun q12 => ?_)
    · rw [if_neg q12] at h
      refine v_aload_n C dX5_count_17 rfl 0 rfl ?_
      refine v_getR C (p' := 14) fl_RX5_39 rfl rfl dX5_count_18 ?_
      refine v_iload_n C dX5_count_21 rfl 1 rfl ?_
      obtain ⟨np5, p5, ep5, hp5, h⟩ := rdR_ex h
      refine x_aald C np5 ep5 dX5_count_22 ?_
      refine v_getZ C fl_RX5_163 hp5 dX5_count_23 ?_
      refine v_if_ne C (tgt := 32) dX5_count_26 (by decide) (fun q11 => ?_) (fun q11 => ?_)
      · rw [if_neg q11] at h
        refine v_aload_n C dX5_count_32 rfl 0 rfl ?_
        refine v_getR C (p' := 14) fl_RX5_39 rfl rfl dX5_count_33 ?_
        refine v_iload_n C dX5_count_36 rfl 1 rfl ?_
        obtain ⟨np6, p6, ep6, hp6, h⟩ := rdR_ex h
        refine x_aald C np6 ep6 dX5_count_37 ?_
        refine v_iload_n C dX5_count_38 rfl 2 rfl ?_
        obtain ⟨v7, σ8, cσ8, h⟩ := bd_some h
        refine callVl C (c_X2_cellsOf hp6 cσ8) km_X2_cellsOf kv_X2_cellsOf hp6 ml_RX5_180 rfl rfl (by decide) (Nat.le_of_ble_eq_true rfl) dX5_count_39 ?_
        obtain ⟨v9, σ10, cσ10, h⟩ := bd_some h
        refine callSi C (c_J13_bitCount_95d88 cσ10) km_J13_bitCount_95d88 ks_J13_bitCount_95d88 ml_RX5_82 rfl rfl (by decide) (Nat.le_of_ble_eq_true rfl) dX5_count_42 ?_
        cases h
        exact v_iret C dX5_count_45
      · rw [if_pos q11] at h
        refine v_ldc C (v := (-900003 : Int32)) con_RX5_158 dX5_count_29 ?_
        cases h
        exact v_iret C dX5_count_31
    · rw [if_pos q12] at h
      refine V.sub (lv' := []) [] rfl ?_
      exact b_X5_count_14 C  _ _ _ h
theorem dX5_weighs_0 : decode cX5_weighs 0 = .ok (.iload_n 1, 1) := by decide +kernel
theorem dX5_weighs_1 : decode cX5_weighs 1 = .ok (.invokestatic 151, 3) := by decide +kernel
theorem dX5_weighs_4 : decode cX5_weighs 4 = .ok (.ifCond .ne 6, 3) := by decide +kernel
theorem dX5_weighs_7 : decode cX5_weighs 7 = .ok (.ldc 95, 2) := by decide +kernel
theorem dX5_weighs_9 : decode cX5_weighs 9 = .ok (.ireturn, 1) := by decide +kernel
theorem dX5_weighs_10 : decode cX5_weighs 10 = .ok (.aload_n 0, 1) := by decide +kernel
theorem dX5_weighs_11 : decode cX5_weighs 11 = .ok (.getfield 39, 3) := by decide +kernel
theorem dX5_weighs_14 : decode cX5_weighs 14 = .ok (.iload_n 1, 1) := by decide +kernel
theorem dX5_weighs_15 : decode cX5_weighs 15 = .ok (.aaload, 1) := by decide +kernel
theorem dX5_weighs_16 : decode cX5_weighs 16 = .ok (.getfield 163, 3) := by decide +kernel
theorem dX5_weighs_19 : decode cX5_weighs 19 = .ok (.ifCond .ne 6, 3) := by decide +kernel
theorem dX5_weighs_22 : decode cX5_weighs 22 = .ok (.ldc 158, 2) := by decide +kernel
theorem dX5_weighs_24 : decode cX5_weighs 24 = .ok (.ireturn, 1) := by decide +kernel
theorem dX5_weighs_25 : decode cX5_weighs 25 = .ok (.iconst 0, 1) := by decide +kernel
theorem dX5_weighs_26 : decode cX5_weighs 26 = .ok (.istore_n 2, 1) := by decide +kernel
theorem dX5_weighs_27 : decode cX5_weighs 27 = .ok (.iconst 0, 1) := by decide +kernel
theorem dX5_weighs_28 : decode cX5_weighs 28 = .ok (.istore_n 3, 1) := by decide +kernel
theorem dX5_weighs_29 : decode cX5_weighs 29 = .ok (.iload_n 3, 1) := by decide +kernel
theorem dX5_weighs_30 : decode cX5_weighs 30 = .ok (.aload_n 0, 1) := by decide +kernel
theorem dX5_weighs_31 : decode cX5_weighs 31 = .ok (.getfield 12, 3) := by decide +kernel
theorem dX5_weighs_34 : decode cX5_weighs 34 = .ok (.getfield 66, 3) := by decide +kernel
theorem dX5_weighs_37 : decode cX5_weighs 37 = .ok (.if_icmp .ge 40, 3) := by decide +kernel
theorem dX5_weighs_40 : decode cX5_weighs 40 = .ok (.aload_n 0, 1) := by decide +kernel
theorem dX5_weighs_41 : decode cX5_weighs 41 = .ok (.getfield 39, 3) := by decide +kernel
theorem dX5_weighs_44 : decode cX5_weighs 44 = .ok (.iload_n 1, 1) := by decide +kernel
theorem dX5_weighs_45 : decode cX5_weighs 45 = .ok (.aaload, 1) := by decide +kernel
theorem dX5_weighs_46 : decode cX5_weighs 46 = .ok (.iload_n 3, 1) := by decide +kernel
theorem dX5_weighs_47 : decode cX5_weighs 47 = .ok (.invokevirtual 177, 3) := by decide +kernel
theorem dX5_weighs_50 : decode cX5_weighs 50 = .ok (.istore 4, 2) := by decide +kernel
theorem dX5_weighs_52 : decode cX5_weighs 52 = .ok (.iload 4, 2) := by decide +kernel
theorem dX5_weighs_54 : decode cX5_weighs 54 = .ok (.ifCond .lt 17, 3) := by decide +kernel
theorem dX5_weighs_57 : decode cX5_weighs 57 = .ok (.iload_n 2, 1) := by decide +kernel
theorem dX5_weighs_58 : decode cX5_weighs 58 = .ok (.aload_n 0, 1) := by decide +kernel
theorem dX5_weighs_59 : decode cX5_weighs 59 = .ok (.getfield 48, 3) := by decide +kernel
theorem dX5_weighs_62 : decode cX5_weighs 62 = .ok (.iload_n 3, 1) := by decide +kernel
theorem dX5_weighs_63 : decode cX5_weighs 63 = .ok (.iconst 3, 1) := by decide +kernel
theorem dX5_weighs_64 : decode cX5_weighs 64 = .ok (.imul, 1) := by decide +kernel
theorem dX5_weighs_65 : decode cX5_weighs 65 = .ok (.iload 4, 2) := by decide +kernel
theorem dX5_weighs_67 : decode cX5_weighs 67 = .ok (.iadd, 1) := by decide +kernel
theorem dX5_weighs_68 : decode cX5_weighs 68 = .ok (.iaload, 1) := by decide +kernel
theorem dX5_weighs_69 : decode cX5_weighs 69 = .ok (.iadd, 1) := by decide +kernel
theorem dX5_weighs_70 : decode cX5_weighs 70 = .ok (.istore_n 2, 1) := by decide +kernel
theorem dX5_weighs_71 : decode cX5_weighs 71 = .ok (.iinc 3 1, 3) := by decide +kernel
theorem dX5_weighs_74 : decode cX5_weighs 74 = .ok (.goto (-45), 3) := by decide +kernel
theorem dX5_weighs_77 : decode cX5_weighs 77 = .ok (.iload_n 2, 1) := by decide +kernel
theorem dX5_weighs_78 : decode cX5_weighs 78 = .ok (.ireturn, 1) := by decide +kernel
def f_X5_weighs_71 (k29 : Int32 → Int32 → Int32 → St → Option (Int32 × St)) (x1 : Int32) (x2 : Int32) (x3 : Int32) (σ : St) : Option (Int32 × St) :=
  k29 x1 x2 (x3 + 1) σ
set_option maxRecDepth 100000 in
set_option maxHeartbeats 4000000 in
theorem b_X5_weighs_71 {g : Geo} {x : Cx} (C : Ok g x cX5_weighs RX5 5 (some .int) rm_X5_weighs) (k29 : Int32 → Int32 → Int32 → St → Option (Int32 × St)) (hk29 : ∀ (x1 : Int32) (x2 : Int32) (x3 : Int32) (τ : St) (r : Int32) (τ' : St), k29 x1 x2 x3 τ = some (r, τ') → V g x (qm g x (some (.int r)) τ') 5 τ [(0, .ref (g.1 0)), (1, .int x1), (2, .int x2), (3, .int x3)] [] 29) : ∀ (x1 : Int32) (x2 : Int32) (x3 : Int32) (σ : St) (r : Int32) (σ' : St), f_X5_weighs_71 k29 x1 x2 x3 σ = some (r, σ') → V g x (qm g x (some (.int r)) σ') 5 σ [(0, .ref (g.1 0)), (1, .int x1), (2, .int x2), (3, .int x3)] [] 71 := by
  intro x1 x2 x3 σ r σ' h
  unfold f_X5_weighs_71 at h
  refine v_iinc C (v := (x3 + 1)) (lv' := [(3, .int _), (0, .ref _), (1, .int _), (2, .int _)]) dX5_weighs_71 3 rfl rfl (by decide) rfl ?_
  refine v_goto C (tgt := 29) dX5_weighs_74 (by decide) ?_
  refine V.sub (lv' := [(0, .ref _), (1, .int _), (2, .int _), (3, .int _)]) [1, 2, 3, 0] rfl ?_
  exact hk29 _ _ _  _ _ _ h
def f_X5_weighs_29 : Nat → Int32 → Int32 → Int32 → St → Option (Int32 × St)
  | 0, _, _, _, _ => none
  | n + 1, x1, x2, x3, σ =>
    if (gi σ 1 2) ≤ x3 then
      some (x2, σ)
    else
      rdR x1 fun p1 =>
      bd (f_X2_kindAt p1 x3 σ) fun v2 σ3 =>
      if v2 < 0 then
        f_X5_weighs_71 (f_X5_weighs_29 n) x1 x2 x3 σ3
      else
        rdI σ3 15 ((x3 * (3 : Int32)) + v2) fun v4 =>
        f_X5_weighs_71 (f_X5_weighs_29 n) x1 (x2 + v4) x3 σ3
set_option maxRecDepth 100000 in
set_option maxHeartbeats 4000000 in
theorem b_X5_weighs_29 {g : Geo} {x : Cx} (C : Ok g x cX5_weighs RX5 5 (some .int) rm_X5_weighs) : ∀ (n : Nat) (x1 : Int32) (x2 : Int32) (x3 : Int32) (σ : St) (r : Int32) (σ' : St), f_X5_weighs_29 n x1 x2 x3 σ = some (r, σ') → V g x (qm g x (some (.int r)) σ') 5 σ [(0, .ref (g.1 0)), (1, .int x1), (2, .int x2), (3, .int x3)] [] 29 := by
  intro n
  induction n with
  | zero =>
    intro x1 x2 x3 σ r σ' h
    rw [f_X5_weighs_29] at h
    cases h
  | succ n ih =>
    intro x1 x2 x3 σ r σ' h
    rw [f_X5_weighs_29] at h
    refine v_iload_n C dX5_weighs_29 rfl 3 rfl ?_
    refine v_aload_n C dX5_weighs_30 rfl 0 rfl ?_
    refine v_getR C (p' := 1) fl_RX5_12 rfl rfl dX5_weighs_31 ?_
    refine v_getI C fl_RX5_66 rfl dX5_weighs_34 ?_
    refine v_icmp_ge C (tgt := 77) dX5_weighs_37 (by decide) (fun q6 => ?_) (fun q6 => ?_)
    · rw [if_pos q6] at h
      refine v_iload_n C dX5_weighs_77 rfl 2 rfl ?_
      cases h
      exact v_iret C dX5_weighs_78
    · rw [if_neg q6] at h
      refine v_aload_n C dX5_weighs_40 rfl 0 rfl ?_
      refine v_getR C (p' := 14) fl_RX5_39 rfl rfl dX5_weighs_41 ?_
      refine v_iload_n C dX5_weighs_44 rfl 1 rfl ?_
      obtain ⟨np1, p1, ep1, hp1, h⟩ := rdR_ex h
      refine x_aald C np1 ep1 dX5_weighs_45 ?_
      refine v_iload_n C dX5_weighs_46 rfl 3 rfl ?_
      obtain ⟨v2, σ3, cσ3, h⟩ := bd_some h
      refine callVi C (c_X2_kindAt hp1 cσ3) km_X2_kindAt kv_X2_kindAt hp1 ml_RX5_177 rfl rfl (by decide) (Nat.le_of_ble_eq_true rfl) dX5_weighs_47 ?_
      refine v_istore C (lv' := [(4, .int _), (0, .ref _), (1, .int _), (2, .int _), (3, .int _)]) dX5_weighs_50 (by decide) rfl ?_
      refine v_iload C dX5_weighs_52 0 rfl ?_
      refine v_if_lt C (tgt := 71) dX5_weighs_54 (by decide) (fun q5 => ?_) (fun q5 => ?_)
      · rw [if_pos q5] at h
        refine V.sub (lv' := [(0, .ref _), (1, .int _), (2, .int _), (3, .int _)]) [1, 2, 3, 4] rfl ?_
        exact b_X5_weighs_71 C _ ih _ _ _  _ _ _ h
      · rw [if_neg q5] at h
        refine v_iload_n C dX5_weighs_57 rfl 3 rfl ?_
        refine v_aload_n C dX5_weighs_58 rfl 1 rfl ?_
        refine v_getR C (p' := 15) fl_RX5_48 rfl rfl dX5_weighs_59 ?_
        refine v_iload_n C dX5_weighs_62 rfl 4 rfl ?_
        refine v_iconst C (v := (3 : Int32)) dX5_weighs_63 (by decide) ?_
        refine v_imul C dX5_weighs_64 ?_
        refine v_iload C dX5_weighs_65 0 rfl ?_
        refine v_iadd C dX5_weighs_67 ?_
        obtain ⟨nv4, v4, ev4, h⟩ := rdI_ex h
        refine x_iald C rfl nv4 ev4 dX5_weighs_68 ?_
        refine v_iadd C dX5_weighs_69 ?_
        refine v_istore_n C (lv' := [(2, .int _), (4, .int _), (0, .ref _), (1, .int _), (3, .int _)]) dX5_weighs_70 rfl (by decide) rfl ?_
        refine V.sub (lv' := [(0, .ref _), (1, .int _), (2, .int _), (3, .int _)]) [2, 3, 0, 4] rfl ?_
        exact b_X5_weighs_71 C _ ih _ _ _  _ _ _ h
def f_X5_weighs (a1 : Int32) (σ : St) : Option (Int32 × St) :=
  bd (f_X5_isSlot a1 σ) fun v1 σ2 =>
  if v1 = 0 then
    some ((-900001 : Int32), σ2)
  else
    rdR a1 fun p3 =>
    if (gi σ2 p3 0) = 0 then
      some ((-900003 : Int32), σ2)
    else
      f_X5_weighs_29 FU a1 (0 : Int32) (0 : Int32) σ2
set_option maxRecDepth 100000 in
set_option maxHeartbeats 4000000 in
theorem c_X5_weighs {g : Geo} {a1 : Int32} {σ : St} {r : Int32} {σ' : St} (h : f_X5_weighs a1 σ = some (r, σ')) : Ct g yX5_weighs cX5_weighs 5 (some .int) rm_X5_weighs [.ref (g.1 0), .int a1] σ (some (.int r)) σ' := by
  refine ct_of (own := RX5) (by decide) rfl (Nat.le_of_ble_eq_true rfl) (fun x C => ?_) ⟨rfl, rfl⟩
  show V g x _ 5 σ [(0, .ref (g.1 0)), (1, .int a1)] [] 0
  unfold f_X5_weighs at h
  refine v_iload_n C dX5_weighs_0 rfl 1 rfl ?_
  obtain ⟨v1, σ2, cσ2, h⟩ := bd_some h
  refine callSi C (c_X5_isSlot cσ2) km_X5_isSlot ks_X5_isSlot ml_RX5_151 rfl rfl (by decide) (Nat.le_of_ble_eq_true rfl) dX5_weighs_1 ?_
  refine v_if_ne C (tgt := 10) dX5_weighs_4 (by decide) (fun q5 => ?_) (fun q5 => ?_)
  · rw [if_neg q5] at h
    refine v_aload_n C dX5_weighs_10 rfl 0 rfl ?_
    refine v_getR C (p' := 14) fl_RX5_39 rfl rfl dX5_weighs_11 ?_
    refine v_iload_n C dX5_weighs_14 rfl 1 rfl ?_
    obtain ⟨np3, p3, ep3, hp3, h⟩ := rdR_ex h
    refine x_aald C np3 ep3 dX5_weighs_15 ?_
    refine v_getZ C fl_RX5_163 hp3 dX5_weighs_16 ?_
    refine v_if_ne C (tgt := 25) dX5_weighs_19 (by decide) (fun q4 => ?_) (fun q4 => ?_)
    · rw [if_neg q4] at h
      refine v_iconst C (v := (0 : Int32)) dX5_weighs_25 (by decide) ?_
      refine v_istore_n C (lv' := [(2, .int _), (0, .ref _), (1, .int _)]) dX5_weighs_26 rfl (by decide) rfl ?_
      refine v_iconst C (v := (0 : Int32)) dX5_weighs_27 (by decide) ?_
      refine v_istore_n C (lv' := [(3, .int _), (2, .int _), (0, .ref _), (1, .int _)]) dX5_weighs_28 rfl (by decide) rfl ?_
      refine V.sub (lv' := [(0, .ref _), (1, .int _), (2, .int _), (3, .int _)]) [2, 3, 1, 0] rfl ?_
      exact b_X5_weighs_29 C FU _ _ _  _ _ _ h
    · rw [if_pos q4] at h
      refine v_ldc C (v := (-900003 : Int32)) con_RX5_158 dX5_weighs_22 ?_
      cases h
      exact v_iret C dX5_weighs_24
  · rw [if_pos q5] at h
    refine v_ldc C (v := (-900001 : Int32)) con_RX5_95 dX5_weighs_7 ?_
    cases h
    exact v_iret C dX5_weighs_9
theorem dX5_point_0 : decode cX5_point 0 = .ok (.iload_n 1, 1) := by decide +kernel
theorem dX5_point_1 : decode cX5_point 1 = .ok (.invokestatic 151, 3) := by decide +kernel
theorem dX5_point_4 : decode cX5_point 4 = .ok (.ifCond .eq 15, 3) := by decide +kernel
theorem dX5_point_7 : decode cX5_point 7 = .ok (.aload_n 0, 1) := by decide +kernel
theorem dX5_point_8 : decode cX5_point 8 = .ok (.getfield 12, 3) := by decide +kernel
theorem dX5_point_11 : decode cX5_point 11 = .ok (.iload_n 2, 1) := by decide +kernel
theorem dX5_point_12 : decode cX5_point 12 = .ok (.iload_n 3, 1) := by decide +kernel
theorem dX5_point_13 : decode cX5_point 13 = .ok (.invokevirtual 184, 3) := by decide +kernel
theorem dX5_point_16 : decode cX5_point 16 = .ok (.ifCond .ne 6, 3) := by decide +kernel
theorem dX5_point_19 : decode cX5_point 19 = .ok (.ldc 95, 2) := by decide +kernel
theorem dX5_point_21 : decode cX5_point 21 = .ok (.ireturn, 1) := by decide +kernel
theorem dX5_point_22 : decode cX5_point 22 = .ok (.aload_n 0, 1) := by decide +kernel
theorem dX5_point_23 : decode cX5_point 23 = .ok (.getfield 39, 3) := by decide +kernel
theorem dX5_point_26 : decode cX5_point 26 = .ok (.iload_n 1, 1) := by decide +kernel
theorem dX5_point_27 : decode cX5_point 27 = .ok (.aaload, 1) := by decide +kernel
theorem dX5_point_28 : decode cX5_point 28 = .ok (.astore 4, 2) := by decide +kernel
theorem dX5_point_30 : decode cX5_point 30 = .ok (.aload 4, 2) := by decide +kernel
theorem dX5_point_32 : decode cX5_point 32 = .ok (.getfield 163, 3) := by decide +kernel
theorem dX5_point_35 : decode cX5_point 35 = .ok (.ifCond .ne 6, 3) := by decide +kernel
theorem dX5_point_38 : decode cX5_point 38 = .ok (.ldc 158, 2) := by decide +kernel
theorem dX5_point_40 : decode cX5_point 40 = .ok (.ireturn, 1) := by decide +kernel
theorem dX5_point_41 : decode cX5_point 41 = .ok (.aload_n 0, 1) := by decide +kernel
theorem dX5_point_42 : decode cX5_point 42 = .ok (.getfield 12, 3) := by decide +kernel
theorem dX5_point_45 : decode cX5_point 45 = .ok (.iload_n 2, 1) := by decide +kernel
theorem dX5_point_46 : decode cX5_point 46 = .ok (.iload_n 3, 1) := by decide +kernel
theorem dX5_point_47 : decode cX5_point 47 = .ok (.invokevirtual 188, 3) := by decide +kernel
theorem dX5_point_50 : decode cX5_point 50 = .ok (.lstore 5, 2) := by decide +kernel
theorem dX5_point_52 : decode cX5_point 52 = .ok (.aload_n 0, 1) := by decide +kernel
theorem dX5_point_53 : decode cX5_point 53 = .ok (.getfield 12, 3) := by decide +kernel
theorem dX5_point_56 : decode cX5_point 56 = .ok (.getfield 192, 3) := by decide +kernel
theorem dX5_point_59 : decode cX5_point 59 = .ok (.lload 5, 2) := by decide +kernel
theorem dX5_point_61 : decode cX5_point 61 = .ok (.land, 1) := by decide +kernel
theorem dX5_point_62 : decode cX5_point 62 = .ok (.lconst 0, 1) := by decide +kernel
theorem dX5_point_63 : decode cX5_point 63 = .ok (.lcmp, 1) := by decide +kernel
theorem dX5_point_64 : decode cX5_point 64 = .ok (.ifCond .ne 5, 3) := by decide +kernel
theorem dX5_point_67 : decode cX5_point 67 = .ok (.iconst 0, 1) := by decide +kernel
theorem dX5_point_68 : decode cX5_point 68 = .ok (.ireturn, 1) := by decide +kernel
theorem dX5_point_69 : decode cX5_point 69 = .ok (.aload 4, 2) := by decide +kernel
theorem dX5_point_71 : decode cX5_point 71 = .ok (.aload_n 0, 1) := by decide +kernel
theorem dX5_point_72 : decode cX5_point 72 = .ok (.getfield 12, 3) := by decide +kernel
theorem dX5_point_75 : decode cX5_point 75 = .ok (.invokevirtual 195, 3) := by decide +kernel
theorem dX5_point_78 : decode cX5_point 78 = .ok (.lload 5, 2) := by decide +kernel
theorem dX5_point_80 : decode cX5_point 80 = .ok (.land, 1) := by decide +kernel
theorem dX5_point_81 : decode cX5_point 81 = .ok (.lconst 0, 1) := by decide +kernel
theorem dX5_point_82 : decode cX5_point 82 = .ok (.lcmp, 1) := by decide +kernel
theorem dX5_point_83 : decode cX5_point 83 = .ok (.ifCond .eq 5, 3) := by decide +kernel
theorem dX5_point_86 : decode cX5_point 86 = .ok (.iconst 2, 1) := by decide +kernel
theorem dX5_point_87 : decode cX5_point 87 = .ok (.ireturn, 1) := by decide +kernel
theorem dX5_point_88 : decode cX5_point 88 = .ok (.aload 4, 2) := by decide +kernel
theorem dX5_point_90 : decode cX5_point 90 = .ok (.aload_n 0, 1) := by decide +kernel
theorem dX5_point_91 : decode cX5_point 91 = .ok (.getfield 12, 3) := by decide +kernel
theorem dX5_point_94 : decode cX5_point 94 = .ok (.invokevirtual 199, 3) := by decide +kernel
theorem dX5_point_97 : decode cX5_point 97 = .ok (.lload 5, 2) := by decide +kernel
theorem dX5_point_99 : decode cX5_point 99 = .ok (.land, 1) := by decide +kernel
theorem dX5_point_100 : decode cX5_point 100 = .ok (.lconst 0, 1) := by decide +kernel
theorem dX5_point_101 : decode cX5_point 101 = .ok (.lcmp, 1) := by decide +kernel
theorem dX5_point_102 : decode cX5_point 102 = .ok (.ifCond .eq 7, 3) := by decide +kernel
theorem dX5_point_105 : decode cX5_point 105 = .ok (.iconst 3, 1) := by decide +kernel
theorem dX5_point_106 : decode cX5_point 106 = .ok (.goto 4, 3) := by decide +kernel
theorem dX5_point_109 : decode cX5_point 109 = .ok (.iconst 1, 1) := by decide +kernel
theorem dX5_point_110 : decode cX5_point 110 = .ok (.ireturn, 1) := by decide +kernel
def f_X5_point_110 (s0 : Int32) (σ : St) : Option (Int32 × St) :=
  some (s0, σ)
set_option maxRecDepth 100000 in
set_option maxHeartbeats 4000000 in
theorem b_X5_point_110 {g : Geo} {x : Cx} (C : Ok g x cX5_point RX5 7 (some .int) rm_X5_point) : ∀ (s0 : Int32) (σ : St) (r : Int32) (σ' : St), f_X5_point_110 s0 σ = some (r, σ') → V g x (qm g x (some (.int r)) σ') 7 σ [] [.int s0] 110 := by
  intro s0 σ r σ' h
  unfold f_X5_point_110 at h
  cases h
  exact v_iret C dX5_point_110
def f_X5_point_19 (σ : St) : Option (Int32 × St) :=
  some ((-900001 : Int32), σ)
set_option maxRecDepth 100000 in
set_option maxHeartbeats 4000000 in
theorem b_X5_point_19 {g : Geo} {x : Cx} (C : Ok g x cX5_point RX5 7 (some .int) rm_X5_point) : ∀ (σ : St) (r : Int32) (σ' : St), f_X5_point_19 σ = some (r, σ') → V g x (qm g x (some (.int r)) σ') 7 σ [] [] 19 := by
  intro σ r σ' h
  unfold f_X5_point_19 at h
  refine v_ldc C (v := (-900001 : Int32)) con_RX5_95 dX5_point_19 ?_
  cases h
  exact v_iret C dX5_point_21
def f_X5_point (a1 : Int32) (a2 : Int32) (a3 : Int32) (σ : St) : Option (Int32 × St) :=
  bd (f_X5_isSlot a1 σ) fun v1 σ2 =>
  if v1 = 0 then
    f_X5_point_19 σ2
  else
    bd (f_X1_hasPoint a2 a3 σ2) fun v3 σ4 =>
    if v3 = 0 then
      f_X5_point_19 σ4
    else
      rdR a1 fun p5 =>
      if (gi σ4 p5 0) = 0 then
        some ((-900003 : Int32), σ4)
      else
        bd (f_X1_pointBit a2 a3 σ4) fun v6 σ7 =>
        if ((gl σ7 1 6) &&& v6) = (0 : Int64) then
          some ((0 : Int32), σ7)
        else
          bd (f_X2_lows p5 σ7) fun v8 σ9 =>
          if (v8 &&& v6) = (0 : Int64) then
            bd (f_X2_highs p5 σ9) fun v10 σ11 =>
            if (v10 &&& v6) = (0 : Int64) then
              f_X5_point_110 (1 : Int32) σ11
            else
              f_X5_point_110 (3 : Int32) σ11
          else
            some ((2 : Int32), σ9)
set_option maxRecDepth 100000 in
set_option maxHeartbeats 4000000 in
theorem c_X5_point {g : Geo} {a1 : Int32} {a2 : Int32} {a3 : Int32} {σ : St} {r : Int32} {σ' : St} (h : f_X5_point a1 a2 a3 σ = some (r, σ')) : Ct g yX5_point cX5_point 7 (some .int) rm_X5_point [.ref (g.1 0), .int a1, .int a2, .int a3] σ (some (.int r)) σ' := by
  refine ct_of (own := RX5) (by decide) rfl (Nat.le_of_ble_eq_true rfl) (fun x C => ?_) ⟨rfl, rfl⟩
  show V g x _ 7 σ [(0, .ref (g.1 0)), (1, .int a1), (2, .int a2), (3, .int a3)] [] 0
  unfold f_X5_point at h
  refine v_iload_n C dX5_point_0 rfl 1 rfl ?_
  obtain ⟨v1, σ2, cσ2, h⟩ := bd_some h
  refine callSi C (c_X5_isSlot cσ2) km_X5_isSlot ks_X5_isSlot ml_RX5_151 rfl rfl (by decide) (Nat.le_of_ble_eq_true rfl) dX5_point_1 ?_
  refine v_if_eq C (tgt := 19) dX5_point_4 (by decide) (fun q17 => ?_) (fun q17 => ?_)
  · rw [if_pos q17] at h
    refine V.sub (lv' := []) [] rfl ?_
    exact b_X5_point_19 C  _ _ _ h
  · rw [if_neg q17] at h
    refine v_aload_n C dX5_point_7 rfl 0 rfl ?_
    refine v_getR C (p' := 1) fl_RX5_12 rfl rfl dX5_point_8 ?_
    refine v_iload_n C dX5_point_11 rfl 2 rfl ?_
    refine v_iload_n C dX5_point_12 rfl 3 rfl ?_
    obtain ⟨v3, σ4, cσ4, h⟩ := bd_some h
    refine callVi C (c_X1_hasPoint cσ4) km_X1_hasPoint kv_X1_hasPoint rfl ml_RX5_184 rfl rfl (by decide) (Nat.le_of_ble_eq_true rfl) dX5_point_13 ?_
    refine v_if_ne C (tgt := 22) dX5_point_16 (by decide) (fun q16 => ?_) (fun q16 => ?_)
    · rw [if_neg q16] at h
      refine v_aload_n C dX5_point_22 rfl 0 rfl ?_
      refine v_getR C (p' := 14) fl_RX5_39 rfl rfl dX5_point_23 ?_
      refine v_iload_n C dX5_point_26 rfl 1 rfl ?_
      obtain ⟨np5, p5, ep5, hp5, h⟩ := rdR_ex h
      refine x_aald C np5 ep5 dX5_point_27 ?_
      refine v_astore C (lv' := [(4, .ref _), (0, .ref _), (1, .int _), (2, .int _), (3, .int _)]) dX5_point_28 (by decide) rfl ?_
      refine v_aload C dX5_point_30 0 rfl ?_
      refine v_getZ C fl_RX5_163 hp5 dX5_point_32 ?_
      refine v_if_ne C (tgt := 41) dX5_point_35 (by decide) (fun q15 => ?_) (fun q15 => ?_)
      · rw [if_neg q15] at h
        refine v_aload_n C dX5_point_41 rfl 1 rfl ?_
        refine v_getR C (p' := 1) fl_RX5_12 rfl rfl dX5_point_42 ?_
        refine v_iload_n C dX5_point_45 rfl 3 rfl ?_
        refine v_iload_n C dX5_point_46 rfl 4 rfl ?_
        obtain ⟨v6, σ7, cσ7, h⟩ := bd_some h
        refine callVl C (c_X1_pointBit cσ7) km_X1_pointBit kv_X1_pointBit rfl ml_RX5_188 rfl rfl (by decide) (Nat.le_of_ble_eq_true rfl) dX5_point_47 ?_
        refine v_lstore C (lv' := [(5, .long _), (4, .ref _), (0, .ref _), (1, .int _), (2, .int _), (3, .int _)]) dX5_point_50 (by decide) rfl ?_
        refine v_aload_n C dX5_point_52 rfl 2 rfl ?_
        refine v_getR C (p' := 1) fl_RX5_12 rfl rfl dX5_point_53 ?_
        refine v_getL C fl_RX5_192 rfl dX5_point_56 ?_
        refine v_lload C dX5_point_59 0 rfl ?_
        refine v_land C dX5_point_61 ?_
        refine v_lconst C (v := (0 : Int64)) dX5_point_62 (by decide) ?_
        refine v_lcmp_ne C (tgt := 69) dX5_point_63 dX5_point_64 (by decide) (fun q14 => ?_) (fun q14 => ?_)
        · rw [if_neg q14] at h
          refine v_aload C dX5_point_69 1 rfl ?_
          refine v_aload_n C dX5_point_71 rfl 2 rfl ?_
          refine v_getR C (p' := 1) fl_RX5_12 rfl rfl dX5_point_72 ?_
          obtain ⟨v8, σ9, cσ9, h⟩ := bd_some h
          refine callVl C (c_X2_lows hp5 cσ9) km_X2_lows kv_X2_lows hp5 ml_RX5_195 rfl rfl (by decide) (Nat.le_of_ble_eq_true rfl) dX5_point_75 ?_
          refine v_lload C dX5_point_78 0 rfl ?_
          refine v_land C dX5_point_80 ?_
          refine v_lconst C (v := (0 : Int64)) dX5_point_81 (by decide) ?_
          refine v_lcmp_eq C (tgt := 88) dX5_point_82 dX5_point_83 (by decide) (fun q13 => ?_) (fun q13 => ?_)
          · rw [if_pos q13] at h
            refine v_aload C dX5_point_88 1 rfl ?_
            refine v_aload_n C dX5_point_90 rfl 2 rfl ?_
            refine v_getR C (p' := 1) fl_RX5_12 rfl rfl dX5_point_91 ?_
            obtain ⟨v10, σ11, cσ11, h⟩ := bd_some h
            refine callVl C (c_X2_highs hp5 cσ11) km_X2_highs kv_X2_highs hp5 ml_RX5_199 rfl rfl (by decide) (Nat.le_of_ble_eq_true rfl) dX5_point_94 ?_
            refine v_lload C dX5_point_97 0 rfl ?_
            refine v_land C dX5_point_99 ?_
            refine v_lconst C (v := (0 : Int64)) dX5_point_100 (by decide) ?_
            refine v_lcmp_eq C (tgt := 109) dX5_point_101 dX5_point_102 (by decide) (fun q12 => ?_) (fun q12 => ?_)
            · rw [if_pos q12] at h
              refine v_iconst C (v := (1 : Int32)) dX5_point_109 (by decide) ?_
              refine V.sub (lv' := []) [] rfl ?_
              exact b_X5_point_110 C _  _ _ _ h
            · rw [if_neg q12] at h
              refine v_iconst C (v := (3 : Int32)) dX5_point_105 (by decide) ?_
              refine v_goto C (tgt := 110) dX5_point_106 (by decide) ?_
              refine V.sub (lv' := []) [] rfl ?_
              exact b_X5_point_110 C _  _ _ _ h
          · rw [if_neg q13] at h
            refine v_iconst C (v := (2 : Int32)) dX5_point_86 (by decide) ?_
            cases h
            exact v_iret C dX5_point_87
        · rw [if_pos q14] at h
          refine v_iconst C (v := (0 : Int32)) dX5_point_67 (by decide) ?_
          cases h
          exact v_iret C dX5_point_68
      · rw [if_pos q15] at h
        refine v_ldc C (v := (-900003 : Int32)) con_RX5_158 dX5_point_38 ?_
        cases h
        exact v_iret C dX5_point_40
    · rw [if_pos q16] at h
      refine V.sub (lv' := []) [] rfl ?_
      exact b_X5_point_19 C  _ _ _ h
theorem dX5_free_0 : decode cX5_free 0 = .ok (.iload_n 1, 1) := by decide +kernel
theorem dX5_free_1 : decode cX5_free 1 = .ok (.invokestatic 151, 3) := by decide +kernel
theorem dX5_free_4 : decode cX5_free 4 = .ok (.ifCond .ne 6, 3) := by decide +kernel
theorem dX5_free_7 : decode cX5_free 7 = .ok (.ldc 95, 2) := by decide +kernel
theorem dX5_free_9 : decode cX5_free 9 = .ok (.ireturn, 1) := by decide +kernel
theorem dX5_free_10 : decode cX5_free 10 = .ok (.aload_n 0, 1) := by decide +kernel
theorem dX5_free_11 : decode cX5_free 11 = .ok (.getfield 39, 3) := by decide +kernel
theorem dX5_free_14 : decode cX5_free 14 = .ok (.iload_n 1, 1) := by decide +kernel
theorem dX5_free_15 : decode cX5_free 15 = .ok (.aaload, 1) := by decide +kernel
theorem dX5_free_16 : decode cX5_free 16 = .ok (.getfield 163, 3) := by decide +kernel
theorem dX5_free_19 : decode cX5_free 19 = .ok (.ifCond .ne 6, 3) := by decide +kernel
theorem dX5_free_22 : decode cX5_free 22 = .ok (.ldc 158, 2) := by decide +kernel
theorem dX5_free_24 : decode cX5_free 24 = .ok (.ireturn, 1) := by decide +kernel
theorem dX5_free_25 : decode cX5_free 25 = .ok (.iload_n 2, 1) := by decide +kernel
theorem dX5_free_26 : decode cX5_free 26 = .ok (.ifCond .eq 19, 3) := by decide +kernel
theorem dX5_free_29 : decode cX5_free 29 = .ok (.aload_n 0, 1) := by decide +kernel
theorem dX5_free_30 : decode cX5_free 30 = .ok (.getfield 39, 3) := by decide +kernel
theorem dX5_free_33 : decode cX5_free 33 = .ok (.iload_n 1, 1) := by decide +kernel
theorem dX5_free_34 : decode cX5_free 34 = .ok (.aaload, 1) := by decide +kernel
theorem dX5_free_35 : decode cX5_free 35 = .ok (.aload_n 0, 1) := by decide +kernel
theorem dX5_free_36 : decode cX5_free 36 = .ok (.getfield 12, 3) := by decide +kernel
theorem dX5_free_39 : decode cX5_free 39 = .ok (.invokevirtual 199, 3) := by decide +kernel
theorem dX5_free_42 : decode cX5_free 42 = .ok (.goto 16, 3) := by decide +kernel
theorem dX5_free_45 : decode cX5_free 45 = .ok (.aload_n 0, 1) := by decide +kernel
theorem dX5_free_46 : decode cX5_free 46 = .ok (.getfield 39, 3) := by decide +kernel
theorem dX5_free_49 : decode cX5_free 49 = .ok (.iload_n 1, 1) := by decide +kernel
theorem dX5_free_50 : decode cX5_free 50 = .ok (.aaload, 1) := by decide +kernel
theorem dX5_free_51 : decode cX5_free 51 = .ok (.aload_n 0, 1) := by decide +kernel
theorem dX5_free_52 : decode cX5_free 52 = .ok (.getfield 12, 3) := by decide +kernel
theorem dX5_free_55 : decode cX5_free 55 = .ok (.invokevirtual 195, 3) := by decide +kernel
theorem dX5_free_58 : decode cX5_free 58 = .ok (.invokestatic 82, 3) := by decide +kernel
theorem dX5_free_61 : decode cX5_free 61 = .ok (.ireturn, 1) := by decide +kernel
def f_X5_free_58 (s0 : Int64) (σ : St) : Option (Int32 × St) :=
  bd (f_J13_bitCount_95d88 s0 σ) fun v1 σ2 =>
  some (v1, σ2)
set_option maxRecDepth 100000 in
set_option maxHeartbeats 4000000 in
theorem b_X5_free_58 {g : Geo} {x : Cx} (C : Ok g x cX5_free RX5 3 (some .int) rm_X5_free) : ∀ (s0 : Int64) (σ : St) (r : Int32) (σ' : St), f_X5_free_58 s0 σ = some (r, σ') → V g x (qm g x (some (.int r)) σ') 3 σ [] [.long s0] 58 := by
  intro s0 σ r σ' h
  unfold f_X5_free_58 at h
  obtain ⟨v1, σ2, cσ2, h⟩ := bd_some h
  refine callSi C (c_J13_bitCount_95d88 cσ2) km_J13_bitCount_95d88 ks_J13_bitCount_95d88 ml_RX5_82 rfl rfl (by decide) (Nat.le_of_ble_eq_true rfl) dX5_free_58 ?_
  cases h
  exact v_iret C dX5_free_61
def f_X5_free (a1 : Int32) (a2 : Int32) (σ : St) : Option (Int32 × St) :=
  bd (f_X5_isSlot a1 σ) fun v1 σ2 =>
  if v1 = 0 then
    some ((-900001 : Int32), σ2)
  else
    rdR a1 fun p3 =>
    if (gi σ2 p3 0) = 0 then
      some ((-900003 : Int32), σ2)
    else
      if a2 = 0 then
        rdR a1 fun p4 =>
        bd (f_X2_lows p4 σ2) fun v5 σ6 =>
        f_X5_free_58 v5 σ6
      else
        rdR a1 fun p7 =>
        bd (f_X2_highs p7 σ2) fun v8 σ9 =>
        f_X5_free_58 v8 σ9
set_option maxRecDepth 100000 in
set_option maxHeartbeats 4000000 in
theorem c_X5_free {g : Geo} {a1 : Int32} {a2 : Int32} {σ : St} {r : Int32} {σ' : St} (h : f_X5_free a1 a2 σ = some (r, σ')) : Ct g yX5_free cX5_free 3 (some .int) rm_X5_free [.ref (g.1 0), .int a1, .int a2] σ (some (.int r)) σ' := by
  refine ct_of (own := RX5) (by decide) rfl (Nat.le_of_ble_eq_true rfl) (fun x C => ?_) ⟨rfl, rfl⟩
  show V g x _ 3 σ [(0, .ref (g.1 0)), (1, .int a1), (2, .int a2)] [] 0
  unfold f_X5_free at h
  refine v_iload_n C dX5_free_0 rfl 1 rfl ?_
  obtain ⟨v1, σ2, cσ2, h⟩ := bd_some h
  refine callSi C (c_X5_isSlot cσ2) km_X5_isSlot ks_X5_isSlot ml_RX5_151 rfl rfl (by decide) (Nat.le_of_ble_eq_true rfl) dX5_free_1 ?_
  refine v_if_ne C (tgt := 10) dX5_free_4 (by decide) (fun q12 => ?_) (fun q12 => ?_)
  · rw [if_neg q12] at h
    refine v_aload_n C dX5_free_10 rfl 0 rfl ?_
    refine v_getR C (p' := 14) fl_RX5_39 rfl rfl dX5_free_11 ?_
    refine v_iload_n C dX5_free_14 rfl 1 rfl ?_
    obtain ⟨np3, p3, ep3, hp3, h⟩ := rdR_ex h
    refine x_aald C np3 ep3 dX5_free_15 ?_
    refine v_getZ C fl_RX5_163 hp3 dX5_free_16 ?_
    refine v_if_ne C (tgt := 25) dX5_free_19 (by decide) (fun q11 => ?_) (fun q11 => ?_)
    · rw [if_neg q11] at h
      refine v_iload_n C dX5_free_25 rfl 2 rfl ?_
      refine v_if_eq C (tgt := 45) dX5_free_26 (by decide) (fun q10 => ?_) (fun q10 => ?_)
      · rw [if_pos q10] at h
        refine v_aload_n C dX5_free_45 rfl 0 rfl ?_
        refine v_getR C (p' := 14) fl_RX5_39 rfl rfl dX5_free_46 ?_
        refine v_iload_n C dX5_free_49 rfl 1 rfl ?_
        obtain ⟨np4, p4, ep4, hp4, h⟩ := rdR_ex h
        refine x_aald C np4 ep4 dX5_free_50 ?_
        refine v_aload_n C dX5_free_51 rfl 0 rfl ?_
        refine v_getR C (p' := 1) fl_RX5_12 rfl rfl dX5_free_52 ?_
        obtain ⟨v5, σ6, cσ6, h⟩ := bd_some h
        refine callVl C (c_X2_lows hp4 cσ6) km_X2_lows kv_X2_lows hp4 ml_RX5_195 rfl rfl (by decide) (Nat.le_of_ble_eq_true rfl) dX5_free_55 ?_
        refine V.sub (lv' := []) [] rfl ?_
        exact b_X5_free_58 C _  _ _ _ h
      · rw [if_neg q10] at h
        refine v_aload_n C dX5_free_29 rfl 0 rfl ?_
        refine v_getR C (p' := 14) fl_RX5_39 rfl rfl dX5_free_30 ?_
        refine v_iload_n C dX5_free_33 rfl 1 rfl ?_
        obtain ⟨np7, p7, ep7, hp7, h⟩ := rdR_ex h
        refine x_aald C np7 ep7 dX5_free_34 ?_
        refine v_aload_n C dX5_free_35 rfl 0 rfl ?_
        refine v_getR C (p' := 1) fl_RX5_12 rfl rfl dX5_free_36 ?_
        obtain ⟨v8, σ9, cσ9, h⟩ := bd_some h
        refine callVl C (c_X2_highs hp7 cσ9) km_X2_highs kv_X2_highs hp7 ml_RX5_199 rfl rfl (by decide) (Nat.le_of_ble_eq_true rfl) dX5_free_39 ?_
        refine v_goto C (tgt := 58) dX5_free_42 (by decide) ?_
        refine V.sub (lv' := []) [] rfl ?_
        exact b_X5_free_58 C _  _ _ _ h
    · rw [if_pos q11] at h
      refine v_ldc C (v := (-900003 : Int32)) con_RX5_158 dX5_free_22 ?_
      cases h
      exact v_iret C dX5_free_24
  · rw [if_pos q12] at h
    refine v_ldc C (v := (-900001 : Int32)) con_RX5_95 dX5_free_7 ?_
    cases h
    exact v_iret C dX5_free_9
theorem dX5_turn_0 : decode cX5_turn 0 = .ok (.iload_n 1, 1) := by decide +kernel
theorem dX5_turn_1 : decode cX5_turn 1 = .ok (.invokestatic 151, 3) := by decide +kernel
theorem dX5_turn_4 : decode cX5_turn 4 = .ok (.ifCond .eq 15, 3) := by decide +kernel
theorem dX5_turn_7 : decode cX5_turn 7 = .ok (.aload_n 0, 1) := by decide +kernel
theorem dX5_turn_8 : decode cX5_turn 8 = .ok (.getfield 12, 3) := by decide +kernel
theorem dX5_turn_11 : decode cX5_turn 11 = .ok (.iload_n 2, 1) := by decide +kernel
theorem dX5_turn_12 : decode cX5_turn 12 = .ok (.iload_n 3, 1) := by decide +kernel
theorem dX5_turn_13 : decode cX5_turn 13 = .ok (.invokevirtual 184, 3) := by decide +kernel
theorem dX5_turn_16 : decode cX5_turn 16 = .ok (.ifCond .ne 6, 3) := by decide +kernel
theorem dX5_turn_19 : decode cX5_turn 19 = .ok (.ldc 95, 2) := by decide +kernel
theorem dX5_turn_21 : decode cX5_turn 21 = .ok (.ireturn, 1) := by decide +kernel
theorem dX5_turn_22 : decode cX5_turn 22 = .ok (.aload_n 0, 1) := by decide +kernel
theorem dX5_turn_23 : decode cX5_turn 23 = .ok (.getfield 39, 3) := by decide +kernel
theorem dX5_turn_26 : decode cX5_turn 26 = .ok (.iload_n 1, 1) := by decide +kernel
theorem dX5_turn_27 : decode cX5_turn 27 = .ok (.aaload, 1) := by decide +kernel
theorem dX5_turn_28 : decode cX5_turn 28 = .ok (.astore 4, 2) := by decide +kernel
theorem dX5_turn_30 : decode cX5_turn 30 = .ok (.aload_n 0, 1) := by decide +kernel
theorem dX5_turn_31 : decode cX5_turn 31 = .ok (.getfield 12, 3) := by decide +kernel
theorem dX5_turn_34 : decode cX5_turn 34 = .ok (.iload_n 2, 1) := by decide +kernel
theorem dX5_turn_35 : decode cX5_turn 35 = .ok (.iload_n 3, 1) := by decide +kernel
theorem dX5_turn_36 : decode cX5_turn 36 = .ok (.invokevirtual 188, 3) := by decide +kernel
theorem dX5_turn_39 : decode cX5_turn 39 = .ok (.lstore 5, 2) := by decide +kernel
theorem dX5_turn_41 : decode cX5_turn 41 = .ok (.aload 4, 2) := by decide +kernel
theorem dX5_turn_43 : decode cX5_turn 43 = .ok (.getfield 163, 3) := by decide +kernel
theorem dX5_turn_46 : decode cX5_turn 46 = .ok (.ifCond .eq 30, 3) := by decide +kernel
theorem dX5_turn_49 : decode cX5_turn 49 = .ok (.aload 4, 2) := by decide +kernel
theorem dX5_turn_51 : decode cX5_turn 51 = .ok (.aload_n 0, 1) := by decide +kernel
theorem dX5_turn_52 : decode cX5_turn 52 = .ok (.getfield 12, 3) := by decide +kernel
theorem dX5_turn_55 : decode cX5_turn 55 = .ok (.invokevirtual 195, 3) := by decide +kernel
theorem dX5_turn_58 : decode cX5_turn 58 = .ok (.aload 4, 2) := by decide +kernel
theorem dX5_turn_60 : decode cX5_turn 60 = .ok (.aload_n 0, 1) := by decide +kernel
theorem dX5_turn_61 : decode cX5_turn 61 = .ok (.getfield 12, 3) := by decide +kernel
theorem dX5_turn_64 : decode cX5_turn 64 = .ok (.invokevirtual 199, 3) := by decide +kernel
theorem dX5_turn_67 : decode cX5_turn 67 = .ok (.lor, 1) := by decide +kernel
theorem dX5_turn_68 : decode cX5_turn 68 = .ok (.lload 5, 2) := by decide +kernel
theorem dX5_turn_70 : decode cX5_turn 70 = .ok (.land, 1) := by decide +kernel
theorem dX5_turn_71 : decode cX5_turn 71 = .ok (.lconst 0, 1) := by decide +kernel
theorem dX5_turn_72 : decode cX5_turn 72 = .ok (.lcmp, 1) := by decide +kernel
theorem dX5_turn_73 : decode cX5_turn 73 = .ok (.ifCond .ne 6, 3) := by decide +kernel
theorem dX5_turn_76 : decode cX5_turn 76 = .ok (.ldc 158, 2) := by decide +kernel
theorem dX5_turn_78 : decode cX5_turn 78 = .ok (.ireturn, 1) := by decide +kernel
theorem dX5_turn_79 : decode cX5_turn 79 = .ok (.aload 4, 2) := by decide +kernel
theorem dX5_turn_81 : decode cX5_turn 81 = .ok (.aload_n 0, 1) := by decide +kernel
theorem dX5_turn_82 : decode cX5_turn 82 = .ok (.getfield 12, 3) := by decide +kernel
theorem dX5_turn_85 : decode cX5_turn 85 = .ok (.invokevirtual 195, 3) := by decide +kernel
theorem dX5_turn_88 : decode cX5_turn 88 = .ok (.lload 5, 2) := by decide +kernel
theorem dX5_turn_90 : decode cX5_turn 90 = .ok (.land, 1) := by decide +kernel
theorem dX5_turn_91 : decode cX5_turn 91 = .ok (.lconst 0, 1) := by decide +kernel
theorem dX5_turn_92 : decode cX5_turn 92 = .ok (.lcmp, 1) := by decide +kernel
theorem dX5_turn_93 : decode cX5_turn 93 = .ok (.ifCond .eq 7, 3) := by decide +kernel
theorem dX5_turn_96 : decode cX5_turn 96 = .ok (.iconst 1, 1) := by decide +kernel
theorem dX5_turn_97 : decode cX5_turn 97 = .ok (.goto 4, 3) := by decide +kernel
theorem dX5_turn_100 : decode cX5_turn 100 = .ok (.iconst 0, 1) := by decide +kernel
theorem dX5_turn_101 : decode cX5_turn 101 = .ok (.istore 7, 2) := by decide +kernel
theorem dX5_turn_103 : decode cX5_turn 103 = .ok (.aload 4, 2) := by decide +kernel
theorem dX5_turn_105 : decode cX5_turn 105 = .ok (.lload 5, 2) := by decide +kernel
theorem dX5_turn_107 : decode cX5_turn 107 = .ok (.aload_n 0, 1) := by decide +kernel
theorem dX5_turn_108 : decode cX5_turn 108 = .ok (.getfield 12, 3) := by decide +kernel
theorem dX5_turn_111 : decode cX5_turn 111 = .ok (.getfield 103, 3) := by decide +kernel
theorem dX5_turn_114 : decode cX5_turn 114 = .ok (.invokevirtual 202, 3) := by decide +kernel
theorem dX5_turn_117 : decode cX5_turn 117 = .ok (.iload 7, 2) := by decide +kernel
theorem dX5_turn_119 : decode cX5_turn 119 = .ok (.ifCond .eq 7, 3) := by decide +kernel
theorem dX5_turn_122 : decode cX5_turn 122 = .ok (.iconst 1, 1) := by decide +kernel
theorem dX5_turn_123 : decode cX5_turn 123 = .ok (.goto 4, 3) := by decide +kernel
theorem dX5_turn_126 : decode cX5_turn 126 = .ok (.iconst 0, 1) := by decide +kernel
theorem dX5_turn_127 : decode cX5_turn 127 = .ok (.ireturn, 1) := by decide +kernel
def f_X5_turn_127 (s0 : Int32) (σ : St) : Option (Int32 × St) :=
  some (s0, σ)
set_option maxRecDepth 100000 in
set_option maxHeartbeats 4000000 in
theorem b_X5_turn_127 {g : Geo} {x : Cx} (C : Ok g x cX5_turn RX5 8 (some .int) rm_X5_turn) : ∀ (s0 : Int32) (σ : St) (r : Int32) (σ' : St), f_X5_turn_127 s0 σ = some (r, σ') → V g x (qm g x (some (.int r)) σ') 8 σ [] [.int s0] 127 := by
  intro s0 σ r σ' h
  unfold f_X5_turn_127 at h
  cases h
  exact v_iret C dX5_turn_127
def f_X5_turn_101 (r4 : Nat) (x5 : Int64) (s0 : Int32) (σ : St) : Option (Int32 × St) :=
  bd (f_X2_flip r4 x5 (gi σ 1 0) σ) fun _ σ2 =>
  if s0 = 0 then
    f_X5_turn_127 (0 : Int32) σ2
  else
    f_X5_turn_127 (1 : Int32) σ2
set_option maxRecDepth 100000 in
set_option maxHeartbeats 4000000 in
theorem b_X5_turn_101 {g : Geo} {x : Cx} (C : Ok g x cX5_turn RX5 8 (some .int) rm_X5_turn) : ∀ (r4 : Nat) (x5 : Int64) (s0 : Int32) (hr4 : kd r4 = 2) (σ : St) (r : Int32) (σ' : St), f_X5_turn_101 r4 x5 s0 σ = some (r, σ') → V g x (qm g x (some (.int r)) σ') 8 σ [(0, .ref (g.1 0)), (4, .ref (g.1 r4)), (5, .long x5)] [.int s0] 101 := by
  intro r4 x5 s0 hr4 σ r σ' h
  unfold f_X5_turn_101 at h
  refine v_istore C (lv' := [(7, .int _), (0, .ref _), (4, .ref _), (5, .long _)]) dX5_turn_101 (by decide) rfl ?_
  refine v_aload C dX5_turn_103 2 rfl ?_
  refine v_lload C dX5_turn_105 3 rfl ?_
  refine v_aload_n C dX5_turn_107 rfl 1 rfl ?_
  refine v_getR C (p' := 1) fl_RX5_12 rfl rfl dX5_turn_108 ?_
  refine v_getI C fl_RX5_103 rfl dX5_turn_111 ?_
  obtain ⟨v1, σ2, cσ2, h⟩ := bd_some h
  refine callVv C (c_X2_flip hr4 cσ2) km_X2_flip kv_X2_flip hr4 ml_RX5_202 rfl rfl (by decide) (Nat.le_of_ble_eq_true rfl) dX5_turn_114 ?_
  refine v_iload C dX5_turn_117 0 rfl ?_
  refine v_if_eq C (tgt := 126) dX5_turn_119 (by decide) (fun q3 => ?_) (fun q3 => ?_)
  · rw [if_pos q3] at h
    refine v_iconst C (v := (0 : Int32)) dX5_turn_126 (by decide) ?_
    refine V.sub (lv' := []) [] rfl ?_
    exact b_X5_turn_127 C _  _ _ _ h
  · rw [if_neg q3] at h
    refine v_iconst C (v := (1 : Int32)) dX5_turn_122 (by decide) ?_
    refine v_goto C (tgt := 127) dX5_turn_123 (by decide) ?_
    refine V.sub (lv' := []) [] rfl ?_
    exact b_X5_turn_127 C _  _ _ _ h
def f_X5_turn_76 (σ : St) : Option (Int32 × St) :=
  some ((-900003 : Int32), σ)
set_option maxRecDepth 100000 in
set_option maxHeartbeats 4000000 in
theorem b_X5_turn_76 {g : Geo} {x : Cx} (C : Ok g x cX5_turn RX5 8 (some .int) rm_X5_turn) : ∀ (σ : St) (r : Int32) (σ' : St), f_X5_turn_76 σ = some (r, σ') → V g x (qm g x (some (.int r)) σ') 8 σ [] [] 76 := by
  intro σ r σ' h
  unfold f_X5_turn_76 at h
  refine v_ldc C (v := (-900003 : Int32)) con_RX5_158 dX5_turn_76 ?_
  cases h
  exact v_iret C dX5_turn_78
def f_X5_turn_19 (σ : St) : Option (Int32 × St) :=
  some ((-900001 : Int32), σ)
set_option maxRecDepth 100000 in
set_option maxHeartbeats 4000000 in
theorem b_X5_turn_19 {g : Geo} {x : Cx} (C : Ok g x cX5_turn RX5 8 (some .int) rm_X5_turn) : ∀ (σ : St) (r : Int32) (σ' : St), f_X5_turn_19 σ = some (r, σ') → V g x (qm g x (some (.int r)) σ') 8 σ [] [] 19 := by
  intro σ r σ' h
  unfold f_X5_turn_19 at h
  refine v_ldc C (v := (-900001 : Int32)) con_RX5_95 dX5_turn_19 ?_
  cases h
  exact v_iret C dX5_turn_21
def f_X5_turn (a1 : Int32) (a2 : Int32) (a3 : Int32) (σ : St) : Option (Int32 × St) :=
  bd (f_X5_isSlot a1 σ) fun v1 σ2 =>
  if v1 = 0 then
    f_X5_turn_19 σ2
  else
    bd (f_X1_hasPoint a2 a3 σ2) fun v3 σ4 =>
    if v3 = 0 then
      f_X5_turn_19 σ4
    else
      rdR a1 fun p5 =>
      bd (f_X1_pointBit a2 a3 σ4) fun v6 σ7 =>
      if (gi σ7 p5 0) = 0 then
        f_X5_turn_76 σ7
      else
        bd (f_X2_lows p5 σ7) fun v8 σ9 =>
        bd (f_X2_highs p5 σ9) fun v10 σ11 =>
        if ((v8 ||| v10) &&& v6) = (0 : Int64) then
          f_X5_turn_76 σ11
        else
          bd (f_X2_lows p5 σ11) fun v12 σ13 =>
          if (v12 &&& v6) = (0 : Int64) then
            f_X5_turn_101 p5 v6 (0 : Int32) σ13
          else
            f_X5_turn_101 p5 v6 (1 : Int32) σ13
set_option maxRecDepth 100000 in
set_option maxHeartbeats 4000000 in
theorem c_X5_turn {g : Geo} {a1 : Int32} {a2 : Int32} {a3 : Int32} {σ : St} {r : Int32} {σ' : St} (h : f_X5_turn a1 a2 a3 σ = some (r, σ')) : Ct g yX5_turn cX5_turn 8 (some .int) rm_X5_turn [.ref (g.1 0), .int a1, .int a2, .int a3] σ (some (.int r)) σ' := by
  refine ct_of (own := RX5) (by decide) rfl (Nat.le_of_ble_eq_true rfl) (fun x C => ?_) ⟨rfl, rfl⟩
  show V g x _ 8 σ [(0, .ref (g.1 0)), (1, .int a1), (2, .int a2), (3, .int a3)] [] 0
  unfold f_X5_turn at h
  refine v_iload_n C dX5_turn_0 rfl 1 rfl ?_
  obtain ⟨v1, σ2, cσ2, h⟩ := bd_some h
  refine callSi C (c_X5_isSlot cσ2) km_X5_isSlot ks_X5_isSlot ml_RX5_151 rfl rfl (by decide) (Nat.le_of_ble_eq_true rfl) dX5_turn_1 ?_
  refine v_if_eq C (tgt := 19) dX5_turn_4 (by decide) (fun q18 => ?_) (fun q18 => ?_)
  · rw [if_pos q18] at h
    refine V.sub (lv' := []) [] rfl ?_
    exact b_X5_turn_19 C  _ _ _ h
  · rw [if_neg q18] at h
    refine v_aload_n C dX5_turn_7 rfl 0 rfl ?_
    refine v_getR C (p' := 1) fl_RX5_12 rfl rfl dX5_turn_8 ?_
    refine v_iload_n C dX5_turn_11 rfl 2 rfl ?_
    refine v_iload_n C dX5_turn_12 rfl 3 rfl ?_
    obtain ⟨v3, σ4, cσ4, h⟩ := bd_some h
    refine callVi C (c_X1_hasPoint cσ4) km_X1_hasPoint kv_X1_hasPoint rfl ml_RX5_184 rfl rfl (by decide) (Nat.le_of_ble_eq_true rfl) dX5_turn_13 ?_
    refine v_if_ne C (tgt := 22) dX5_turn_16 (by decide) (fun q17 => ?_) (fun q17 => ?_)
    · rw [if_neg q17] at h
      refine v_aload_n C dX5_turn_22 rfl 0 rfl ?_
      refine v_getR C (p' := 14) fl_RX5_39 rfl rfl dX5_turn_23 ?_
      refine v_iload_n C dX5_turn_26 rfl 1 rfl ?_
      obtain ⟨np5, p5, ep5, hp5, h⟩ := rdR_ex h
      refine x_aald C np5 ep5 dX5_turn_27 ?_
      refine v_astore C (lv' := [(4, .ref _), (0, .ref _), (1, .int _), (2, .int _), (3, .int _)]) dX5_turn_28 (by decide) rfl ?_
      refine v_aload_n C dX5_turn_30 rfl 1 rfl ?_
      refine v_getR C (p' := 1) fl_RX5_12 rfl rfl dX5_turn_31 ?_
      refine v_iload_n C dX5_turn_34 rfl 3 rfl ?_
      refine v_iload_n C dX5_turn_35 rfl 4 rfl ?_
      obtain ⟨v6, σ7, cσ7, h⟩ := bd_some h
      refine callVl C (c_X1_pointBit cσ7) km_X1_pointBit kv_X1_pointBit rfl ml_RX5_188 rfl rfl (by decide) (Nat.le_of_ble_eq_true rfl) dX5_turn_36 ?_
      refine v_lstore C (lv' := [(5, .long _), (4, .ref _), (0, .ref _), (1, .int _), (2, .int _), (3, .int _)]) dX5_turn_39 (by decide) rfl ?_
      refine v_aload C dX5_turn_41 1 rfl ?_
      refine v_getZ C fl_RX5_163 hp5 dX5_turn_43 ?_
      refine v_if_eq C (tgt := 76) dX5_turn_46 (by decide) (fun q16 => ?_) (fun q16 => ?_)
      · rw [if_pos q16] at h
        refine V.sub (lv' := []) [] rfl ?_
        exact b_X5_turn_76 C  _ _ _ h
      · rw [if_neg q16] at h
        refine v_aload C dX5_turn_49 1 rfl ?_
        refine v_aload_n C dX5_turn_51 rfl 2 rfl ?_
        refine v_getR C (p' := 1) fl_RX5_12 rfl rfl dX5_turn_52 ?_
        obtain ⟨v8, σ9, cσ9, h⟩ := bd_some h
        refine callVl C (c_X2_lows hp5 cσ9) km_X2_lows kv_X2_lows hp5 ml_RX5_195 rfl rfl (by decide) (Nat.le_of_ble_eq_true rfl) dX5_turn_55 ?_
        refine v_aload C dX5_turn_58 1 rfl ?_
        refine v_aload_n C dX5_turn_60 rfl 2 rfl ?_
        refine v_getR C (p' := 1) fl_RX5_12 rfl rfl dX5_turn_61 ?_
        obtain ⟨v10, σ11, cσ11, h⟩ := bd_some h
        refine callVl C (c_X2_highs hp5 cσ11) km_X2_highs kv_X2_highs hp5 ml_RX5_199 rfl rfl (by decide) (Nat.le_of_ble_eq_true rfl) dX5_turn_64 ?_
        refine v_lor C dX5_turn_67 ?_
        refine v_lload C dX5_turn_68 0 rfl ?_
        refine v_land C dX5_turn_70 ?_
        refine v_lconst C (v := (0 : Int64)) dX5_turn_71 (by decide) ?_
        refine v_lcmp_ne C (tgt := 79) dX5_turn_72 dX5_turn_73 (by decide) (fun q15 => ?_) (fun q15 => ?_)
        · rw [if_neg q15] at h
          refine v_aload C dX5_turn_79 1 rfl ?_
          refine v_aload_n C dX5_turn_81 rfl 2 rfl ?_
          refine v_getR C (p' := 1) fl_RX5_12 rfl rfl dX5_turn_82 ?_
          obtain ⟨v12, σ13, cσ13, h⟩ := bd_some h
          refine callVl C (c_X2_lows hp5 cσ13) km_X2_lows kv_X2_lows hp5 ml_RX5_195 rfl rfl (by decide) (Nat.le_of_ble_eq_true rfl) dX5_turn_85 ?_
          refine v_lload C dX5_turn_88 0 rfl ?_
          refine v_land C dX5_turn_90 ?_
          refine v_lconst C (v := (0 : Int64)) dX5_turn_91 (by decide) ?_
          refine v_lcmp_eq C (tgt := 100) dX5_turn_92 dX5_turn_93 (by decide) (fun q14 => ?_) (fun q14 => ?_)
          · rw [if_pos q14] at h
            refine v_iconst C (v := (0 : Int32)) dX5_turn_100 (by decide) ?_
            refine V.sub (lv' := [(0, .ref _), (4, .ref _), (5, .long _)]) [2, 1, 0] rfl ?_
            exact b_X5_turn_101 C _ _ _ hp5 _ _ _ h
          · rw [if_neg q14] at h
            refine v_iconst C (v := (1 : Int32)) dX5_turn_96 (by decide) ?_
            refine v_goto C (tgt := 101) dX5_turn_97 (by decide) ?_
            refine V.sub (lv' := [(0, .ref _), (4, .ref _), (5, .long _)]) [2, 1, 0] rfl ?_
            exact b_X5_turn_101 C _ _ _ hp5 _ _ _ h
        · rw [if_pos q15] at h
          refine V.sub (lv' := []) [] rfl ?_
          exact b_X5_turn_76 C  _ _ _ h
    · rw [if_pos q17] at h
      refine V.sub (lv' := []) [] rfl ?_
      exact b_X5_turn_19 C  _ _ _ h
theorem dX5_apart_0 : decode cX5_apart 0 = .ok (.iload_n 1, 1) := by decide +kernel
theorem dX5_apart_1 : decode cX5_apart 1 = .ok (.invokestatic 151, 3) := by decide +kernel
theorem dX5_apart_4 : decode cX5_apart 4 = .ok (.ifCond .eq 10, 3) := by decide +kernel
theorem dX5_apart_7 : decode cX5_apart 7 = .ok (.iload_n 2, 1) := by decide +kernel
theorem dX5_apart_8 : decode cX5_apart 8 = .ok (.invokestatic 151, 3) := by decide +kernel
theorem dX5_apart_11 : decode cX5_apart 11 = .ok (.ifCond .ne 6, 3) := by decide +kernel
theorem dX5_apart_14 : decode cX5_apart 14 = .ok (.ldc 95, 2) := by decide +kernel
theorem dX5_apart_16 : decode cX5_apart 16 = .ok (.ireturn, 1) := by decide +kernel
theorem dX5_apart_17 : decode cX5_apart 17 = .ok (.aload_n 0, 1) := by decide +kernel
theorem dX5_apart_18 : decode cX5_apart 18 = .ok (.getfield 39, 3) := by decide +kernel
theorem dX5_apart_21 : decode cX5_apart 21 = .ok (.iload_n 1, 1) := by decide +kernel
theorem dX5_apart_22 : decode cX5_apart 22 = .ok (.aaload, 1) := by decide +kernel
theorem dX5_apart_23 : decode cX5_apart 23 = .ok (.getfield 163, 3) := by decide +kernel
theorem dX5_apart_26 : decode cX5_apart 26 = .ok (.ifCond .eq 15, 3) := by decide +kernel
theorem dX5_apart_29 : decode cX5_apart 29 = .ok (.aload_n 0, 1) := by decide +kernel
theorem dX5_apart_30 : decode cX5_apart 30 = .ok (.getfield 39, 3) := by decide +kernel
theorem dX5_apart_33 : decode cX5_apart 33 = .ok (.iload_n 2, 1) := by decide +kernel
theorem dX5_apart_34 : decode cX5_apart 34 = .ok (.aaload, 1) := by decide +kernel
theorem dX5_apart_35 : decode cX5_apart 35 = .ok (.getfield 163, 3) := by decide +kernel
theorem dX5_apart_38 : decode cX5_apart 38 = .ok (.ifCond .ne 6, 3) := by decide +kernel
theorem dX5_apart_41 : decode cX5_apart 41 = .ok (.ldc 158, 2) := by decide +kernel
theorem dX5_apart_43 : decode cX5_apart 43 = .ok (.ireturn, 1) := by decide +kernel
theorem dX5_apart_44 : decode cX5_apart 44 = .ok (.aload_n 0, 1) := by decide +kernel
theorem dX5_apart_45 : decode cX5_apart 45 = .ok (.getfield 33, 3) := by decide +kernel
theorem dX5_apart_48 : decode cX5_apart 48 = .ok (.aload_n 0, 1) := by decide +kernel
theorem dX5_apart_49 : decode cX5_apart 49 = .ok (.getfield 12, 3) := by decide +kernel
theorem dX5_apart_52 : decode cX5_apart 52 = .ok (.aload_n 0, 1) := by decide +kernel
theorem dX5_apart_53 : decode cX5_apart 53 = .ok (.getfield 39, 3) := by decide +kernel
theorem dX5_apart_56 : decode cX5_apart 56 = .ok (.iload_n 1, 1) := by decide +kernel
theorem dX5_apart_57 : decode cX5_apart 57 = .ok (.aaload, 1) := by decide +kernel
theorem dX5_apart_58 : decode cX5_apart 58 = .ok (.aload_n 0, 1) := by decide +kernel
theorem dX5_apart_59 : decode cX5_apart 59 = .ok (.getfield 39, 3) := by decide +kernel
theorem dX5_apart_62 : decode cX5_apart 62 = .ok (.iload_n 2, 1) := by decide +kernel
theorem dX5_apart_63 : decode cX5_apart 63 = .ok (.aaload, 1) := by decide +kernel
theorem dX5_apart_64 : decode cX5_apart 64 = .ok (.invokevirtual 206, 3) := by decide +kernel
theorem dX5_apart_67 : decode cX5_apart 67 = .ok (.istore_n 3, 1) := by decide +kernel
theorem dX5_apart_68 : decode cX5_apart 68 = .ok (.iload_n 3, 1) := by decide +kernel
theorem dX5_apart_69 : decode cX5_apart 69 = .ok (.ifCond .ge 8, 3) := by decide +kernel
theorem dX5_apart_72 : decode cX5_apart 72 = .ok (.ldc 146, 2) := by decide +kernel
theorem dX5_apart_74 : decode cX5_apart 74 = .ok (.goto 4, 3) := by decide +kernel
theorem dX5_apart_77 : decode cX5_apart 77 = .ok (.iload_n 3, 1) := by decide +kernel
theorem dX5_apart_78 : decode cX5_apart 78 = .ok (.ireturn, 1) := by decide +kernel
def f_X5_apart_78 (s0 : Int32) (σ : St) : Option (Int32 × St) :=
  some (s0, σ)
set_option maxRecDepth 100000 in
set_option maxHeartbeats 4000000 in
theorem b_X5_apart_78 {g : Geo} {x : Cx} (C : Ok g x cX5_apart RX5 4 (some .int) rm_X5_apart) : ∀ (s0 : Int32) (σ : St) (r : Int32) (σ' : St), f_X5_apart_78 s0 σ = some (r, σ') → V g x (qm g x (some (.int r)) σ') 4 σ [] [.int s0] 78 := by
  intro s0 σ r σ' h
  unfold f_X5_apart_78 at h
  cases h
  exact v_iret C dX5_apart_78
def f_X5_apart_41 (σ : St) : Option (Int32 × St) :=
  some ((-900003 : Int32), σ)
set_option maxRecDepth 100000 in
set_option maxHeartbeats 4000000 in
theorem b_X5_apart_41 {g : Geo} {x : Cx} (C : Ok g x cX5_apart RX5 4 (some .int) rm_X5_apart) : ∀ (σ : St) (r : Int32) (σ' : St), f_X5_apart_41 σ = some (r, σ') → V g x (qm g x (some (.int r)) σ') 4 σ [] [] 41 := by
  intro σ r σ' h
  unfold f_X5_apart_41 at h
  refine v_ldc C (v := (-900003 : Int32)) con_RX5_158 dX5_apart_41 ?_
  cases h
  exact v_iret C dX5_apart_43
def f_X5_apart_14 (σ : St) : Option (Int32 × St) :=
  some ((-900001 : Int32), σ)
set_option maxRecDepth 100000 in
set_option maxHeartbeats 4000000 in
theorem b_X5_apart_14 {g : Geo} {x : Cx} (C : Ok g x cX5_apart RX5 4 (some .int) rm_X5_apart) : ∀ (σ : St) (r : Int32) (σ' : St), f_X5_apart_14 σ = some (r, σ') → V g x (qm g x (some (.int r)) σ') 4 σ [] [] 14 := by
  intro σ r σ' h
  unfold f_X5_apart_14 at h
  refine v_ldc C (v := (-900001 : Int32)) con_RX5_95 dX5_apart_14 ?_
  cases h
  exact v_iret C dX5_apart_16
def f_X5_apart (a1 : Int32) (a2 : Int32) (σ : St) : Option (Int32 × St) :=
  bd (f_X5_isSlot a1 σ) fun v1 σ2 =>
  if v1 = 0 then
    f_X5_apart_14 σ2
  else
    bd (f_X5_isSlot a2 σ2) fun v3 σ4 =>
    if v3 = 0 then
      f_X5_apart_14 σ4
    else
      rdR a1 fun p5 =>
      if (gi σ4 p5 0) = 0 then
        f_X5_apart_41 σ4
      else
        rdR a2 fun p6 =>
        if (gi σ4 p6 0) = 0 then
          f_X5_apart_41 σ4
        else
          rdR a1 fun p7 =>
          rdR a2 fun p8 =>
          bd (f_X4_between p7 p8 σ4) fun v9 σ10 =>
          if 0 ≤ v9 then
            f_X5_apart_78 v9 σ10
          else
            f_X5_apart_78 (-900009 : Int32) σ10
set_option maxRecDepth 100000 in
set_option maxHeartbeats 4000000 in
theorem c_X5_apart {g : Geo} {a1 : Int32} {a2 : Int32} {σ : St} {r : Int32} {σ' : St} (h : f_X5_apart a1 a2 σ = some (r, σ')) : Ct g yX5_apart cX5_apart 4 (some .int) rm_X5_apart [.ref (g.1 0), .int a1, .int a2] σ (some (.int r)) σ' := by
  refine ct_of (own := RX5) (by decide) rfl (Nat.le_of_ble_eq_true rfl) (fun x C => ?_) ⟨rfl, rfl⟩
  show V g x _ 4 σ [(0, .ref (g.1 0)), (1, .int a1), (2, .int a2)] [] 0
  unfold f_X5_apart at h
  refine v_iload_n C dX5_apart_0 rfl 1 rfl ?_
  obtain ⟨v1, σ2, cσ2, h⟩ := bd_some h
  refine callSi C (c_X5_isSlot cσ2) km_X5_isSlot ks_X5_isSlot ml_RX5_151 rfl rfl (by decide) (Nat.le_of_ble_eq_true rfl) dX5_apart_1 ?_
  refine v_if_eq C (tgt := 14) dX5_apart_4 (by decide) (fun q15 => ?_) (fun q15 => ?_)
  · rw [if_pos q15] at h
    refine V.sub (lv' := []) [] rfl ?_
    exact b_X5_apart_14 C  _ _ _ h
  · rw [if_neg q15] at h
    refine v_iload_n C dX5_apart_7 rfl 2 rfl ?_
    obtain ⟨v3, σ4, cσ4, h⟩ := bd_some h
    refine callSi C (c_X5_isSlot cσ4) km_X5_isSlot ks_X5_isSlot ml_RX5_151 rfl rfl (by decide) (Nat.le_of_ble_eq_true rfl) dX5_apart_8 ?_
    refine v_if_ne C (tgt := 17) dX5_apart_11 (by decide) (fun q14 => ?_) (fun q14 => ?_)
    · rw [if_neg q14] at h
      refine v_aload_n C dX5_apart_17 rfl 0 rfl ?_
      refine v_getR C (p' := 14) fl_RX5_39 rfl rfl dX5_apart_18 ?_
      refine v_iload_n C dX5_apart_21 rfl 1 rfl ?_
      obtain ⟨np5, p5, ep5, hp5, h⟩ := rdR_ex h
      refine x_aald C np5 ep5 dX5_apart_22 ?_
      refine v_getZ C fl_RX5_163 hp5 dX5_apart_23 ?_
      refine v_if_eq C (tgt := 41) dX5_apart_26 (by decide) (fun q13 => ?_) (fun q13 => ?_)
      · rw [if_pos q13] at h
        refine V.sub (lv' := []) [] rfl ?_
        exact b_X5_apart_41 C  _ _ _ h
      · rw [if_neg q13] at h
        refine v_aload_n C dX5_apart_29 rfl 0 rfl ?_
        refine v_getR C (p' := 14) fl_RX5_39 rfl rfl dX5_apart_30 ?_
        refine v_iload_n C dX5_apart_33 rfl 2 rfl ?_
        obtain ⟨np6, p6, ep6, hp6, h⟩ := rdR_ex h
        refine x_aald C np6 ep6 dX5_apart_34 ?_
        refine v_getZ C fl_RX5_163 hp6 dX5_apart_35 ?_
        refine v_if_ne C (tgt := 44) dX5_apart_38 (by decide) (fun q12 => ?_) (fun q12 => ?_)
        · rw [if_neg q12] at h
          refine v_aload_n C dX5_apart_44 rfl 0 rfl ?_
          refine v_getR C (p' := 4) fl_RX5_33 rfl rfl dX5_apart_45 ?_
          refine v_aload_n C dX5_apart_48 rfl 0 rfl ?_
          refine v_getR C (p' := 1) fl_RX5_12 rfl rfl dX5_apart_49 ?_
          refine v_aload_n C dX5_apart_52 rfl 0 rfl ?_
          refine v_getR C (p' := 14) fl_RX5_39 rfl rfl dX5_apart_53 ?_
          refine v_iload_n C dX5_apart_56 rfl 1 rfl ?_
          obtain ⟨np7, p7, ep7, hp7, h⟩ := rdR_ex h
          refine x_aald C np7 ep7 dX5_apart_57 ?_
          refine v_aload_n C dX5_apart_58 rfl 0 rfl ?_
          refine v_getR C (p' := 14) fl_RX5_39 rfl rfl dX5_apart_59 ?_
          refine v_iload_n C dX5_apart_62 rfl 2 rfl ?_
          obtain ⟨np8, p8, ep8, hp8, h⟩ := rdR_ex h
          refine x_aald C np8 ep8 dX5_apart_63 ?_
          obtain ⟨v9, σ10, cσ10, h⟩ := bd_some h
          refine callVi C (c_X4_between hp7 hp8 cσ10) km_X4_between kv_X4_between rfl ml_RX5_206 rfl rfl (by decide) (Nat.le_of_ble_eq_true rfl) dX5_apart_64 ?_
          refine v_istore_n C (lv' := [(3, .int _), (0, .ref _), (1, .int _), (2, .int _)]) dX5_apart_67 rfl (by decide) rfl ?_
          refine v_iload_n C dX5_apart_68 rfl 0 rfl ?_
          refine v_if_ge C (tgt := 77) dX5_apart_69 (by decide) (fun q11 => ?_) (fun q11 => ?_)
          · rw [if_pos q11] at h
            refine v_iload_n C dX5_apart_77 rfl 0 rfl ?_
            refine V.sub (lv' := []) [] rfl ?_
            exact b_X5_apart_78 C _  _ _ _ h
          · rw [if_neg q11] at h
            refine v_ldc C (v := (-900009 : Int32)) con_RX5_146 dX5_apart_72 ?_
            refine v_goto C (tgt := 78) dX5_apart_74 (by decide) ?_
            refine V.sub (lv' := []) [] rfl ?_
            exact b_X5_apart_78 C _  _ _ _ h
        · rw [if_pos q12] at h
          refine V.sub (lv' := []) [] rfl ?_
          exact b_X5_apart_41 C  _ _ _ h
    · rw [if_pos q14] at h
      refine V.sub (lv' := []) [] rfl ?_
      exact b_X5_apart_14 C  _ _ _ h
theorem dX5_end_0 : decode cX5_end 0 = .ok (.iload_n 1, 1) := by decide +kernel
theorem dX5_end_1 : decode cX5_end 1 = .ok (.invokestatic 151, 3) := by decide +kernel
theorem dX5_end_4 : decode cX5_end 4 = .ok (.ifCond .ne 6, 3) := by decide +kernel
theorem dX5_end_7 : decode cX5_end 7 = .ok (.ldc 95, 2) := by decide +kernel
theorem dX5_end_9 : decode cX5_end 9 = .ok (.ireturn, 1) := by decide +kernel
theorem dX5_end_10 : decode cX5_end 10 = .ok (.aload_n 0, 1) := by decide +kernel
theorem dX5_end_11 : decode cX5_end 11 = .ok (.getfield 39, 3) := by decide +kernel
theorem dX5_end_14 : decode cX5_end 14 = .ok (.iload_n 1, 1) := by decide +kernel
theorem dX5_end_15 : decode cX5_end 15 = .ok (.aaload, 1) := by decide +kernel
theorem dX5_end_16 : decode cX5_end 16 = .ok (.getfield 163, 3) := by decide +kernel
theorem dX5_end_19 : decode cX5_end 19 = .ok (.ifCond .ne 6, 3) := by decide +kernel
theorem dX5_end_22 : decode cX5_end 22 = .ok (.ldc 158, 2) := by decide +kernel
theorem dX5_end_24 : decode cX5_end 24 = .ok (.ireturn, 1) := by decide +kernel
theorem dX5_end_25 : decode cX5_end 25 = .ok (.aload_n 0, 1) := by decide +kernel
theorem dX5_end_26 : decode cX5_end 26 = .ok (.getfield 33, 3) := by decide +kernel
theorem dX5_end_29 : decode cX5_end 29 = .ok (.aload_n 0, 1) := by decide +kernel
theorem dX5_end_30 : decode cX5_end 30 = .ok (.getfield 12, 3) := by decide +kernel
theorem dX5_end_33 : decode cX5_end 33 = .ok (.aload_n 0, 1) := by decide +kernel
theorem dX5_end_34 : decode cX5_end 34 = .ok (.getfield 39, 3) := by decide +kernel
theorem dX5_end_37 : decode cX5_end 37 = .ok (.iload_n 1, 1) := by decide +kernel
theorem dX5_end_38 : decode cX5_end 38 = .ok (.aaload, 1) := by decide +kernel
theorem dX5_end_39 : decode cX5_end 39 = .ok (.iload_n 2, 1) := by decide +kernel
theorem dX5_end_40 : decode cX5_end 40 = .ok (.invokevirtual 210, 3) := by decide +kernel
theorem dX5_end_43 : decode cX5_end 43 = .ok (.ireturn, 1) := by decide +kernel
def f_X5_end (a1 : Int32) (a2 : Int32) (σ : St) : Option (Int32 × St) :=
  bd (f_X5_isSlot a1 σ) fun v1 σ2 =>
  if v1 = 0 then
    some ((-900001 : Int32), σ2)
  else
    rdR a1 fun p3 =>
    if (gi σ2 p3 0) = 0 then
      some ((-900003 : Int32), σ2)
    else
      rdR a1 fun p4 =>
      bd (f_X4_toEnd p4 a2 σ2) fun v5 σ6 =>
      some (v5, σ6)
set_option maxRecDepth 100000 in
set_option maxHeartbeats 4000000 in
theorem c_X5_end {g : Geo} {a1 : Int32} {a2 : Int32} {σ : St} {r : Int32} {σ' : St} (h : f_X5_end a1 a2 σ = some (r, σ')) : Ct g yX5_end cX5_end 3 (some .int) rm_X5_end [.ref (g.1 0), .int a1, .int a2] σ (some (.int r)) σ' := by
  refine ct_of (own := RX5) (by decide) rfl (Nat.le_of_ble_eq_true rfl) (fun x C => ?_) ⟨rfl, rfl⟩
  show V g x _ 3 σ [(0, .ref (g.1 0)), (1, .int a1), (2, .int a2)] [] 0
  unfold f_X5_end at h
  refine v_iload_n C dX5_end_0 rfl 1 rfl ?_
  obtain ⟨v1, σ2, cσ2, h⟩ := bd_some h
  refine callSi C (c_X5_isSlot cσ2) km_X5_isSlot ks_X5_isSlot ml_RX5_151 rfl rfl (by decide) (Nat.le_of_ble_eq_true rfl) dX5_end_1 ?_
  refine v_if_ne C (tgt := 10) dX5_end_4 (by decide) (fun q8 => ?_) (fun q8 => ?_)
  · rw [if_neg q8] at h
    refine v_aload_n C dX5_end_10 rfl 0 rfl ?_
    refine v_getR C (p' := 14) fl_RX5_39 rfl rfl dX5_end_11 ?_
    refine v_iload_n C dX5_end_14 rfl 1 rfl ?_
    obtain ⟨np3, p3, ep3, hp3, h⟩ := rdR_ex h
    refine x_aald C np3 ep3 dX5_end_15 ?_
    refine v_getZ C fl_RX5_163 hp3 dX5_end_16 ?_
    refine v_if_ne C (tgt := 25) dX5_end_19 (by decide) (fun q7 => ?_) (fun q7 => ?_)
    · rw [if_neg q7] at h
      refine v_aload_n C dX5_end_25 rfl 0 rfl ?_
      refine v_getR C (p' := 4) fl_RX5_33 rfl rfl dX5_end_26 ?_
      refine v_aload_n C dX5_end_29 rfl 0 rfl ?_
      refine v_getR C (p' := 1) fl_RX5_12 rfl rfl dX5_end_30 ?_
      refine v_aload_n C dX5_end_33 rfl 0 rfl ?_
      refine v_getR C (p' := 14) fl_RX5_39 rfl rfl dX5_end_34 ?_
      refine v_iload_n C dX5_end_37 rfl 1 rfl ?_
      obtain ⟨np4, p4, ep4, hp4, h⟩ := rdR_ex h
      refine x_aald C np4 ep4 dX5_end_38 ?_
      refine v_iload_n C dX5_end_39 rfl 2 rfl ?_
      obtain ⟨v5, σ6, cσ6, h⟩ := bd_some h
      refine callVi C (c_X4_toEnd hp4 cσ6) km_X4_toEnd kv_X4_toEnd rfl ml_RX5_210 rfl rfl (by decide) (Nat.le_of_ble_eq_true rfl) dX5_end_40 ?_
      cases h
      exact v_iret C dX5_end_43
    · rw [if_pos q7] at h
      refine v_ldc C (v := (-900003 : Int32)) con_RX5_158 dX5_end_22 ?_
      cases h
      exact v_iret C dX5_end_24
  · rw [if_pos q8] at h
    refine v_ldc C (v := (-900001 : Int32)) con_RX5_95 dX5_end_7 ?_
    cases h
    exact v_iret C dX5_end_9
theorem dX5_reach_0 : decode cX5_reach 0 = .ok (.iload_n 1, 1) := by decide +kernel
theorem dX5_reach_1 : decode cX5_reach 1 = .ok (.invokestatic 151, 3) := by decide +kernel
theorem dX5_reach_4 : decode cX5_reach 4 = .ok (.ifCond .ne 6, 3) := by decide +kernel
theorem dX5_reach_7 : decode cX5_reach 7 = .ok (.ldc 95, 2) := by decide +kernel
theorem dX5_reach_9 : decode cX5_reach 9 = .ok (.ireturn, 1) := by decide +kernel
theorem dX5_reach_10 : decode cX5_reach 10 = .ok (.aload_n 0, 1) := by decide +kernel
theorem dX5_reach_11 : decode cX5_reach 11 = .ok (.getfield 39, 3) := by decide +kernel
theorem dX5_reach_14 : decode cX5_reach 14 = .ok (.iload_n 1, 1) := by decide +kernel
theorem dX5_reach_15 : decode cX5_reach 15 = .ok (.aaload, 1) := by decide +kernel
theorem dX5_reach_16 : decode cX5_reach 16 = .ok (.getfield 163, 3) := by decide +kernel
theorem dX5_reach_19 : decode cX5_reach 19 = .ok (.ifCond .ne 6, 3) := by decide +kernel
theorem dX5_reach_22 : decode cX5_reach 22 = .ok (.ldc 158, 2) := by decide +kernel
theorem dX5_reach_24 : decode cX5_reach 24 = .ok (.ireturn, 1) := by decide +kernel
theorem dX5_reach_25 : decode cX5_reach 25 = .ok (.aload_n 0, 1) := by decide +kernel
theorem dX5_reach_26 : decode cX5_reach 26 = .ok (.getfield 33, 3) := by decide +kernel
theorem dX5_reach_29 : decode cX5_reach 29 = .ok (.aload_n 0, 1) := by decide +kernel
theorem dX5_reach_30 : decode cX5_reach 30 = .ok (.getfield 12, 3) := by decide +kernel
theorem dX5_reach_33 : decode cX5_reach 33 = .ok (.aload_n 0, 1) := by decide +kernel
theorem dX5_reach_34 : decode cX5_reach 34 = .ok (.getfield 39, 3) := by decide +kernel
theorem dX5_reach_37 : decode cX5_reach 37 = .ok (.iload_n 1, 1) := by decide +kernel
theorem dX5_reach_38 : decode cX5_reach 38 = .ok (.aaload, 1) := by decide +kernel
theorem dX5_reach_39 : decode cX5_reach 39 = .ok (.sipush 2000, 3) := by decide +kernel
theorem dX5_reach_42 : decode cX5_reach 42 = .ok (.invokevirtual 214, 3) := by decide +kernel
theorem dX5_reach_45 : decode cX5_reach 45 = .ok (.istore_n 2, 1) := by decide +kernel
theorem dX5_reach_46 : decode cX5_reach 46 = .ok (.iload_n 2, 1) := by decide +kernel
theorem dX5_reach_47 : decode cX5_reach 47 = .ok (.sipush 2000, 3) := by decide +kernel
theorem dX5_reach_50 : decode cX5_reach 50 = .ok (.if_icmp .le 8, 3) := by decide +kernel
theorem dX5_reach_53 : decode cX5_reach 53 = .ok (.ldc 218, 2) := by decide +kernel
theorem dX5_reach_55 : decode cX5_reach 55 = .ok (.goto 4, 3) := by decide +kernel
theorem dX5_reach_58 : decode cX5_reach 58 = .ok (.iload_n 2, 1) := by decide +kernel
theorem dX5_reach_59 : decode cX5_reach 59 = .ok (.ireturn, 1) := by decide +kernel
def f_X5_reach_59 (s0 : Int32) (σ : St) : Option (Int32 × St) :=
  some (s0, σ)
set_option maxRecDepth 100000 in
set_option maxHeartbeats 4000000 in
theorem b_X5_reach_59 {g : Geo} {x : Cx} (C : Ok g x cX5_reach RX5 3 (some .int) rm_X5_reach) : ∀ (s0 : Int32) (σ : St) (r : Int32) (σ' : St), f_X5_reach_59 s0 σ = some (r, σ') → V g x (qm g x (some (.int r)) σ') 3 σ [] [.int s0] 59 := by
  intro s0 σ r σ' h
  unfold f_X5_reach_59 at h
  cases h
  exact v_iret C dX5_reach_59
def f_X5_reach (a1 : Int32) (σ : St) : Option (Int32 × St) :=
  bd (f_X5_isSlot a1 σ) fun v1 σ2 =>
  if v1 = 0 then
    some ((-900001 : Int32), σ2)
  else
    rdR a1 fun p3 =>
    if (gi σ2 p3 0) = 0 then
      some ((-900003 : Int32), σ2)
    else
      rdR a1 fun p4 =>
      bd (f_X4_family p4 (2000 : Int32) σ2) fun v5 σ6 =>
      if v5 ≤ (2000 : Int32) then
        f_X5_reach_59 v5 σ6
      else
        f_X5_reach_59 (-900005 : Int32) σ6
set_option maxRecDepth 100000 in
set_option maxHeartbeats 4000000 in
theorem c_X5_reach {g : Geo} {a1 : Int32} {σ : St} {r : Int32} {σ' : St} (h : f_X5_reach a1 σ = some (r, σ')) : Ct g yX5_reach cX5_reach 3 (some .int) rm_X5_reach [.ref (g.1 0), .int a1] σ (some (.int r)) σ' := by
  refine ct_of (own := RX5) (by decide) rfl (Nat.le_of_ble_eq_true rfl) (fun x C => ?_) ⟨rfl, rfl⟩
  show V g x _ 3 σ [(0, .ref (g.1 0)), (1, .int a1)] [] 0
  unfold f_X5_reach at h
  refine v_iload_n C dX5_reach_0 rfl 1 rfl ?_
  obtain ⟨v1, σ2, cσ2, h⟩ := bd_some h
  refine callSi C (c_X5_isSlot cσ2) km_X5_isSlot ks_X5_isSlot ml_RX5_151 rfl rfl (by decide) (Nat.le_of_ble_eq_true rfl) dX5_reach_1 ?_
  refine v_if_ne C (tgt := 10) dX5_reach_4 (by decide) (fun q9 => ?_) (fun q9 => ?_)
  · rw [if_neg q9] at h
    refine v_aload_n C dX5_reach_10 rfl 0 rfl ?_
    refine v_getR C (p' := 14) fl_RX5_39 rfl rfl dX5_reach_11 ?_
    refine v_iload_n C dX5_reach_14 rfl 1 rfl ?_
    obtain ⟨np3, p3, ep3, hp3, h⟩ := rdR_ex h
    refine x_aald C np3 ep3 dX5_reach_15 ?_
    refine v_getZ C fl_RX5_163 hp3 dX5_reach_16 ?_
    refine v_if_ne C (tgt := 25) dX5_reach_19 (by decide) (fun q8 => ?_) (fun q8 => ?_)
    · rw [if_neg q8] at h
      refine v_aload_n C dX5_reach_25 rfl 0 rfl ?_
      refine v_getR C (p' := 4) fl_RX5_33 rfl rfl dX5_reach_26 ?_
      refine v_aload_n C dX5_reach_29 rfl 0 rfl ?_
      refine v_getR C (p' := 1) fl_RX5_12 rfl rfl dX5_reach_30 ?_
      refine v_aload_n C dX5_reach_33 rfl 0 rfl ?_
      refine v_getR C (p' := 14) fl_RX5_39 rfl rfl dX5_reach_34 ?_
      refine v_iload_n C dX5_reach_37 rfl 1 rfl ?_
      obtain ⟨np4, p4, ep4, hp4, h⟩ := rdR_ex h
      refine x_aald C np4 ep4 dX5_reach_38 ?_
      refine v_sipush C (v := (2000 : Int32)) dX5_reach_39 (by decide) ?_
      obtain ⟨v5, σ6, cσ6, h⟩ := bd_some h
      refine callVi C (c_X4_family hp4 cσ6) km_X4_family kv_X4_family rfl ml_RX5_214 rfl rfl (by decide) (Nat.le_of_ble_eq_true rfl) dX5_reach_42 ?_
      refine v_istore_n C (lv' := [(2, .int _), (0, .ref _), (1, .int _)]) dX5_reach_45 rfl (by decide) rfl ?_
      refine v_iload_n C dX5_reach_46 rfl 0 rfl ?_
      refine v_sipush C (v := (2000 : Int32)) dX5_reach_47 (by decide) ?_
      refine v_icmp_le C (tgt := 58) dX5_reach_50 (by decide) (fun q7 => ?_) (fun q7 => ?_)
      · rw [if_pos q7] at h
        refine v_iload_n C dX5_reach_58 rfl 0 rfl ?_
        refine V.sub (lv' := []) [] rfl ?_
        exact b_X5_reach_59 C _  _ _ _ h
      · rw [if_neg q7] at h
        refine v_ldc C (v := (-900005 : Int32)) con_RX5_218 dX5_reach_53 ?_
        refine v_goto C (tgt := 59) dX5_reach_55 (by decide) ?_
        refine V.sub (lv' := []) [] rfl ?_
        exact b_X5_reach_59 C _  _ _ _ h
    · rw [if_pos q8] at h
      refine v_ldc C (v := (-900003 : Int32)) con_RX5_158 dX5_reach_22 ?_
      cases h
      exact v_iret C dX5_reach_24
  · rw [if_pos q9] at h
    refine v_ldc C (v := (-900001 : Int32)) con_RX5_95 dX5_reach_7 ?_
    cases h
    exact v_iret C dX5_reach_9
theorem dX5_mirror_0 : decode cX5_mirror 0 = .ok (.iload_n 1, 1) := by decide +kernel
theorem dX5_mirror_1 : decode cX5_mirror 1 = .ok (.invokestatic 151, 3) := by decide +kernel
theorem dX5_mirror_4 : decode cX5_mirror 4 = .ok (.ifCond .ne 6, 3) := by decide +kernel
theorem dX5_mirror_7 : decode cX5_mirror 7 = .ok (.ldc 95, 2) := by decide +kernel
theorem dX5_mirror_9 : decode cX5_mirror 9 = .ok (.ireturn, 1) := by decide +kernel
theorem dX5_mirror_10 : decode cX5_mirror 10 = .ok (.aload_n 0, 1) := by decide +kernel
theorem dX5_mirror_11 : decode cX5_mirror 11 = .ok (.getfield 39, 3) := by decide +kernel
theorem dX5_mirror_14 : decode cX5_mirror 14 = .ok (.iload_n 1, 1) := by decide +kernel
theorem dX5_mirror_15 : decode cX5_mirror 15 = .ok (.aaload, 1) := by decide +kernel
theorem dX5_mirror_16 : decode cX5_mirror 16 = .ok (.astore_n 2, 1) := by decide +kernel
theorem dX5_mirror_17 : decode cX5_mirror 17 = .ok (.aload_n 2, 1) := by decide +kernel
theorem dX5_mirror_18 : decode cX5_mirror 18 = .ok (.getfield 163, 3) := by decide +kernel
theorem dX5_mirror_21 : decode cX5_mirror 21 = .ok (.ifCond .eq 13, 3) := by decide +kernel
theorem dX5_mirror_24 : decode cX5_mirror 24 = .ok (.aload_n 0, 1) := by decide +kernel
theorem dX5_mirror_25 : decode cX5_mirror 25 = .ok (.getfield 12, 3) := by decide +kernel
theorem dX5_mirror_28 : decode cX5_mirror 28 = .ok (.invokevirtual 219, 3) := by decide +kernel
theorem dX5_mirror_31 : decode cX5_mirror 31 = .ok (.ifCond .ne 6, 3) := by decide +kernel
theorem dX5_mirror_34 : decode cX5_mirror 34 = .ok (.ldc 158, 2) := by decide +kernel
theorem dX5_mirror_36 : decode cX5_mirror 36 = .ok (.ireturn, 1) := by decide +kernel
theorem dX5_mirror_37 : decode cX5_mirror 37 = .ok (.aload_n 0, 1) := by decide +kernel
theorem dX5_mirror_38 : decode cX5_mirror 38 = .ok (.getfield 44, 3) := by decide +kernel
theorem dX5_mirror_41 : decode cX5_mirror 41 = .ok (.aload_n 0, 1) := by decide +kernel
theorem dX5_mirror_42 : decode cX5_mirror 42 = .ok (.getfield 12, 3) := by decide +kernel
theorem dX5_mirror_45 : decode cX5_mirror 45 = .ok (.aload_n 2, 1) := by decide +kernel
theorem dX5_mirror_46 : decode cX5_mirror 46 = .ok (.getfield 223, 3) := by decide +kernel
theorem dX5_mirror_49 : decode cX5_mirror 49 = .ok (.invokevirtual 226, 3) := by decide +kernel
theorem dX5_mirror_52 : decode cX5_mirror 52 = .ok (.putfield 223, 3) := by decide +kernel
theorem dX5_mirror_55 : decode cX5_mirror 55 = .ok (.aload_n 0, 1) := by decide +kernel
theorem dX5_mirror_56 : decode cX5_mirror 56 = .ok (.getfield 44, 3) := by decide +kernel
theorem dX5_mirror_59 : decode cX5_mirror 59 = .ok (.aload_n 0, 1) := by decide +kernel
theorem dX5_mirror_60 : decode cX5_mirror 60 = .ok (.getfield 12, 3) := by decide +kernel
theorem dX5_mirror_63 : decode cX5_mirror 63 = .ok (.aload_n 2, 1) := by decide +kernel
theorem dX5_mirror_64 : decode cX5_mirror 64 = .ok (.getfield 230, 3) := by decide +kernel
theorem dX5_mirror_67 : decode cX5_mirror 67 = .ok (.invokevirtual 226, 3) := by decide +kernel
theorem dX5_mirror_70 : decode cX5_mirror 70 = .ok (.putfield 233, 3) := by decide +kernel
theorem dX5_mirror_73 : decode cX5_mirror 73 = .ok (.aload_n 0, 1) := by decide +kernel
theorem dX5_mirror_74 : decode cX5_mirror 74 = .ok (.getfield 44, 3) := by decide +kernel
theorem dX5_mirror_77 : decode cX5_mirror 77 = .ok (.aload_n 0, 1) := by decide +kernel
theorem dX5_mirror_78 : decode cX5_mirror 78 = .ok (.getfield 12, 3) := by decide +kernel
theorem dX5_mirror_81 : decode cX5_mirror 81 = .ok (.aload_n 2, 1) := by decide +kernel
theorem dX5_mirror_82 : decode cX5_mirror 82 = .ok (.getfield 233, 3) := by decide +kernel
theorem dX5_mirror_85 : decode cX5_mirror 85 = .ok (.invokevirtual 226, 3) := by decide +kernel
theorem dX5_mirror_88 : decode cX5_mirror 88 = .ok (.putfield 230, 3) := by decide +kernel
theorem dX5_mirror_91 : decode cX5_mirror 91 = .ok (.aload_n 0, 1) := by decide +kernel
theorem dX5_mirror_92 : decode cX5_mirror 92 = .ok (.getfield 44, 3) := by decide +kernel
theorem dX5_mirror_95 : decode cX5_mirror 95 = .ok (.iconst 1, 1) := by decide +kernel
theorem dX5_mirror_96 : decode cX5_mirror 96 = .ok (.putfield 163, 3) := by decide +kernel
theorem dX5_mirror_99 : decode cX5_mirror 99 = .ok (.aload_n 2, 1) := by decide +kernel
theorem dX5_mirror_100 : decode cX5_mirror 100 = .ok (.aload_n 0, 1) := by decide +kernel
theorem dX5_mirror_101 : decode cX5_mirror 101 = .ok (.getfield 44, 3) := by decide +kernel
theorem dX5_mirror_104 : decode cX5_mirror 104 = .ok (.invokevirtual 236, 3) := by decide +kernel
theorem dX5_mirror_107 : decode cX5_mirror 107 = .ok (.invokestatic 82, 3) := by decide +kernel
theorem dX5_mirror_110 : decode cX5_mirror 110 = .ok (.istore_n 3, 1) := by decide +kernel
theorem dX5_mirror_111 : decode cX5_mirror 111 = .ok (.aload_n 2, 1) := by decide +kernel
theorem dX5_mirror_112 : decode cX5_mirror 112 = .ok (.aload_n 0, 1) := by decide +kernel
theorem dX5_mirror_113 : decode cX5_mirror 113 = .ok (.getfield 44, 3) := by decide +kernel
theorem dX5_mirror_116 : decode cX5_mirror 116 = .ok (.invokevirtual 167, 3) := by decide +kernel
theorem dX5_mirror_119 : decode cX5_mirror 119 = .ok (.aload_n 0, 1) := by decide +kernel
theorem dX5_mirror_120 : decode cX5_mirror 120 = .ok (.getfield 12, 3) := by decide +kernel
theorem dX5_mirror_123 : decode cX5_mirror 123 = .ok (.getfield 78, 3) := by decide +kernel
theorem dX5_mirror_126 : decode cX5_mirror 126 = .ok (.invokestatic 82, 3) := by decide +kernel
theorem dX5_mirror_129 : decode cX5_mirror 129 = .ok (.iload_n 3, 1) := by decide +kernel
theorem dX5_mirror_130 : decode cX5_mirror 130 = .ok (.isub, 1) := by decide +kernel
theorem dX5_mirror_131 : decode cX5_mirror 131 = .ok (.ireturn, 1) := by decide +kernel
def f_X5_mirror_34 (σ : St) : Option (Int32 × St) :=
  some ((-900003 : Int32), σ)
set_option maxRecDepth 100000 in
set_option maxHeartbeats 4000000 in
theorem b_X5_mirror_34 {g : Geo} {x : Cx} (C : Ok g x cX5_mirror RX5 4 (some .int) rm_X5_mirror) : ∀ (σ : St) (r : Int32) (σ' : St), f_X5_mirror_34 σ = some (r, σ') → V g x (qm g x (some (.int r)) σ') 4 σ [] [] 34 := by
  intro σ r σ' h
  unfold f_X5_mirror_34 at h
  refine v_ldc C (v := (-900003 : Int32)) con_RX5_158 dX5_mirror_34 ?_
  cases h
  exact v_iret C dX5_mirror_36
def f_X5_mirror (a1 : Int32) (σ : St) : Option (Int32 × St) :=
  bd (f_X5_isSlot a1 σ) fun v1 σ2 =>
  if v1 = 0 then
    some ((-900001 : Int32), σ2)
  else
    rdR a1 fun p3 =>
    if (gi σ2 p3 0) = 0 then
      f_X5_mirror_34 σ2
    else
      bd (f_X1_isSymmetric σ2) fun v4 σ5 =>
      if v4 = 0 then
        f_X5_mirror_34 σ5
      else
        bd (f_X1_across (gl σ5 p3 1) σ5) fun v6 σ7 =>
        fL σ7 9 1 v6 fun σ8 =>
        bd (f_X1_across (gl σ8 p3 3) σ8) fun v9 σ10 =>
        fL σ10 9 2 v9 fun σ11 =>
        bd (f_X1_across (gl σ11 p3 2) σ11) fun v12 σ13 =>
        fL σ13 9 3 v12 fun σ14 =>
        fI σ14 9 0 (1 : Int32) fun σ15 =>
        bd (f_X2_alikeIn p3 9 σ15) fun v16 σ17 =>
        bd (f_J13_bitCount_95d88 v16 σ17) fun v18 σ19 =>
        bd (f_X2_take p3 9 σ19) fun _ σ21 =>
        bd (f_J13_bitCount_95d88 (gl σ21 1 3) σ21) fun v22 σ23 =>
        some ((v22 - v18), σ23)
set_option maxRecDepth 100000 in
set_option maxHeartbeats 4000000 in
theorem c_X5_mirror {g : Geo} {a1 : Int32} {σ : St} {r : Int32} {σ' : St} (h : f_X5_mirror a1 σ = some (r, σ')) : Ct g yX5_mirror cX5_mirror 4 (some .int) rm_X5_mirror [.ref (g.1 0), .int a1] σ (some (.int r)) σ' := by
  refine ct_of (own := RX5) (by decide) rfl (Nat.le_of_ble_eq_true rfl) (fun x C => ?_) ⟨rfl, rfl⟩
  show V g x _ 4 σ [(0, .ref (g.1 0)), (1, .int a1)] [] 0
  unfold f_X5_mirror at h
  refine v_iload_n C dX5_mirror_0 rfl 1 rfl ?_
  obtain ⟨v1, σ2, cσ2, h⟩ := bd_some h
  refine callSi C (c_X5_isSlot cσ2) km_X5_isSlot ks_X5_isSlot ml_RX5_151 rfl rfl (by decide) (Nat.le_of_ble_eq_true rfl) dX5_mirror_1 ?_
  refine v_if_ne C (tgt := 10) dX5_mirror_4 (by decide) (fun q26 => ?_) (fun q26 => ?_)
  · rw [if_neg q26] at h
    refine v_aload_n C dX5_mirror_10 rfl 0 rfl ?_
    refine v_getR C (p' := 14) fl_RX5_39 rfl rfl dX5_mirror_11 ?_
    refine v_iload_n C dX5_mirror_14 rfl 1 rfl ?_
    obtain ⟨np3, p3, ep3, hp3, h⟩ := rdR_ex h
    refine x_aald C np3 ep3 dX5_mirror_15 ?_
    refine v_astore_n C (lv' := [(2, .ref _), (0, .ref _), (1, .int _)]) dX5_mirror_16 rfl (by decide) rfl ?_
    refine v_aload_n C dX5_mirror_17 rfl 0 rfl ?_
    refine v_getZ C fl_RX5_163 hp3 dX5_mirror_18 ?_
    refine v_if_eq C (tgt := 34) dX5_mirror_21 (by decide) (fun q25 => ?_) (fun q25 => ?_)
    · rw [if_pos q25] at h
      refine V.sub (lv' := []) [] rfl ?_
      exact b_X5_mirror_34 C  _ _ _ h
    · rw [if_neg q25] at h
      refine v_aload_n C dX5_mirror_24 rfl 1 rfl ?_
      refine v_getR C (p' := 1) fl_RX5_12 rfl rfl dX5_mirror_25 ?_
      obtain ⟨v4, σ5, cσ5, h⟩ := bd_some h
      refine callVi C (c_X1_isSymmetric cσ5) km_X1_isSymmetric kv_X1_isSymmetric rfl ml_RX5_219 rfl rfl (by decide) (Nat.le_of_ble_eq_true rfl) dX5_mirror_28 ?_
      refine v_if_ne C (tgt := 37) dX5_mirror_31 (by decide) (fun q24 => ?_) (fun q24 => ?_)
      · rw [if_neg q24] at h
        refine v_aload_n C dX5_mirror_37 rfl 1 rfl ?_
        refine v_getR C (p' := 9) fl_RX5_44 rfl rfl dX5_mirror_38 ?_
        refine v_aload_n C dX5_mirror_41 rfl 1 rfl ?_
        refine v_getR C (p' := 1) fl_RX5_12 rfl rfl dX5_mirror_42 ?_
        refine v_aload_n C dX5_mirror_45 rfl 0 rfl ?_
        refine v_getL C fl_RX5_223 hp3 dX5_mirror_46 ?_
        obtain ⟨v6, σ7, cσ7, h⟩ := bd_some h
        refine callVl C (c_X1_across cσ7) km_X1_across kv_X1_across rfl ml_RX5_226 rfl rfl (by decide) (Nat.le_of_ble_eq_true rfl) dX5_mirror_49 ?_
        obtain ⟨σ8, eσ8, h⟩ := fL_ex h
        refine x_putL C fl_RX5_223 fw_2_1 rfl eσ8 dX5_mirror_52 ?_
        refine v_aload_n C dX5_mirror_55 rfl 1 rfl ?_
        refine v_getR C (p' := 9) fl_RX5_44 rfl rfl dX5_mirror_56 ?_
        refine v_aload_n C dX5_mirror_59 rfl 1 rfl ?_
        refine v_getR C (p' := 1) fl_RX5_12 rfl rfl dX5_mirror_60 ?_
        refine v_aload_n C dX5_mirror_63 rfl 0 rfl ?_
        refine v_getL C fl_RX5_230 hp3 dX5_mirror_64 ?_
        obtain ⟨v9, σ10, cσ10, h⟩ := bd_some h
        refine callVl C (c_X1_across cσ10) km_X1_across kv_X1_across rfl ml_RX5_226 rfl rfl (by decide) (Nat.le_of_ble_eq_true rfl) dX5_mirror_67 ?_
        obtain ⟨σ11, eσ11, h⟩ := fL_ex h
        refine x_putL C fl_RX5_233 fw_2_2 rfl eσ11 dX5_mirror_70 ?_
        refine v_aload_n C dX5_mirror_73 rfl 1 rfl ?_
        refine v_getR C (p' := 9) fl_RX5_44 rfl rfl dX5_mirror_74 ?_
        refine v_aload_n C dX5_mirror_77 rfl 1 rfl ?_
        refine v_getR C (p' := 1) fl_RX5_12 rfl rfl dX5_mirror_78 ?_
        refine v_aload_n C dX5_mirror_81 rfl 0 rfl ?_
        refine v_getL C fl_RX5_233 hp3 dX5_mirror_82 ?_
        obtain ⟨v12, σ13, cσ13, h⟩ := bd_some h
        refine callVl C (c_X1_across cσ13) km_X1_across kv_X1_across rfl ml_RX5_226 rfl rfl (by decide) (Nat.le_of_ble_eq_true rfl) dX5_mirror_85 ?_
        obtain ⟨σ14, eσ14, h⟩ := fL_ex h
        refine x_putL C fl_RX5_230 fw_2_3 rfl eσ14 dX5_mirror_88 ?_
        refine v_aload_n C dX5_mirror_91 rfl 1 rfl ?_
        refine v_getR C (p' := 9) fl_RX5_44 rfl rfl dX5_mirror_92 ?_
        refine v_iconst C (v := (1 : Int32)) dX5_mirror_95 (by decide) ?_
        obtain ⟨σ15, eσ15, h⟩ := fI_ex h
        refine x_putZ C fl_RX5_163 fw_2_0 rfl (Or.inr rfl) eσ15 dX5_mirror_96 ?_
        refine v_aload_n C dX5_mirror_99 rfl 0 rfl ?_
        refine v_aload_n C dX5_mirror_100 rfl 1 rfl ?_
        refine v_getR C (p' := 9) fl_RX5_44 rfl rfl dX5_mirror_101 ?_
        obtain ⟨v16, σ17, cσ17, h⟩ := bd_some h
        refine callVl C (c_X2_alikeIn hp3 rfl cσ17) km_X2_alikeIn kv_X2_alikeIn hp3 ml_RX5_236 rfl rfl (by decide) (Nat.le_of_ble_eq_true rfl) dX5_mirror_104 ?_
        obtain ⟨v18, σ19, cσ19, h⟩ := bd_some h
        refine callSi C (c_J13_bitCount_95d88 cσ19) km_J13_bitCount_95d88 ks_J13_bitCount_95d88 ml_RX5_82 rfl rfl (by decide) (Nat.le_of_ble_eq_true rfl) dX5_mirror_107 ?_
        refine v_istore_n C (lv' := [(3, .int _), (2, .ref _), (0, .ref _), (1, .int _)]) dX5_mirror_110 rfl (by decide) rfl ?_
        refine v_aload_n C dX5_mirror_111 rfl 1 rfl ?_
        refine v_aload_n C dX5_mirror_112 rfl 2 rfl ?_
        refine v_getR C (p' := 9) fl_RX5_44 rfl rfl dX5_mirror_113 ?_
        obtain ⟨v20, σ21, cσ21, h⟩ := bd_some h
        refine callVv C (c_X2_take hp3 rfl cσ21) km_X2_take kv_X2_take hp3 ml_RX5_167 rfl rfl (by decide) (Nat.le_of_ble_eq_true rfl) dX5_mirror_116 ?_
        refine v_aload_n C dX5_mirror_119 rfl 2 rfl ?_
        refine v_getR C (p' := 1) fl_RX5_12 rfl rfl dX5_mirror_120 ?_
        refine v_getL C fl_RX5_78 rfl dX5_mirror_123 ?_
        obtain ⟨v22, σ23, cσ23, h⟩ := bd_some h
        refine callSi C (c_J13_bitCount_95d88 cσ23) km_J13_bitCount_95d88 ks_J13_bitCount_95d88 ml_RX5_82 rfl rfl (by decide) (Nat.le_of_ble_eq_true rfl) dX5_mirror_126 ?_
        refine v_iload_n C dX5_mirror_129 rfl 0 rfl ?_
        refine v_isub C dX5_mirror_130 ?_
        cases h
        exact v_iret C dX5_mirror_131
      · rw [if_pos q24] at h
        refine V.sub (lv' := []) [] rfl ?_
        exact b_X5_mirror_34 C  _ _ _ h
  · rw [if_pos q26] at h
    refine v_ldc C (v := (-900001 : Int32)) con_RX5_95 dX5_mirror_7 ?_
    cases h
    exact v_iret C dX5_mirror_9
theorem dX5_makeJoining_0 : decode cX5_makeJoining 0 = .ok (.aload_n 0, 1) := by decide +kernel
theorem dX5_makeJoining_1 : decode cX5_makeJoining 1 = .ok (.getfield 269, 3) := by decide +kernel
theorem dX5_makeJoining_4 : decode cX5_makeJoining 4 = .ok (.ifCond .ne 19, 3) := by decide +kernel
theorem dX5_makeJoining_7 : decode cX5_makeJoining 7 = .ok (.aload_n 0, 1) := by decide +kernel
theorem dX5_makeJoining_8 : decode cX5_makeJoining 8 = .ok (.getfield 26, 3) := by decide +kernel
theorem dX5_makeJoining_11 : decode cX5_makeJoining 11 = .ok (.aload_n 0, 1) := by decide +kernel
theorem dX5_makeJoining_12 : decode cX5_makeJoining 12 = .ok (.getfield 12, 3) := by decide +kernel
theorem dX5_makeJoining_15 : decode cX5_makeJoining 15 = .ok (.invokevirtual 276, 3) := by decide +kernel
theorem dX5_makeJoining_18 : decode cX5_makeJoining 18 = .ok (.aload_n 0, 1) := by decide +kernel
theorem dX5_makeJoining_19 : decode cX5_makeJoining 19 = .ok (.iconst 1, 1) := by decide +kernel
theorem dX5_makeJoining_20 : decode cX5_makeJoining 20 = .ok (.putfield 269, 3) := by decide +kernel
theorem dX5_makeJoining_23 : decode cX5_makeJoining 23 = .ok (.return_, 1) := by decide +kernel
def f_X5_makeJoining_23 (σ : St) : Option (Unit × St) :=
  some ((), σ)
set_option maxRecDepth 100000 in
set_option maxHeartbeats 4000000 in
theorem b_X5_makeJoining_23 {g : Geo} {x : Cx} (C : Ok g x cX5_makeJoining RX5 1 none rm_X5_makeJoining) : ∀ (σ : St) (r : Unit) (σ' : St), f_X5_makeJoining_23 σ = some (r, σ') → V g x (qm g x none σ') 1 σ [] [] 23 := by
  intro σ r σ' h
  unfold f_X5_makeJoining_23 at h
  cases h
  exact v_vret C dX5_makeJoining_23
def f_X5_makeJoining (σ : St) : Option (Unit × St) :=
  if (gi σ 0 9) = 0 then
    bd (f_X0_solve σ) fun _ σ2 =>
    fI σ2 0 9 (1 : Int32) fun σ3 =>
    f_X5_makeJoining_23 σ3
  else
    f_X5_makeJoining_23 σ
set_option maxRecDepth 100000 in
set_option maxHeartbeats 4000000 in
theorem c_X5_makeJoining {g : Geo} {σ : St} {r : Unit} {σ' : St} (h : f_X5_makeJoining σ = some (r, σ')) : Ct g yX5_makeJoining cX5_makeJoining 1 none rm_X5_makeJoining [.ref (g.1 0)] σ none σ' := by
  refine ct_of (own := RX5) (by decide) rfl (Nat.le_of_ble_eq_true rfl) (fun x C => ?_) ⟨rfl, rfl⟩
  show V g x _ 1 σ [(0, .ref (g.1 0))] [] 0
  unfold f_X5_makeJoining at h
  refine v_aload_n C dX5_makeJoining_0 rfl 0 rfl ?_
  refine v_getZ C fl_RX5_269 rfl dX5_makeJoining_1 ?_
  refine v_if_ne C (tgt := 23) dX5_makeJoining_4 (by decide) (fun q4 => ?_) (fun q4 => ?_)
  · rw [if_neg q4] at h
    refine V.sub (lv' := []) [] rfl ?_
    exact b_X5_makeJoining_23 C  _ _ _ h
  · rw [if_pos q4] at h
    refine v_aload_n C dX5_makeJoining_7 rfl 0 rfl ?_
    refine v_getR C (p' := 3) fl_RX5_26 rfl rfl dX5_makeJoining_8 ?_
    refine v_aload_n C dX5_makeJoining_11 rfl 0 rfl ?_
    refine v_getR C (p' := 1) fl_RX5_12 rfl rfl dX5_makeJoining_12 ?_
    obtain ⟨v1, σ2, cσ2, h⟩ := bd_some h
    refine callVv C (c_X0_solve cσ2) km_X0_solve kv_X0_solve rfl ml_RX5_276 rfl rfl (by decide) (Nat.le_of_ble_eq_true rfl) dX5_makeJoining_15 ?_
    refine v_aload_n C dX5_makeJoining_18 rfl 0 rfl ?_
    refine v_iconst C (v := (1 : Int32)) dX5_makeJoining_19 (by decide) ?_
    obtain ⟨σ3, eσ3, h⟩ := fI_ex h
    refine x_putZ C fl_RX5_269 fw_5_9 rfl (Or.inr rfl) eσ3 dX5_makeJoining_20 ?_
    refine V.sub (lv' := []) [] rfl ?_
    exact b_X5_makeJoining_23 C  _ _ _ h
theorem dX5_most_0 : decode cX5_most 0 = .ok (.aload_n 0, 1) := by decide +kernel
theorem dX5_most_1 : decode cX5_most 1 = .ok (.invokevirtual 240, 3) := by decide +kernel
theorem dX5_most_4 : decode cX5_most 4 = .ok (.aload_n 0, 1) := by decide +kernel
theorem dX5_most_5 : decode cX5_most 5 = .ok (.getfield 26, 3) := by decide +kernel
theorem dX5_most_8 : decode cX5_most 8 = .ok (.invokevirtual 243, 3) := by decide +kernel
theorem dX5_most_11 : decode cX5_most 11 = .ok (.ireturn, 1) := by decide +kernel
def f_X5_most (σ : St) : Option (Int32 × St) :=
  bd (f_X5_makeJoining σ) fun _ σ2 =>
  bd (f_X0_joined σ2) fun v3 σ4 =>
  some (v3, σ4)
set_option maxRecDepth 100000 in
set_option maxHeartbeats 4000000 in
theorem c_X5_most {g : Geo} {σ : St} {r : Int32} {σ' : St} (h : f_X5_most σ = some (r, σ')) : Ct g yX5_most cX5_most 1 (some .int) rm_X5_most [.ref (g.1 0)] σ (some (.int r)) σ' := by
  refine ct_of (own := RX5) (by decide) rfl (Nat.le_of_ble_eq_true rfl) (fun x C => ?_) ⟨rfl, rfl⟩
  show V g x _ 1 σ [(0, .ref (g.1 0))] [] 0
  unfold f_X5_most at h
  refine v_aload_n C dX5_most_0 rfl 0 rfl ?_
  obtain ⟨v1, σ2, cσ2, h⟩ := bd_some h
  refine callVv C (c_X5_makeJoining cσ2) km_X5_makeJoining kv_X5_makeJoining rfl ml_RX5_240 rfl rfl (by decide) (Nat.le_of_ble_eq_true rfl) dX5_most_1 ?_
  refine v_aload_n C dX5_most_4 rfl 0 rfl ?_
  refine v_getR C (p' := 3) fl_RX5_26 rfl rfl dX5_most_5 ?_
  obtain ⟨v3, σ4, cσ4, h⟩ := bd_some h
  refine callVi C (c_X0_joined cσ4) km_X0_joined kv_X0_joined rfl ml_RX5_243 rfl rfl (by decide) (Nat.le_of_ble_eq_true rfl) dX5_most_8 ?_
  cases h
  exact v_iret C dX5_most_11
theorem dX5_lack_0 : decode cX5_lack 0 = .ok (.aload_n 0, 1) := by decide +kernel
theorem dX5_lack_1 : decode cX5_lack 1 = .ok (.invokevirtual 240, 3) := by decide +kernel
theorem dX5_lack_4 : decode cX5_lack 4 = .ok (.aload_n 0, 1) := by decide +kernel
theorem dX5_lack_5 : decode cX5_lack 5 = .ok (.getfield 12, 3) := by decide +kernel
theorem dX5_lack_8 : decode cX5_lack 8 = .ok (.getfield 78, 3) := by decide +kernel
theorem dX5_lack_11 : decode cX5_lack 11 = .ok (.invokestatic 82, 3) := by decide +kernel
theorem dX5_lack_14 : decode cX5_lack 14 = .ok (.aload_n 0, 1) := by decide +kernel
theorem dX5_lack_15 : decode cX5_lack 15 = .ok (.getfield 12, 3) := by decide +kernel
theorem dX5_lack_18 : decode cX5_lack 18 = .ok (.getfield 88, 3) := by decide +kernel
theorem dX5_lack_21 : decode cX5_lack 21 = .ok (.invokestatic 82, 3) := by decide +kernel
theorem dX5_lack_24 : decode cX5_lack 24 = .ok (.iadd, 1) := by decide +kernel
theorem dX5_lack_25 : decode cX5_lack 25 = .ok (.iconst 2, 1) := by decide +kernel
theorem dX5_lack_26 : decode cX5_lack 26 = .ok (.aload_n 0, 1) := by decide +kernel
theorem dX5_lack_27 : decode cX5_lack 27 = .ok (.getfield 26, 3) := by decide +kernel
theorem dX5_lack_30 : decode cX5_lack 30 = .ok (.invokevirtual 243, 3) := by decide +kernel
theorem dX5_lack_33 : decode cX5_lack 33 = .ok (.imul, 1) := by decide +kernel
theorem dX5_lack_34 : decode cX5_lack 34 = .ok (.isub, 1) := by decide +kernel
theorem dX5_lack_35 : decode cX5_lack 35 = .ok (.ireturn, 1) := by decide +kernel
def f_X5_lack (σ : St) : Option (Int32 × St) :=
  bd (f_X5_makeJoining σ) fun _ σ2 =>
  bd (f_J13_bitCount_95d88 (gl σ2 1 3) σ2) fun v3 σ4 =>
  bd (f_J13_bitCount_95d88 (gl σ4 1 4) σ4) fun v5 σ6 =>
  bd (f_X0_joined σ6) fun v7 σ8 =>
  some (((v3 + v5) - ((2 : Int32) * v7)), σ8)
set_option maxRecDepth 100000 in
set_option maxHeartbeats 4000000 in
theorem c_X5_lack {g : Geo} {σ : St} {r : Int32} {σ' : St} (h : f_X5_lack σ = some (r, σ')) : Ct g yX5_lack cX5_lack 1 (some .int) rm_X5_lack [.ref (g.1 0)] σ (some (.int r)) σ' := by
  refine ct_of (own := RX5) (by decide) rfl (Nat.le_of_ble_eq_true rfl) (fun x C => ?_) ⟨rfl, rfl⟩
  show V g x _ 1 σ [(0, .ref (g.1 0))] [] 0
  unfold f_X5_lack at h
  refine v_aload_n C dX5_lack_0 rfl 0 rfl ?_
  obtain ⟨v1, σ2, cσ2, h⟩ := bd_some h
  refine callVv C (c_X5_makeJoining cσ2) km_X5_makeJoining kv_X5_makeJoining rfl ml_RX5_240 rfl rfl (by decide) (Nat.le_of_ble_eq_true rfl) dX5_lack_1 ?_
  refine v_aload_n C dX5_lack_4 rfl 0 rfl ?_
  refine v_getR C (p' := 1) fl_RX5_12 rfl rfl dX5_lack_5 ?_
  refine v_getL C fl_RX5_78 rfl dX5_lack_8 ?_
  obtain ⟨v3, σ4, cσ4, h⟩ := bd_some h
  refine callSi C (c_J13_bitCount_95d88 cσ4) km_J13_bitCount_95d88 ks_J13_bitCount_95d88 ml_RX5_82 rfl rfl (by decide) (Nat.le_of_ble_eq_true rfl) dX5_lack_11 ?_
  refine v_aload_n C dX5_lack_14 rfl 0 rfl ?_
  refine v_getR C (p' := 1) fl_RX5_12 rfl rfl dX5_lack_15 ?_
  refine v_getL C fl_RX5_88 rfl dX5_lack_18 ?_
  obtain ⟨v5, σ6, cσ6, h⟩ := bd_some h
  refine callSi C (c_J13_bitCount_95d88 cσ6) km_J13_bitCount_95d88 ks_J13_bitCount_95d88 ml_RX5_82 rfl rfl (by decide) (Nat.le_of_ble_eq_true rfl) dX5_lack_21 ?_
  refine v_iadd C dX5_lack_24 ?_
  refine v_iconst C (v := (2 : Int32)) dX5_lack_25 (by decide) ?_
  refine v_aload_n C dX5_lack_26 rfl 0 rfl ?_
  refine v_getR C (p' := 3) fl_RX5_26 rfl rfl dX5_lack_27 ?_
  obtain ⟨v7, σ8, cσ8, h⟩ := bd_some h
  refine callVi C (c_X0_joined cσ8) km_X0_joined kv_X0_joined rfl ml_RX5_243 rfl rfl (by decide) (Nat.le_of_ble_eq_true rfl) dX5_lack_30 ?_
  refine v_imul C dX5_lack_33 ?_
  refine v_isub C dX5_lack_34 ?_
  cases h
  exact v_iret C dX5_lack_35
theorem dX5_bar_0 : decode cX5_bar 0 = .ok (.aload_n 0, 1) := by decide +kernel
theorem dX5_bar_1 : decode cX5_bar 1 = .ok (.invokevirtual 240, 3) := by decide +kernel
theorem dX5_bar_4 : decode cX5_bar 4 = .ok (.aload_n 0, 1) := by decide +kernel
theorem dX5_bar_5 : decode cX5_bar 5 = .ok (.getfield 26, 3) := by decide +kernel
theorem dX5_bar_8 : decode cX5_bar 8 = .ok (.getfield 247, 3) := by decide +kernel
theorem dX5_bar_11 : decode cX5_bar 11 = .ok (.lconst 0, 1) := by decide +kernel
theorem dX5_bar_12 : decode cX5_bar 12 = .ok (.lcmp, 1) := by decide +kernel
theorem dX5_bar_13 : decode cX5_bar 13 = .ok (.ifCond .ne 8, 3) := by decide +kernel
theorem dX5_bar_16 : decode cX5_bar 16 = .ok (.ldc 146, 2) := by decide +kernel
theorem dX5_bar_18 : decode cX5_bar 18 = .ok (.goto 13, 3) := by decide +kernel
theorem dX5_bar_21 : decode cX5_bar 21 = .ok (.aload_n 0, 1) := by decide +kernel
theorem dX5_bar_22 : decode cX5_bar 22 = .ok (.getfield 26, 3) := by decide +kernel
theorem dX5_bar_25 : decode cX5_bar 25 = .ok (.getfield 247, 3) := by decide +kernel
theorem dX5_bar_28 : decode cX5_bar 28 = .ok (.invokestatic 82, 3) := by decide +kernel
theorem dX5_bar_31 : decode cX5_bar 31 = .ok (.ireturn, 1) := by decide +kernel
def f_X5_bar_31 (s0 : Int32) (σ : St) : Option (Int32 × St) :=
  some (s0, σ)
set_option maxRecDepth 100000 in
set_option maxHeartbeats 4000000 in
theorem b_X5_bar_31 {g : Geo} {x : Cx} (C : Ok g x cX5_bar RX5 1 (some .int) rm_X5_bar) : ∀ (s0 : Int32) (σ : St) (r : Int32) (σ' : St), f_X5_bar_31 s0 σ = some (r, σ') → V g x (qm g x (some (.int r)) σ') 1 σ [] [.int s0] 31 := by
  intro s0 σ r σ' h
  unfold f_X5_bar_31 at h
  cases h
  exact v_iret C dX5_bar_31
def f_X5_bar (σ : St) : Option (Int32 × St) :=
  bd (f_X5_makeJoining σ) fun _ σ2 =>
  if (gl σ2 3 2) = (0 : Int64) then
    f_X5_bar_31 (-900009 : Int32) σ2
  else
    bd (f_J13_bitCount_95d88 (gl σ2 3 2) σ2) fun v3 σ4 =>
    f_X5_bar_31 v3 σ4
set_option maxRecDepth 100000 in
set_option maxHeartbeats 4000000 in
theorem c_X5_bar {g : Geo} {σ : St} {r : Int32} {σ' : St} (h : f_X5_bar σ = some (r, σ')) : Ct g yX5_bar cX5_bar 1 (some .int) rm_X5_bar [.ref (g.1 0)] σ (some (.int r)) σ' := by
  refine ct_of (own := RX5) (by decide) rfl (Nat.le_of_ble_eq_true rfl) (fun x C => ?_) ⟨rfl, rfl⟩
  show V g x _ 1 σ [(0, .ref (g.1 0))] [] 0
  unfold f_X5_bar at h
  refine v_aload_n C dX5_bar_0 rfl 0 rfl ?_
  obtain ⟨v1, σ2, cσ2, h⟩ := bd_some h
  refine callVv C (c_X5_makeJoining cσ2) km_X5_makeJoining kv_X5_makeJoining rfl ml_RX5_240 rfl rfl (by decide) (Nat.le_of_ble_eq_true rfl) dX5_bar_1 ?_
  refine v_aload_n C dX5_bar_4 rfl 0 rfl ?_
  refine v_getR C (p' := 3) fl_RX5_26 rfl rfl dX5_bar_5 ?_
  refine v_getL C fl_RX5_247 rfl dX5_bar_8 ?_
  refine v_lconst C (v := (0 : Int64)) dX5_bar_11 (by decide) ?_
  refine v_lcmp_ne C (tgt := 21) dX5_bar_12 dX5_bar_13 (by decide) (fun q5 => ?_) (fun q5 => ?_)
  · rw [if_neg q5] at h
    refine v_aload_n C dX5_bar_21 rfl 0 rfl ?_
    refine v_getR C (p' := 3) fl_RX5_26 rfl rfl dX5_bar_22 ?_
    refine v_getL C fl_RX5_247 rfl dX5_bar_25 ?_
    obtain ⟨v3, σ4, cσ4, h⟩ := bd_some h
    refine callSi C (c_J13_bitCount_95d88 cσ4) km_J13_bitCount_95d88 ks_J13_bitCount_95d88 ml_RX5_82 rfl rfl (by decide) (Nat.le_of_ble_eq_true rfl) dX5_bar_28 ?_
    refine V.sub (lv' := []) [] rfl ?_
    exact b_X5_bar_31 C _  _ _ _ h
  · rw [if_pos q5] at h
    refine v_ldc C (v := (-900009 : Int32)) con_RX5_146 dX5_bar_16 ?_
    refine v_goto C (tgt := 31) dX5_bar_18 (by decide) ?_
    refine V.sub (lv' := []) [] rfl ?_
    exact b_X5_bar_31 C _  _ _ _ h
theorem dX5_barred_0 : decode cX5_barred 0 = .ok (.aload_n 0, 1) := by decide +kernel
theorem dX5_barred_1 : decode cX5_barred 1 = .ok (.invokevirtual 240, 3) := by decide +kernel
theorem dX5_barred_4 : decode cX5_barred 4 = .ok (.iconst 0, 1) := by decide +kernel
theorem dX5_barred_5 : decode cX5_barred 5 = .ok (.istore_n 2, 1) := by decide +kernel
theorem dX5_barred_6 : decode cX5_barred 6 = .ok (.iconst 0, 1) := by decide +kernel
theorem dX5_barred_7 : decode cX5_barred 7 = .ok (.istore_n 3, 1) := by decide +kernel
theorem dX5_barred_8 : decode cX5_barred 8 = .ok (.iload_n 3, 1) := by decide +kernel
theorem dX5_barred_9 : decode cX5_barred 9 = .ok (.aload_n 0, 1) := by decide +kernel
theorem dX5_barred_10 : decode cX5_barred 10 = .ok (.getfield 12, 3) := by decide +kernel
theorem dX5_barred_13 : decode cX5_barred 13 = .ok (.getfield 66, 3) := by decide +kernel
theorem dX5_barred_16 : decode cX5_barred 16 = .ok (.if_icmp .ge 35, 3) := by decide +kernel
theorem dX5_barred_19 : decode cX5_barred 19 = .ok (.aload_n 0, 1) := by decide +kernel
theorem dX5_barred_20 : decode cX5_barred 20 = .ok (.getfield 26, 3) := by decide +kernel
theorem dX5_barred_23 : decode cX5_barred 23 = .ok (.getfield 247, 3) := by decide +kernel
theorem dX5_barred_26 : decode cX5_barred 26 = .ok (.iload_n 3, 1) := by decide +kernel
theorem dX5_barred_27 : decode cX5_barred 27 = .ok (.lushr, 1) := by decide +kernel
theorem dX5_barred_28 : decode cX5_barred 28 = .ok (.lconst 1, 1) := by decide +kernel
theorem dX5_barred_29 : decode cX5_barred 29 = .ok (.land, 1) := by decide +kernel
theorem dX5_barred_30 : decode cX5_barred 30 = .ok (.lconst 0, 1) := by decide +kernel
theorem dX5_barred_31 : decode cX5_barred 31 = .ok (.lcmp, 1) := by decide +kernel
theorem dX5_barred_32 : decode cX5_barred 32 = .ok (.ifCond .eq 13, 3) := by decide +kernel
theorem dX5_barred_35 : decode cX5_barred 35 = .ok (.iload_n 2, 1) := by decide +kernel
theorem dX5_barred_36 : decode cX5_barred 36 = .ok (.iload_n 1, 1) := by decide +kernel
theorem dX5_barred_37 : decode cX5_barred 37 = .ok (.if_icmp .ne 5, 3) := by decide +kernel
theorem dX5_barred_40 : decode cX5_barred 40 = .ok (.iload_n 3, 1) := by decide +kernel
theorem dX5_barred_41 : decode cX5_barred 41 = .ok (.ireturn, 1) := by decide +kernel
theorem dX5_barred_42 : decode cX5_barred 42 = .ok (.iinc 2 1, 3) := by decide +kernel
theorem dX5_barred_45 : decode cX5_barred 45 = .ok (.iinc 3 1, 3) := by decide +kernel
theorem dX5_barred_48 : decode cX5_barred 48 = .ok (.goto (-40), 3) := by decide +kernel
theorem dX5_barred_51 : decode cX5_barred 51 = .ok (.ldc 146, 2) := by decide +kernel
theorem dX5_barred_53 : decode cX5_barred 53 = .ok (.ireturn, 1) := by decide +kernel
def f_X5_barred_45 (k8 : Int32 → Int32 → Int32 → St → Option (Int32 × St)) (x1 : Int32) (x2 : Int32) (x3 : Int32) (σ : St) : Option (Int32 × St) :=
  k8 x1 x2 (x3 + 1) σ
set_option maxRecDepth 100000 in
set_option maxHeartbeats 4000000 in
theorem b_X5_barred_45 {g : Geo} {x : Cx} (C : Ok g x cX5_barred RX5 4 (some .int) rm_X5_barred) (k8 : Int32 → Int32 → Int32 → St → Option (Int32 × St)) (hk8 : ∀ (x1 : Int32) (x2 : Int32) (x3 : Int32) (τ : St) (r : Int32) (τ' : St), k8 x1 x2 x3 τ = some (r, τ') → V g x (qm g x (some (.int r)) τ') 4 τ [(0, .ref (g.1 0)), (1, .int x1), (2, .int x2), (3, .int x3)] [] 8) : ∀ (x1 : Int32) (x2 : Int32) (x3 : Int32) (σ : St) (r : Int32) (σ' : St), f_X5_barred_45 k8 x1 x2 x3 σ = some (r, σ') → V g x (qm g x (some (.int r)) σ') 4 σ [(0, .ref (g.1 0)), (1, .int x1), (2, .int x2), (3, .int x3)] [] 45 := by
  intro x1 x2 x3 σ r σ' h
  unfold f_X5_barred_45 at h
  refine v_iinc C (v := (x3 + 1)) (lv' := [(3, .int _), (0, .ref _), (1, .int _), (2, .int _)]) dX5_barred_45 3 rfl rfl (by decide) rfl ?_
  refine v_goto C (tgt := 8) dX5_barred_48 (by decide) ?_
  refine V.sub (lv' := [(0, .ref _), (1, .int _), (2, .int _), (3, .int _)]) [1, 2, 3, 0] rfl ?_
  exact hk8 _ _ _  _ _ _ h
def f_X5_barred_8 : Nat → Int32 → Int32 → Int32 → St → Option (Int32 × St)
  | 0, _, _, _, _ => none
  | n + 1, x1, x2, x3, σ =>
    if (gi σ 1 2) ≤ x3 then
      some ((-900009 : Int32), σ)
    else
      if ((lushr (gl σ 3 2) x3) &&& (1 : Int64)) = (0 : Int64) then
        f_X5_barred_45 (f_X5_barred_8 n) x1 x2 x3 σ
      else
        if x2 = x1 then
          some (x3, σ)
        else
          f_X5_barred_45 (f_X5_barred_8 n) x1 (x2 + 1) x3 σ
set_option maxRecDepth 100000 in
set_option maxHeartbeats 4000000 in
theorem b_X5_barred_8 {g : Geo} {x : Cx} (C : Ok g x cX5_barred RX5 4 (some .int) rm_X5_barred) : ∀ (n : Nat) (x1 : Int32) (x2 : Int32) (x3 : Int32) (σ : St) (r : Int32) (σ' : St), f_X5_barred_8 n x1 x2 x3 σ = some (r, σ') → V g x (qm g x (some (.int r)) σ') 4 σ [(0, .ref (g.1 0)), (1, .int x1), (2, .int x2), (3, .int x3)] [] 8 := by
  intro n
  induction n with
  | zero =>
    intro x1 x2 x3 σ r σ' h
    rw [f_X5_barred_8] at h
    cases h
  | succ n ih =>
    intro x1 x2 x3 σ r σ' h
    rw [f_X5_barred_8] at h
    refine v_iload_n C dX5_barred_8 rfl 3 rfl ?_
    refine v_aload_n C dX5_barred_9 rfl 0 rfl ?_
    refine v_getR C (p' := 1) fl_RX5_12 rfl rfl dX5_barred_10 ?_
    refine v_getI C fl_RX5_66 rfl dX5_barred_13 ?_
    refine v_icmp_ge C (tgt := 51) dX5_barred_16 (by decide) (fun q3 => ?_) (fun q3 => ?_)
    · rw [if_pos q3] at h
      refine v_ldc C (v := (-900009 : Int32)) con_RX5_146 dX5_barred_51 ?_
      cases h
      exact v_iret C dX5_barred_53
    · rw [if_neg q3] at h
      refine v_aload_n C dX5_barred_19 rfl 0 rfl ?_
      refine v_getR C (p' := 3) fl_RX5_26 rfl rfl dX5_barred_20 ?_
      refine v_getL C fl_RX5_247 rfl dX5_barred_23 ?_
      refine v_iload_n C dX5_barred_26 rfl 3 rfl ?_
      refine v_lushr C dX5_barred_27 ?_
      refine v_lconst C (v := (1 : Int64)) dX5_barred_28 (by decide) ?_
      refine v_land C dX5_barred_29 ?_
      refine v_lconst C (v := (0 : Int64)) dX5_barred_30 (by decide) ?_
      refine v_lcmp_eq C (tgt := 45) dX5_barred_31 dX5_barred_32 (by decide) (fun q2 => ?_) (fun q2 => ?_)
      · rw [if_pos q2] at h
        refine V.sub (lv' := [(0, .ref _), (1, .int _), (2, .int _), (3, .int _)]) [0, 1, 2, 3] rfl ?_
        exact b_X5_barred_45 C _ ih _ _ _  _ _ _ h
      · rw [if_neg q2] at h
        refine v_iload_n C dX5_barred_35 rfl 2 rfl ?_
        refine v_iload_n C dX5_barred_36 rfl 1 rfl ?_
        refine v_icmp_ne C (tgt := 42) dX5_barred_37 (by decide) (fun q1 => ?_) (fun q1 => ?_)
        · rw [if_neg q1] at h
          refine v_iinc C (v := (x2 + 1)) (lv' := [(2, .int _), (0, .ref _), (1, .int _), (3, .int _)]) dX5_barred_42 2 rfl rfl (by decide) rfl ?_
          refine V.sub (lv' := [(0, .ref _), (1, .int _), (2, .int _), (3, .int _)]) [1, 2, 0, 3] rfl ?_
          exact b_X5_barred_45 C _ ih _ _ _  _ _ _ h
        · rw [if_pos q1] at h
          refine v_iload_n C dX5_barred_40 rfl 3 rfl ?_
          cases h
          exact v_iret C dX5_barred_41
def f_X5_barred (a1 : Int32) (σ : St) : Option (Int32 × St) :=
  bd (f_X5_makeJoining σ) fun _ σ2 =>
  f_X5_barred_8 FU a1 (0 : Int32) (0 : Int32) σ2
set_option maxRecDepth 100000 in
set_option maxHeartbeats 4000000 in
theorem c_X5_barred {g : Geo} {a1 : Int32} {σ : St} {r : Int32} {σ' : St} (h : f_X5_barred a1 σ = some (r, σ')) : Ct g yX5_barred cX5_barred 4 (some .int) rm_X5_barred [.ref (g.1 0), .int a1] σ (some (.int r)) σ' := by
  refine ct_of (own := RX5) (by decide) rfl (Nat.le_of_ble_eq_true rfl) (fun x C => ?_) ⟨rfl, rfl⟩
  show V g x _ 4 σ [(0, .ref (g.1 0)), (1, .int a1)] [] 0
  unfold f_X5_barred at h
  refine v_aload_n C dX5_barred_0 rfl 0 rfl ?_
  obtain ⟨v1, σ2, cσ2, h⟩ := bd_some h
  refine callVv C (c_X5_makeJoining cσ2) km_X5_makeJoining kv_X5_makeJoining rfl ml_RX5_240 rfl rfl (by decide) (Nat.le_of_ble_eq_true rfl) dX5_barred_1 ?_
  refine v_iconst C (v := (0 : Int32)) dX5_barred_4 (by decide) ?_
  refine v_istore_n C (lv' := [(2, .int _), (0, .ref _), (1, .int _)]) dX5_barred_5 rfl (by decide) rfl ?_
  refine v_iconst C (v := (0 : Int32)) dX5_barred_6 (by decide) ?_
  refine v_istore_n C (lv' := [(3, .int _), (2, .int _), (0, .ref _), (1, .int _)]) dX5_barred_7 rfl (by decide) rfl ?_
  refine V.sub (lv' := [(0, .ref _), (1, .int _), (2, .int _), (3, .int _)]) [2, 3, 1, 0] rfl ?_
  exact b_X5_barred_8 C FU _ _ _  _ _ _ h
theorem dX6_in_0 : decode cX6_in 0 = .ok (.lload_n 0, 1) := by decide +kernel
theorem dX6_in_1 : decode cX6_in 1 = .ok (.lload_n 2, 1) := by decide +kernel
theorem dX6_in_2 : decode cX6_in 2 = .ok (.lcmp, 1) := by decide +kernel
theorem dX6_in_3 : decode cX6_in 3 = .ok (.ifCond .lt 14, 3) := by decide +kernel
theorem dX6_in_6 : decode cX6_in 6 = .ok (.lload_n 0, 1) := by decide +kernel
theorem dX6_in_7 : decode cX6_in 7 = .ok (.lload 4, 2) := by decide +kernel
theorem dX6_in_9 : decode cX6_in 9 = .ok (.lcmp, 1) := by decide +kernel
theorem dX6_in_10 : decode cX6_in 10 = .ok (.ifCond .gt 7, 3) := by decide +kernel
theorem dX6_in_13 : decode cX6_in 13 = .ok (.iconst 1, 1) := by decide +kernel
theorem dX6_in_14 : decode cX6_in 14 = .ok (.goto 4, 3) := by decide +kernel
theorem dX6_in_17 : decode cX6_in 17 = .ok (.iconst 0, 1) := by decide +kernel
theorem dX6_in_18 : decode cX6_in 18 = .ok (.ireturn, 1) := by decide +kernel
def f_X6_in_18 (s0 : Int32) (σ : St) : Option (Int32 × St) :=
  gz s0 <|
  some (s0, σ)
set_option maxRecDepth 100000 in
set_option maxHeartbeats 4000000 in
theorem b_X6_in_18 {g : Geo} {x : Cx} (C : Ok g x cX6_in RX6 6 (some .boolean) rm_X6_in) : ∀ (s0 : Int32) (σ : St) (r : Int32) (σ' : St), f_X6_in_18 s0 σ = some (r, σ') → V g x (qm g x (some (.int r)) σ') 6 σ [] [.int s0] 18 := by
  intro s0 σ r σ' h
  unfold f_X6_in_18 at h
  obtain ⟨hz, h⟩ := gz_some h
  cases h
  exact v_zret C hz dX6_in_18
def f_X6_in_17 (σ : St) : Option (Int32 × St) :=
  f_X6_in_18 (0 : Int32) σ
set_option maxRecDepth 100000 in
set_option maxHeartbeats 4000000 in
theorem b_X6_in_17 {g : Geo} {x : Cx} (C : Ok g x cX6_in RX6 6 (some .boolean) rm_X6_in) : ∀ (σ : St) (r : Int32) (σ' : St), f_X6_in_17 σ = some (r, σ') → V g x (qm g x (some (.int r)) σ') 6 σ [] [] 17 := by
  intro σ r σ' h
  unfold f_X6_in_17 at h
  refine v_iconst C (v := (0 : Int32)) dX6_in_17 (by decide) ?_
  refine V.sub (lv' := []) [] rfl ?_
  exact b_X6_in_18 C _  _ _ _ h
def f_X6_in (a1 : Int64) (a2 : Int64) (a3 : Int64) (σ : St) : Option (Int32 × St) :=
  if a1 < a2 then
    f_X6_in_17 σ
  else
    if a3 < a1 then
      f_X6_in_17 σ
    else
      f_X6_in_18 (1 : Int32) σ
set_option maxRecDepth 100000 in
set_option maxHeartbeats 4000000 in
theorem c_X6_in {g : Geo} {a1 : Int64} {a2 : Int64} {a3 : Int64} {σ : St} {r : Int32} {σ' : St} (h : f_X6_in a1 a2 a3 σ = some (r, σ')) : Ct g yX6_in cX6_in 6 (some .boolean) rm_X6_in [.long a1, .long a2, .long a3] σ (some (.int r)) σ' := by
  refine ct_of (own := RX6) (by decide) rfl (Nat.le_of_ble_eq_true rfl) (fun x C => ?_) ⟨rfl, rfl⟩
  show V g x _ 6 σ [(0, .long a1), (2, .long a2), (4, .long a3)] [] 0
  unfold f_X6_in at h
  refine v_lload_n C dX6_in_0 rfl 0 rfl ?_
  refine v_lload_n C dX6_in_1 rfl 1 rfl ?_
  refine v_lcmp_lt C (tgt := 17) dX6_in_2 dX6_in_3 (by decide) (fun q2 => ?_) (fun q2 => ?_)
  · rw [if_pos q2] at h
    refine V.sub (lv' := []) [] rfl ?_
    exact b_X6_in_17 C  _ _ _ h
  · rw [if_neg q2] at h
    refine v_lload_n C dX6_in_6 rfl 0 rfl ?_
    refine v_lload C dX6_in_7 2 rfl ?_
    refine v_lcmp_gt C (tgt := 17) dX6_in_9 dX6_in_10 (by decide) (fun q1 => ?_) (fun q1 => ?_)
    · rw [if_pos q1] at h
      refine V.sub (lv' := []) [] rfl ?_
      exact b_X6_in_17 C  _ _ _ h
    · rw [if_neg q1] at h
      refine v_iconst C (v := (1 : Int32)) dX6_in_13 (by decide) ?_
      refine v_goto C (tgt := 18) dX6_in_14 (by decide) ?_
      refine V.sub (lv' := []) [] rfl ?_
      exact b_X6_in_18 C _  _ _ _ h
theorem dX6_empty_0 : decode cX6_empty 0 = .ok (.iconst 0, 1) := by decide +kernel
theorem dX6_empty_1 : decode cX6_empty 1 = .ok (.istore_n 1, 1) := by decide +kernel
theorem dX6_empty_2 : decode cX6_empty 2 = .ok (.iload_n 1, 1) := by decide +kernel
theorem dX6_empty_3 : decode cX6_empty 3 = .ok (.iconst 4, 1) := by decide +kernel
theorem dX6_empty_4 : decode cX6_empty 4 = .ok (.if_icmp .ge 16, 3) := by decide +kernel
theorem dX6_empty_7 : decode cX6_empty 7 = .ok (.aload_n 0, 1) := by decide +kernel
theorem dX6_empty_8 : decode cX6_empty 8 = .ok (.getfield 17, 3) := by decide +kernel
theorem dX6_empty_11 : decode cX6_empty 11 = .ok (.iload_n 1, 1) := by decide +kernel
theorem dX6_empty_12 : decode cX6_empty 12 = .ok (.iconst 0, 1) := by decide +kernel
theorem dX6_empty_13 : decode cX6_empty 13 = .ok (.bastore, 1) := by decide +kernel
theorem dX6_empty_14 : decode cX6_empty 14 = .ok (.iinc 1 1, 3) := by decide +kernel
theorem dX6_empty_17 : decode cX6_empty 17 = .ok (.goto (-15), 3) := by decide +kernel
theorem dX6_empty_20 : decode cX6_empty 20 = .ok (.return_, 1) := by decide +kernel
def f_X6_empty_2 : Nat → Int32 → St → Option (Unit × St)
  | 0, _, _ => none
  | n + 1, x1, σ =>
    if (4 : Int32) ≤ x1 then
      some ((), σ)
    else
      wrZ σ 29 x1 (0 : Int32) fun σ1 =>
      f_X6_empty_2 n (x1 + 1) σ1
set_option maxRecDepth 100000 in
set_option maxHeartbeats 4000000 in
theorem b_X6_empty_2 {g : Geo} {x : Cx} (C : Ok g x cX6_empty RX6 2 none rm_X6_empty) : ∀ (n : Nat) (x1 : Int32) (σ : St) (r : Unit) (σ' : St), f_X6_empty_2 n x1 σ = some (r, σ') → V g x (qm g x none σ') 2 σ [(0, .ref (g.1 26)), (1, .int x1)] [] 2 := by
  intro n
  induction n with
  | zero =>
    intro x1 σ r σ' h
    rw [f_X6_empty_2] at h
    cases h
  | succ n ih =>
    intro x1 σ r σ' h
    rw [f_X6_empty_2] at h
    refine v_iload_n C dX6_empty_2 rfl 1 rfl ?_
    refine v_iconst C (v := (4 : Int32)) dX6_empty_3 (by decide) ?_
    refine v_icmp_ge C (tgt := 20) dX6_empty_4 (by decide) (fun q2 => ?_) (fun q2 => ?_)
    · rw [if_pos q2] at h
      cases h
      exact v_vret C dX6_empty_20
    · rw [if_neg q2] at h
      refine v_aload_n C dX6_empty_7 rfl 0 rfl ?_
      refine v_getR C (p' := 29) fl_RX6_17 rfl rfl dX6_empty_8 ?_
      refine v_iload_n C dX6_empty_11 rfl 1 rfl ?_
      refine v_iconst C (v := (0 : Int32)) dX6_empty_12 (by decide) ?_
      obtain ⟨nσ1, σ1, eσ1, h⟩ := wrZ_ex h
      refine x_zast C rfl nσ1 eσ1 dX6_empty_13 ?_
      refine v_iinc C (v := (x1 + 1)) (lv' := [(1, .int _), (0, .ref _)]) dX6_empty_14 1 rfl rfl (by decide) rfl ?_
      refine v_goto C (tgt := 2) dX6_empty_17 (by decide) ?_
      refine V.sub (lv' := [(0, .ref _), (1, .int _)]) [1, 0] rfl ?_
      exact ih _  _ _ _ h
def f_X6_empty (σ : St) : Option (Unit × St) :=
  f_X6_empty_2 FU (0 : Int32) σ
set_option maxRecDepth 100000 in
set_option maxHeartbeats 4000000 in
theorem c_X6_empty {g : Geo} {σ : St} {r : Unit} {σ' : St} (h : f_X6_empty σ = some (r, σ')) : Ct g yX6_empty cX6_empty 2 none rm_X6_empty [.ref (g.1 26)] σ none σ' := by
  refine ct_of (own := RX6) (by decide) rfl (Nat.le_of_ble_eq_true rfl) (fun x C => ?_) ⟨rfl, rfl⟩
  show V g x _ 2 σ [(0, .ref (g.1 26))] [] 0
  unfold f_X6_empty at h
  refine v_iconst C (v := (0 : Int32)) dX6_empty_0 (by decide) ?_
  refine v_istore_n C (lv' := [(1, .int _), (0, .ref _)]) dX6_empty_1 rfl (by decide) rfl ?_
  refine V.sub (lv' := [(0, .ref _), (1, .int _)]) [1, 0] rfl ?_
  exact b_X6_empty_2 C FU _  _ _ _ h
theorem dX6_layGround_0 : decode cX6_layGround 0 = .ok (.aload_n 0, 1) := by decide +kernel
theorem dX6_layGround_1 : decode cX6_layGround 1 = .ok (.iload_n 1, 1) := by decide +kernel
theorem dX6_layGround_2 : decode cX6_layGround 2 = .ok (.putfield 70, 3) := by decide +kernel
theorem dX6_layGround_5 : decode cX6_layGround 5 = .ok (.aload_n 0, 1) := by decide +kernel
theorem dX6_layGround_6 : decode cX6_layGround 6 = .ok (.iload_n 2, 1) := by decide +kernel
theorem dX6_layGround_7 : decode cX6_layGround 7 = .ok (.putfield 74, 3) := by decide +kernel
theorem dX6_layGround_10 : decode cX6_layGround 10 = .ok (.iconst 0, 1) := by decide +kernel
theorem dX6_layGround_11 : decode cX6_layGround 11 = .ok (.istore_n 3, 1) := by decide +kernel
theorem dX6_layGround_12 : decode cX6_layGround 12 = .ok (.iload_n 3, 1) := by decide +kernel
theorem dX6_layGround_13 : decode cX6_layGround 13 = .ok (.sipush 128, 3) := by decide +kernel
theorem dX6_layGround_16 : decode cX6_layGround 16 = .ok (.if_icmp .ge 29, 3) := by decide +kernel
theorem dX6_layGround_19 : decode cX6_layGround 19 = .ok (.aload_n 0, 1) := by decide +kernel
theorem dX6_layGround_20 : decode cX6_layGround 20 = .ok (.getfield 7, 3) := by decide +kernel
theorem dX6_layGround_23 : decode cX6_layGround 23 = .ok (.iload_n 3, 1) := by decide +kernel
theorem dX6_layGround_24 : decode cX6_layGround 24 = .ok (.iload_n 3, 1) := by decide +kernel
theorem dX6_layGround_25 : decode cX6_layGround 25 = .ok (.iconst 2, 1) := by decide +kernel
theorem dX6_layGround_26 : decode cX6_layGround 26 = .ok (.iload_n 1, 1) := by decide +kernel
theorem dX6_layGround_27 : decode cX6_layGround 27 = .ok (.imul, 1) := by decide +kernel
theorem dX6_layGround_28 : decode cX6_layGround 28 = .ok (.iload_n 2, 1) := by decide +kernel
theorem dX6_layGround_29 : decode cX6_layGround 29 = .ok (.imul, 1) := by decide +kernel
theorem dX6_layGround_30 : decode cX6_layGround 30 = .ok (.if_icmp .ge 7, 3) := by decide +kernel
theorem dX6_layGround_33 : decode cX6_layGround 33 = .ok (.iconst 1, 1) := by decide +kernel
theorem dX6_layGround_34 : decode cX6_layGround 34 = .ok (.goto 4, 3) := by decide +kernel
theorem dX6_layGround_37 : decode cX6_layGround 37 = .ok (.iconst 0, 1) := by decide +kernel
theorem dX6_layGround_38 : decode cX6_layGround 38 = .ok (.bastore, 1) := by decide +kernel
theorem dX6_layGround_39 : decode cX6_layGround 39 = .ok (.iinc 3 1, 3) := by decide +kernel
theorem dX6_layGround_42 : decode cX6_layGround 42 = .ok (.goto (-30), 3) := by decide +kernel
theorem dX6_layGround_45 : decode cX6_layGround 45 = .ok (.iconst 0, 1) := by decide +kernel
theorem dX6_layGround_46 : decode cX6_layGround 46 = .ok (.istore_n 3, 1) := by decide +kernel
theorem dX6_layGround_47 : decode cX6_layGround 47 = .ok (.iload_n 3, 1) := by decide +kernel
theorem dX6_layGround_48 : decode cX6_layGround 48 = .ok (.sipush 192, 3) := by decide +kernel
theorem dX6_layGround_51 : decode cX6_layGround 51 = .ok (.if_icmp .ge 16, 3) := by decide +kernel
theorem dX6_layGround_54 : decode cX6_layGround 54 = .ok (.aload_n 0, 1) := by decide +kernel
theorem dX6_layGround_55 : decode cX6_layGround 55 = .ok (.getfield 13, 3) := by decide +kernel
theorem dX6_layGround_58 : decode cX6_layGround 58 = .ok (.iload_n 3, 1) := by decide +kernel
theorem dX6_layGround_59 : decode cX6_layGround 59 = .ok (.iconst 0, 1) := by decide +kernel
theorem dX6_layGround_60 : decode cX6_layGround 60 = .ok (.iastore, 1) := by decide +kernel
theorem dX6_layGround_61 : decode cX6_layGround 61 = .ok (.iinc 3 1, 3) := by decide +kernel
theorem dX6_layGround_64 : decode cX6_layGround 64 = .ok (.goto (-17), 3) := by decide +kernel
theorem dX6_layGround_67 : decode cX6_layGround 67 = .ok (.aload_n 0, 1) := by decide +kernel
theorem dX6_layGround_68 : decode cX6_layGround 68 = .ok (.invokevirtual 77, 3) := by decide +kernel
theorem dX6_layGround_71 : decode cX6_layGround 71 = .ok (.return_, 1) := by decide +kernel
def f_X6_layGround_47 : Nat → Int32 → St → Option (Unit × St)
  | 0, _, _ => none
  | n + 1, x3, σ =>
    if (192 : Int32) ≤ x3 then
      bd (f_X6_empty σ) fun _ σ2 =>
      some ((), σ2)
    else
      wrI σ 28 x3 (0 : Int32) fun σ3 =>
      f_X6_layGround_47 n (x3 + 1) σ3
set_option maxRecDepth 100000 in
set_option maxHeartbeats 4000000 in
theorem b_X6_layGround_47 {g : Geo} {x : Cx} (C : Ok g x cX6_layGround RX6 4 none rm_X6_layGround) : ∀ (n : Nat) (x3 : Int32) (σ : St) (r : Unit) (σ' : St), f_X6_layGround_47 n x3 σ = some (r, σ') → V g x (qm g x none σ') 4 σ [(0, .ref (g.1 26)), (3, .int x3)] [] 47 := by
  intro n
  induction n with
  | zero =>
    intro x3 σ r σ' h
    rw [f_X6_layGround_47] at h
    cases h
  | succ n ih =>
    intro x3 σ r σ' h
    rw [f_X6_layGround_47] at h
    refine v_iload_n C dX6_layGround_47 rfl 1 rfl ?_
    refine v_sipush C (v := (192 : Int32)) dX6_layGround_48 (by decide) ?_
    refine v_icmp_ge C (tgt := 67) dX6_layGround_51 (by decide) (fun q4 => ?_) (fun q4 => ?_)
    · rw [if_pos q4] at h
      refine v_aload_n C dX6_layGround_67 rfl 0 rfl ?_
      obtain ⟨v1, σ2, cσ2, h⟩ := bd_some h
      refine callVv C (c_X6_empty cσ2) km_X6_empty kv_X6_empty rfl ml_RX6_77 rfl rfl (by decide) (Nat.le_of_ble_eq_true rfl) dX6_layGround_68 ?_
      cases h
      exact v_vret C dX6_layGround_71
    · rw [if_neg q4] at h
      refine v_aload_n C dX6_layGround_54 rfl 0 rfl ?_
      refine v_getR C (p' := 28) fl_RX6_13 rfl rfl dX6_layGround_55 ?_
      refine v_iload_n C dX6_layGround_58 rfl 1 rfl ?_
      refine v_iconst C (v := (0 : Int32)) dX6_layGround_59 (by decide) ?_
      obtain ⟨nσ3, σ3, eσ3, h⟩ := wrI_ex h
      refine x_iast C rfl nσ3 eσ3 dX6_layGround_60 ?_
      refine v_iinc C (v := (x3 + 1)) (lv' := [(3, .int _), (0, .ref _)]) dX6_layGround_61 1 rfl rfl (by decide) rfl ?_
      refine v_goto C (tgt := 47) dX6_layGround_64 (by decide) ?_
      refine V.sub (lv' := [(0, .ref _), (3, .int _)]) [1, 0] rfl ?_
      exact ih _  _ _ _ h
def f_X6_layGround_38 (k12 : Int32 → Int32 → Int32 → St → Option (Unit × St)) (x1 : Int32) (x2 : Int32) (x3 : Int32) (s1 : Int32) (s2 : Int32) (σ : St) : Option (Unit × St) :=
  wrZ σ 27 s1 s2 fun σ1 =>
  k12 x1 x2 (x3 + 1) σ1
set_option maxRecDepth 100000 in
set_option maxHeartbeats 4000000 in
theorem b_X6_layGround_38 {g : Geo} {x : Cx} (C : Ok g x cX6_layGround RX6 4 none rm_X6_layGround) (k12 : Int32 → Int32 → Int32 → St → Option (Unit × St)) (hk12 : ∀ (x1 : Int32) (x2 : Int32) (x3 : Int32) (τ : St) (r : Unit) (τ' : St), k12 x1 x2 x3 τ = some (r, τ') → V g x (qm g x none τ') 4 τ [(0, .ref (g.1 26)), (1, .int x1), (2, .int x2), (3, .int x3)] [] 12) : ∀ (x1 : Int32) (x2 : Int32) (x3 : Int32) (s1 : Int32) (s2 : Int32) (σ : St) (r : Unit) (σ' : St), f_X6_layGround_38 k12 x1 x2 x3 s1 s2 σ = some (r, σ') → V g x (qm g x none σ') 4 σ [(0, .ref (g.1 26)), (1, .int x1), (2, .int x2), (3, .int x3)] [.int s2, .int s1, .ref (g.1 27)] 38 := by
  intro x1 x2 x3 s1 s2 σ r σ' h
  unfold f_X6_layGround_38 at h
  obtain ⟨nσ1, σ1, eσ1, h⟩ := wrZ_ex h
  refine x_zast C rfl nσ1 eσ1 dX6_layGround_38 ?_
  refine v_iinc C (v := (x3 + 1)) (lv' := [(3, .int _), (0, .ref _), (1, .int _), (2, .int _)]) dX6_layGround_39 3 rfl rfl (by decide) rfl ?_
  refine v_goto C (tgt := 12) dX6_layGround_42 (by decide) ?_
  refine V.sub (lv' := [(0, .ref _), (1, .int _), (2, .int _), (3, .int _)]) [1, 2, 3, 0] rfl ?_
  exact hk12 _ _ _  _ _ _ h
def f_X6_layGround_12 : Nat → Int32 → Int32 → Int32 → St → Option (Unit × St)
  | 0, _, _, _, _ => none
  | n + 1, x1, x2, x3, σ =>
    if (128 : Int32) ≤ x3 then
      f_X6_layGround_47 FU (0 : Int32) σ
    else
      if (((2 : Int32) * x1) * x2) ≤ x3 then
        f_X6_layGround_38 (f_X6_layGround_12 n) x1 x2 x3 x3 (0 : Int32) σ
      else
        f_X6_layGround_38 (f_X6_layGround_12 n) x1 x2 x3 x3 (1 : Int32) σ
set_option maxRecDepth 100000 in
set_option maxHeartbeats 4000000 in
theorem b_X6_layGround_12 {g : Geo} {x : Cx} (C : Ok g x cX6_layGround RX6 4 none rm_X6_layGround) : ∀ (n : Nat) (x1 : Int32) (x2 : Int32) (x3 : Int32) (σ : St) (r : Unit) (σ' : St), f_X6_layGround_12 n x1 x2 x3 σ = some (r, σ') → V g x (qm g x none σ') 4 σ [(0, .ref (g.1 26)), (1, .int x1), (2, .int x2), (3, .int x3)] [] 12 := by
  intro n
  induction n with
  | zero =>
    intro x1 x2 x3 σ r σ' h
    rw [f_X6_layGround_12] at h
    cases h
  | succ n ih =>
    intro x1 x2 x3 σ r σ' h
    rw [f_X6_layGround_12] at h
    refine v_iload_n C dX6_layGround_12 rfl 3 rfl ?_
    refine v_sipush C (v := (128 : Int32)) dX6_layGround_13 (by decide) ?_
    refine v_icmp_ge C (tgt := 45) dX6_layGround_16 (by decide) (fun q2 => ?_) (fun q2 => ?_)
    · rw [if_pos q2] at h
      refine v_iconst C (v := (0 : Int32)) dX6_layGround_45 (by decide) ?_
      refine v_istore_n C (lv' := [(3, .int _), (0, .ref _), (1, .int _), (2, .int _)]) dX6_layGround_46 rfl (by decide) rfl ?_
      refine V.sub (lv' := [(0, .ref _), (3, .int _)]) [1, 0] rfl ?_
      exact b_X6_layGround_47 C FU _  _ _ _ h
    · rw [if_neg q2] at h
      refine v_aload_n C dX6_layGround_19 rfl 0 rfl ?_
      refine v_getR C (p' := 27) fl_RX6_7 rfl rfl dX6_layGround_20 ?_
      refine v_iload_n C dX6_layGround_23 rfl 3 rfl ?_
      refine v_iload_n C dX6_layGround_24 rfl 3 rfl ?_
      refine v_iconst C (v := (2 : Int32)) dX6_layGround_25 (by decide) ?_
      refine v_iload_n C dX6_layGround_26 rfl 1 rfl ?_
      refine v_imul C dX6_layGround_27 ?_
      refine v_iload_n C dX6_layGround_28 rfl 2 rfl ?_
      refine v_imul C dX6_layGround_29 ?_
      refine v_icmp_ge C (tgt := 37) dX6_layGround_30 (by decide) (fun q1 => ?_) (fun q1 => ?_)
      · rw [if_pos q1] at h
        refine v_iconst C (v := (0 : Int32)) dX6_layGround_37 (by decide) ?_
        refine V.sub (lv' := [(0, .ref _), (1, .int _), (2, .int _), (3, .int _)]) [0, 1, 2, 3] rfl ?_
        exact b_X6_layGround_38 C _ ih _ _ _ _ _  _ _ _ h
      · rw [if_neg q1] at h
        refine v_iconst C (v := (1 : Int32)) dX6_layGround_33 (by decide) ?_
        refine v_goto C (tgt := 38) dX6_layGround_34 (by decide) ?_
        refine V.sub (lv' := [(0, .ref _), (1, .int _), (2, .int _), (3, .int _)]) [0, 1, 2, 3] rfl ?_
        exact b_X6_layGround_38 C _ ih _ _ _ _ _  _ _ _ h
def f_X6_layGround (a1 : Int32) (a2 : Int32) (σ : St) : Option (Unit × St) :=
  fI σ 26 0 a1 fun σ1 =>
  fI σ1 26 1 a2 fun σ2 =>
  f_X6_layGround_12 FU a1 a2 (0 : Int32) σ2
set_option maxRecDepth 100000 in
set_option maxHeartbeats 4000000 in
theorem c_X6_layGround {g : Geo} {a1 : Int32} {a2 : Int32} {σ : St} {r : Unit} {σ' : St} (h : f_X6_layGround a1 a2 σ = some (r, σ')) : Ct g yX6_layGround cX6_layGround 4 none rm_X6_layGround [.ref (g.1 26), .int a1, .int a2] σ none σ' := by
  refine ct_of (own := RX6) (by decide) rfl (Nat.le_of_ble_eq_true rfl) (fun x C => ?_) ⟨rfl, rfl⟩
  show V g x _ 4 σ [(0, .ref (g.1 26)), (1, .int a1), (2, .int a2)] [] 0
  unfold f_X6_layGround at h
  refine v_aload_n C dX6_layGround_0 rfl 0 rfl ?_
  refine v_iload_n C dX6_layGround_1 rfl 1 rfl ?_
  obtain ⟨σ1, eσ1, h⟩ := fI_ex h
  refine x_putI C fl_RX6_70 fw_6_0 rfl eσ1 dX6_layGround_2 ?_
  refine v_aload_n C dX6_layGround_5 rfl 0 rfl ?_
  refine v_iload_n C dX6_layGround_6 rfl 2 rfl ?_
  obtain ⟨σ2, eσ2, h⟩ := fI_ex h
  refine x_putI C fl_RX6_74 fw_6_1 rfl eσ2 dX6_layGround_7 ?_
  refine v_iconst C (v := (0 : Int32)) dX6_layGround_10 (by decide) ?_
  refine v_istore_n C (lv' := [(3, .int _), (0, .ref _), (1, .int _), (2, .int _)]) dX6_layGround_11 rfl (by decide) rfl ?_
  refine V.sub (lv' := [(0, .ref _), (1, .int _), (2, .int _), (3, .int _)]) [1, 2, 3, 0] rfl ?_
  exact b_X6_layGround_12 C FU _ _ _  _ _ _ h
theorem dX6_cells_0 : decode cX6_cells 0 = .ok (.aload_n 0, 1) := by decide +kernel
theorem dX6_cells_1 : decode cX6_cells 1 = .ok (.getfield 70, 3) := by decide +kernel
theorem dX6_cells_4 : decode cX6_cells 4 = .ok (.aload_n 0, 1) := by decide +kernel
theorem dX6_cells_5 : decode cX6_cells 5 = .ok (.getfield 74, 3) := by decide +kernel
theorem dX6_cells_8 : decode cX6_cells 8 = .ok (.imul, 1) := by decide +kernel
theorem dX6_cells_9 : decode cX6_cells 9 = .ok (.ireturn, 1) := by decide +kernel
def f_X6_cells (σ : St) : Option (Int32 × St) :=
  some (((gi σ 26 0) * (gi σ 26 1)), σ)
set_option maxRecDepth 100000 in
set_option maxHeartbeats 4000000 in
theorem c_X6_cells {g : Geo} {σ : St} {r : Int32} {σ' : St} (h : f_X6_cells σ = some (r, σ')) : Ct g yX6_cells cX6_cells 1 (some .int) rm_X6_cells [.ref (g.1 26)] σ (some (.int r)) σ' := by
  refine ct_of (own := RX6) (by decide) rfl (Nat.le_of_ble_eq_true rfl) (fun x C => ?_) ⟨rfl, rfl⟩
  show V g x _ 1 σ [(0, .ref (g.1 26))] [] 0
  unfold f_X6_cells at h
  refine v_aload_n C dX6_cells_0 rfl 0 rfl ?_
  refine v_getI C fl_RX6_70 rfl dX6_cells_1 ?_
  refine v_aload_n C dX6_cells_4 rfl 0 rfl ?_
  refine v_getI C fl_RX6_74 rfl dX6_cells_5 ?_
  refine v_imul C dX6_cells_8 ?_
  cases h
  exact v_iret C dX6_cells_9
theorem dX6_isCell_0 : decode cX6_isCell 0 = .ok (.iload_n 1, 1) := by decide +kernel
theorem dX6_isCell_1 : decode cX6_isCell 1 = .ok (.i2l, 1) := by decide +kernel
theorem dX6_isCell_2 : decode cX6_isCell 2 = .ok (.lconst 0, 1) := by decide +kernel
theorem dX6_isCell_3 : decode cX6_isCell 3 = .ok (.aload_n 0, 1) := by decide +kernel
theorem dX6_isCell_4 : decode cX6_isCell 4 = .ok (.invokevirtual 80, 3) := by decide +kernel
theorem dX6_isCell_7 : decode cX6_isCell 7 = .ok (.iconst 1, 1) := by decide +kernel
theorem dX6_isCell_8 : decode cX6_isCell 8 = .ok (.isub, 1) := by decide +kernel
theorem dX6_isCell_9 : decode cX6_isCell 9 = .ok (.i2l, 1) := by decide +kernel
theorem dX6_isCell_10 : decode cX6_isCell 10 = .ok (.invokestatic 84, 3) := by decide +kernel
theorem dX6_isCell_13 : decode cX6_isCell 13 = .ok (.ireturn, 1) := by decide +kernel
def f_X6_isCell (a1 : Int32) (σ : St) : Option (Int32 × St) :=
  bd (f_X6_cells σ) fun v1 σ2 =>
  bd (f_X6_in ((a1).toInt64) (0 : Int64) (((v1 - (1 : Int32))).toInt64) σ2) fun v3 σ4 =>
  gz v3 <|
  some (v3, σ4)
set_option maxRecDepth 100000 in
set_option maxHeartbeats 4000000 in
theorem c_X6_isCell {g : Geo} {a1 : Int32} {σ : St} {r : Int32} {σ' : St} (h : f_X6_isCell a1 σ = some (r, σ')) : Ct g yX6_isCell cX6_isCell 2 (some .boolean) rm_X6_isCell [.ref (g.1 26), .int a1] σ (some (.int r)) σ' := by
  refine ct_of (own := RX6) (by decide) rfl (Nat.le_of_ble_eq_true rfl) (fun x C => ?_) ⟨rfl, rfl⟩
  show V g x _ 2 σ [(0, .ref (g.1 26)), (1, .int a1)] [] 0
  unfold f_X6_isCell at h
  refine v_iload_n C dX6_isCell_0 rfl 1 rfl ?_
  refine v_i2l C dX6_isCell_1 ?_
  refine v_lconst C (v := (0 : Int64)) dX6_isCell_2 (by decide) ?_
  refine v_aload_n C dX6_isCell_3 rfl 0 rfl ?_
  obtain ⟨v1, σ2, cσ2, h⟩ := bd_some h
  refine callVi C (c_X6_cells cσ2) km_X6_cells kv_X6_cells rfl ml_RX6_80 rfl rfl (by decide) (Nat.le_of_ble_eq_true rfl) dX6_isCell_4 ?_
  refine v_iconst C (v := (1 : Int32)) dX6_isCell_7 (by decide) ?_
  refine v_isub C dX6_isCell_8 ?_
  refine v_i2l C dX6_isCell_9 ?_
  obtain ⟨v3, σ4, cσ4, h⟩ := bd_some h
  refine callSi C (c_X6_in cσ4) km_X6_in ks_X6_in ml_RX6_84 rfl rfl (by decide) (Nat.le_of_ble_eq_true rfl) dX6_isCell_10 ?_
  obtain ⟨hz, h⟩ := gz_some h
  cases h
  exact v_zret C hz dX6_isCell_13
theorem dX6_isUp_0 : decode cX6_isUp 0 = .ok (.aload_n 0, 1) := by decide +kernel
theorem dX6_isUp_1 : decode cX6_isUp 1 = .ok (.getfield 7, 3) := by decide +kernel
theorem dX6_isUp_4 : decode cX6_isUp 4 = .ok (.iconst 2, 1) := by decide +kernel
theorem dX6_isUp_5 : decode cX6_isUp 5 = .ok (.iload_n 1, 1) := by decide +kernel
theorem dX6_isUp_6 : decode cX6_isUp 6 = .ok (.imul, 1) := by decide +kernel
theorem dX6_isUp_7 : decode cX6_isUp 7 = .ok (.baload, 1) := by decide +kernel
theorem dX6_isUp_8 : decode cX6_isUp 8 = .ok (.ireturn, 1) := by decide +kernel
def f_X6_isUp (a1 : Int32) (σ : St) : Option (Int32 × St) :=
  rdI σ 27 ((2 : Int32) * a1) fun v1 =>
  gz v1 <|
  some (v1, σ)
set_option maxRecDepth 100000 in
set_option maxHeartbeats 4000000 in
theorem c_X6_isUp {g : Geo} {a1 : Int32} {σ : St} {r : Int32} {σ' : St} (h : f_X6_isUp a1 σ = some (r, σ')) : Ct g yX6_isUp cX6_isUp 2 (some .boolean) rm_X6_isUp [.ref (g.1 26), .int a1] σ (some (.int r)) σ' := by
  refine ct_of (own := RX6) (by decide) rfl (Nat.le_of_ble_eq_true rfl) (fun x C => ?_) ⟨rfl, rfl⟩
  show V g x _ 2 σ [(0, .ref (g.1 26)), (1, .int a1)] [] 0
  unfold f_X6_isUp at h
  refine v_aload_n C dX6_isUp_0 rfl 0 rfl ?_
  refine v_getR C (p' := 27) fl_RX6_7 rfl rfl dX6_isUp_1 ?_
  refine v_iconst C (v := (2 : Int32)) dX6_isUp_4 (by decide) ?_
  refine v_iload_n C dX6_isUp_5 rfl 1 rfl ?_
  refine v_imul C dX6_isUp_6 ?_
  obtain ⟨nv1, v1, ev1, h⟩ := rdI_ex h
  refine x_zald C rfl nv1 ev1 dX6_isUp_7 ?_
  obtain ⟨hz, h⟩ := gz_some h
  cases h
  exact v_zret C hz dX6_isUp_8
theorem dX6_isDown_0 : decode cX6_isDown 0 = .ok (.aload_n 0, 1) := by decide +kernel
theorem dX6_isDown_1 : decode cX6_isDown 1 = .ok (.getfield 7, 3) := by decide +kernel
theorem dX6_isDown_4 : decode cX6_isDown 4 = .ok (.iconst 2, 1) := by decide +kernel
theorem dX6_isDown_5 : decode cX6_isDown 5 = .ok (.iload_n 1, 1) := by decide +kernel
theorem dX6_isDown_6 : decode cX6_isDown 6 = .ok (.imul, 1) := by decide +kernel
theorem dX6_isDown_7 : decode cX6_isDown 7 = .ok (.iconst 1, 1) := by decide +kernel
theorem dX6_isDown_8 : decode cX6_isDown 8 = .ok (.iadd, 1) := by decide +kernel
theorem dX6_isDown_9 : decode cX6_isDown 9 = .ok (.baload, 1) := by decide +kernel
theorem dX6_isDown_10 : decode cX6_isDown 10 = .ok (.ireturn, 1) := by decide +kernel
def f_X6_isDown (a1 : Int32) (σ : St) : Option (Int32 × St) :=
  rdI σ 27 (((2 : Int32) * a1) + (1 : Int32)) fun v1 =>
  gz v1 <|
  some (v1, σ)
set_option maxRecDepth 100000 in
set_option maxHeartbeats 4000000 in
theorem c_X6_isDown {g : Geo} {a1 : Int32} {σ : St} {r : Int32} {σ' : St} (h : f_X6_isDown a1 σ = some (r, σ')) : Ct g yX6_isDown cX6_isDown 2 (some .boolean) rm_X6_isDown [.ref (g.1 26), .int a1] σ (some (.int r)) σ' := by
  refine ct_of (own := RX6) (by decide) rfl (Nat.le_of_ble_eq_true rfl) (fun x C => ?_) ⟨rfl, rfl⟩
  show V g x _ 2 σ [(0, .ref (g.1 26)), (1, .int a1)] [] 0
  unfold f_X6_isDown at h
  refine v_aload_n C dX6_isDown_0 rfl 0 rfl ?_
  refine v_getR C (p' := 27) fl_RX6_7 rfl rfl dX6_isDown_1 ?_
  refine v_iconst C (v := (2 : Int32)) dX6_isDown_4 (by decide) ?_
  refine v_iload_n C dX6_isDown_5 rfl 1 rfl ?_
  refine v_imul C dX6_isDown_6 ?_
  refine v_iconst C (v := (1 : Int32)) dX6_isDown_7 (by decide) ?_
  refine v_iadd C dX6_isDown_8 ?_
  obtain ⟨nv1, v1, ev1, h⟩ := rdI_ex h
  refine x_zald C rfl nv1 ev1 dX6_isDown_9 ?_
  obtain ⟨hz, h⟩ := gz_some h
  cases h
  exact v_zret C hz dX6_isDown_10
theorem dX6_ground_0 : decode cX6_ground 0 = .ok (.iload_n 1, 1) := by decide +kernel
theorem dX6_ground_1 : decode cX6_ground 1 = .ok (.i2l, 1) := by decide +kernel
theorem dX6_ground_2 : decode cX6_ground 2 = .ok (.lconst 1, 1) := by decide +kernel
theorem dX6_ground_3 : decode cX6_ground 3 = .ok (.ldc2_w 88, 3) := by decide +kernel
theorem dX6_ground_6 : decode cX6_ground 6 = .ok (.invokestatic 84, 3) := by decide +kernel
theorem dX6_ground_9 : decode cX6_ground 9 = .ok (.ifCond .eq 15, 3) := by decide +kernel
theorem dX6_ground_12 : decode cX6_ground 12 = .ok (.iload_n 2, 1) := by decide +kernel
theorem dX6_ground_13 : decode cX6_ground 13 = .ok (.i2l, 1) := by decide +kernel
theorem dX6_ground_14 : decode cX6_ground 14 = .ok (.lconst 1, 1) := by decide +kernel
theorem dX6_ground_15 : decode cX6_ground 15 = .ok (.ldc2_w 88, 3) := by decide +kernel
theorem dX6_ground_18 : decode cX6_ground 18 = .ok (.invokestatic 84, 3) := by decide +kernel
theorem dX6_ground_21 : decode cX6_ground 21 = .ok (.ifCond .ne 6, 3) := by decide +kernel
theorem dX6_ground_24 : decode cX6_ground 24 = .ok (.ldc 90, 2) := by decide +kernel
theorem dX6_ground_26 : decode cX6_ground 26 = .ok (.ireturn, 1) := by decide +kernel
theorem dX6_ground_27 : decode cX6_ground 27 = .ok (.aload_n 0, 1) := by decide +kernel
theorem dX6_ground_28 : decode cX6_ground 28 = .ok (.iload_n 1, 1) := by decide +kernel
theorem dX6_ground_29 : decode cX6_ground 29 = .ok (.iload_n 2, 1) := by decide +kernel
theorem dX6_ground_30 : decode cX6_ground 30 = .ok (.invokevirtual 66, 3) := by decide +kernel
theorem dX6_ground_33 : decode cX6_ground 33 = .ok (.iload_n 1, 1) := by decide +kernel
theorem dX6_ground_34 : decode cX6_ground 34 = .ok (.iload_n 2, 1) := by decide +kernel
theorem dX6_ground_35 : decode cX6_ground 35 = .ok (.imul, 1) := by decide +kernel
theorem dX6_ground_36 : decode cX6_ground 36 = .ok (.ireturn, 1) := by decide +kernel
def f_X6_ground_24 (σ : St) : Option (Int32 × St) :=
  some ((-900002 : Int32), σ)
set_option maxRecDepth 100000 in
set_option maxHeartbeats 4000000 in
theorem b_X6_ground_24 {g : Geo} {x : Cx} (C : Ok g x cX6_ground RX6 3 (some .int) rm_X6_ground) : ∀ (σ : St) (r : Int32) (σ' : St), f_X6_ground_24 σ = some (r, σ') → V g x (qm g x (some (.int r)) σ') 3 σ [] [] 24 := by
  intro σ r σ' h
  unfold f_X6_ground_24 at h
  refine v_ldc C (v := (-900002 : Int32)) con_RX6_90 dX6_ground_24 ?_
  cases h
  exact v_iret C dX6_ground_26
def f_X6_ground (a1 : Int32) (a2 : Int32) (σ : St) : Option (Int32 × St) :=
  bd (f_X6_in ((a1).toInt64) (1 : Int64) (8 : Int64) σ) fun v1 σ2 =>
  if v1 = 0 then
    f_X6_ground_24 σ2
  else
    bd (f_X6_in ((a2).toInt64) (1 : Int64) (8 : Int64) σ2) fun v3 σ4 =>
    if v3 = 0 then
      f_X6_ground_24 σ4
    else
      bd (f_X6_layGround a1 a2 σ4) fun _ σ6 =>
      some ((a1 * a2), σ6)
set_option maxRecDepth 100000 in
set_option maxHeartbeats 4000000 in
theorem c_X6_ground {g : Geo} {a1 : Int32} {a2 : Int32} {σ : St} {r : Int32} {σ' : St} (h : f_X6_ground a1 a2 σ = some (r, σ')) : Ct g yX6_ground cX6_ground 3 (some .int) rm_X6_ground [.ref (g.1 26), .int a1, .int a2] σ (some (.int r)) σ' := by
  refine ct_of (own := RX6) (by decide) rfl (Nat.le_of_ble_eq_true rfl) (fun x C => ?_) ⟨rfl, rfl⟩
  show V g x _ 3 σ [(0, .ref (g.1 26)), (1, .int a1), (2, .int a2)] [] 0
  unfold f_X6_ground at h
  refine v_iload_n C dX6_ground_0 rfl 1 rfl ?_
  refine v_i2l C dX6_ground_1 ?_
  refine v_lconst C (v := (1 : Int64)) dX6_ground_2 (by decide) ?_
  refine v_ldc2_w C (v := (8 : Int64)) conl_RX6_88 dX6_ground_3 ?_
  obtain ⟨v1, σ2, cσ2, h⟩ := bd_some h
  refine callSi C (c_X6_in cσ2) km_X6_in ks_X6_in ml_RX6_84 rfl rfl (by decide) (Nat.le_of_ble_eq_true rfl) dX6_ground_6 ?_
  refine v_if_eq C (tgt := 24) dX6_ground_9 (by decide) (fun q8 => ?_) (fun q8 => ?_)
  · rw [if_pos q8] at h
    refine V.sub (lv' := []) [] rfl ?_
    exact b_X6_ground_24 C  _ _ _ h
  · rw [if_neg q8] at h
    refine v_iload_n C dX6_ground_12 rfl 2 rfl ?_
    refine v_i2l C dX6_ground_13 ?_
    refine v_lconst C (v := (1 : Int64)) dX6_ground_14 (by decide) ?_
    refine v_ldc2_w C (v := (8 : Int64)) conl_RX6_88 dX6_ground_15 ?_
    obtain ⟨v3, σ4, cσ4, h⟩ := bd_some h
    refine callSi C (c_X6_in cσ4) km_X6_in ks_X6_in ml_RX6_84 rfl rfl (by decide) (Nat.le_of_ble_eq_true rfl) dX6_ground_18 ?_
    refine v_if_ne C (tgt := 27) dX6_ground_21 (by decide) (fun q7 => ?_) (fun q7 => ?_)
    · rw [if_neg q7] at h
      refine v_aload_n C dX6_ground_27 rfl 0 rfl ?_
      refine v_iload_n C dX6_ground_28 rfl 1 rfl ?_
      refine v_iload_n C dX6_ground_29 rfl 2 rfl ?_
      obtain ⟨v5, σ6, cσ6, h⟩ := bd_some h
      refine callVv C (c_X6_layGround cσ6) km_X6_layGround kv_X6_layGround rfl ml_RX6_66 rfl rfl (by decide) (Nat.le_of_ble_eq_true rfl) dX6_ground_30 ?_
      refine v_iload_n C dX6_ground_33 rfl 1 rfl ?_
      refine v_iload_n C dX6_ground_34 rfl 2 rfl ?_
      refine v_imul C dX6_ground_35 ?_
      cases h
      exact v_iret C dX6_ground_36
    · rw [if_pos q7] at h
      refine V.sub (lv' := []) [] rfl ?_
      exact b_X6_ground_24 C  _ _ _ h
theorem dX6_isHexagon_0 : decode cX6_isHexagon 0 = .ok (.iload_n 0, 1) := by decide +kernel
theorem dX6_isHexagon_1 : decode cX6_isHexagon 1 = .ok (.i2l, 1) := by decide +kernel
theorem dX6_isHexagon_2 : decode cX6_isHexagon 2 = .ok (.lconst 1, 1) := by decide +kernel
theorem dX6_isHexagon_3 : decode cX6_isHexagon 3 = .ok (.ldc2_w 91, 3) := by decide +kernel
theorem dX6_isHexagon_6 : decode cX6_isHexagon 6 = .ok (.invokestatic 84, 3) := by decide +kernel
theorem dX6_isHexagon_9 : decode cX6_isHexagon 9 = .ok (.ifCond .eq 47, 3) := by decide +kernel
theorem dX6_isHexagon_12 : decode cX6_isHexagon 12 = .ok (.iload_n 1, 1) := by decide +kernel
theorem dX6_isHexagon_13 : decode cX6_isHexagon 13 = .ok (.i2l, 1) := by decide +kernel
theorem dX6_isHexagon_14 : decode cX6_isHexagon 14 = .ok (.lconst 1, 1) := by decide +kernel
theorem dX6_isHexagon_15 : decode cX6_isHexagon 15 = .ok (.ldc2_w 91, 3) := by decide +kernel
theorem dX6_isHexagon_18 : decode cX6_isHexagon 18 = .ok (.invokestatic 84, 3) := by decide +kernel
theorem dX6_isHexagon_21 : decode cX6_isHexagon 21 = .ok (.ifCond .eq 35, 3) := by decide +kernel
theorem dX6_isHexagon_24 : decode cX6_isHexagon 24 = .ok (.iload_n 2, 1) := by decide +kernel
theorem dX6_isHexagon_25 : decode cX6_isHexagon 25 = .ok (.i2l, 1) := by decide +kernel
theorem dX6_isHexagon_26 : decode cX6_isHexagon 26 = .ok (.lconst 1, 1) := by decide +kernel
theorem dX6_isHexagon_27 : decode cX6_isHexagon 27 = .ok (.ldc2_w 91, 3) := by decide +kernel
theorem dX6_isHexagon_30 : decode cX6_isHexagon 30 = .ok (.invokestatic 84, 3) := by decide +kernel
theorem dX6_isHexagon_33 : decode cX6_isHexagon 33 = .ok (.ifCond .eq 23, 3) := by decide +kernel
theorem dX6_isHexagon_36 : decode cX6_isHexagon 36 = .ok (.iload_n 0, 1) := by decide +kernel
theorem dX6_isHexagon_37 : decode cX6_isHexagon 37 = .ok (.iload_n 2, 1) := by decide +kernel
theorem dX6_isHexagon_38 : decode cX6_isHexagon 38 = .ok (.iadd, 1) := by decide +kernel
theorem dX6_isHexagon_39 : decode cX6_isHexagon 39 = .ok (.bipush 8, 2) := by decide +kernel
theorem dX6_isHexagon_41 : decode cX6_isHexagon 41 = .ok (.if_icmp .gt 15, 3) := by decide +kernel
theorem dX6_isHexagon_44 : decode cX6_isHexagon 44 = .ok (.iload_n 1, 1) := by decide +kernel
theorem dX6_isHexagon_45 : decode cX6_isHexagon 45 = .ok (.iload_n 2, 1) := by decide +kernel
theorem dX6_isHexagon_46 : decode cX6_isHexagon 46 = .ok (.iadd, 1) := by decide +kernel
theorem dX6_isHexagon_47 : decode cX6_isHexagon 47 = .ok (.bipush 8, 2) := by decide +kernel
theorem dX6_isHexagon_49 : decode cX6_isHexagon 49 = .ok (.if_icmp .gt 7, 3) := by decide +kernel
theorem dX6_isHexagon_52 : decode cX6_isHexagon 52 = .ok (.iconst 1, 1) := by decide +kernel
theorem dX6_isHexagon_53 : decode cX6_isHexagon 53 = .ok (.goto 4, 3) := by decide +kernel
theorem dX6_isHexagon_56 : decode cX6_isHexagon 56 = .ok (.iconst 0, 1) := by decide +kernel
theorem dX6_isHexagon_57 : decode cX6_isHexagon 57 = .ok (.ireturn, 1) := by decide +kernel
def f_X6_isHexagon_57 (s0 : Int32) (σ : St) : Option (Int32 × St) :=
  gz s0 <|
  some (s0, σ)
set_option maxRecDepth 100000 in
set_option maxHeartbeats 4000000 in
theorem b_X6_isHexagon_57 {g : Geo} {x : Cx} (C : Ok g x cX6_isHexagon RX6 3 (some .boolean) rm_X6_isHexagon) : ∀ (s0 : Int32) (σ : St) (r : Int32) (σ' : St), f_X6_isHexagon_57 s0 σ = some (r, σ') → V g x (qm g x (some (.int r)) σ') 3 σ [] [.int s0] 57 := by
  intro s0 σ r σ' h
  unfold f_X6_isHexagon_57 at h
  obtain ⟨hz, h⟩ := gz_some h
  cases h
  exact v_zret C hz dX6_isHexagon_57
def f_X6_isHexagon_56 (σ : St) : Option (Int32 × St) :=
  f_X6_isHexagon_57 (0 : Int32) σ
set_option maxRecDepth 100000 in
set_option maxHeartbeats 4000000 in
theorem b_X6_isHexagon_56 {g : Geo} {x : Cx} (C : Ok g x cX6_isHexagon RX6 3 (some .boolean) rm_X6_isHexagon) : ∀ (σ : St) (r : Int32) (σ' : St), f_X6_isHexagon_56 σ = some (r, σ') → V g x (qm g x (some (.int r)) σ') 3 σ [] [] 56 := by
  intro σ r σ' h
  unfold f_X6_isHexagon_56 at h
  refine v_iconst C (v := (0 : Int32)) dX6_isHexagon_56 (by decide) ?_
  refine V.sub (lv' := []) [] rfl ?_
  exact b_X6_isHexagon_57 C _  _ _ _ h
def f_X6_isHexagon (a1 : Int32) (a2 : Int32) (a3 : Int32) (σ : St) : Option (Int32 × St) :=
  bd (f_X6_in ((a1).toInt64) (1 : Int64) (7 : Int64) σ) fun v1 σ2 =>
  if v1 = 0 then
    f_X6_isHexagon_56 σ2
  else
    bd (f_X6_in ((a2).toInt64) (1 : Int64) (7 : Int64) σ2) fun v3 σ4 =>
    if v3 = 0 then
      f_X6_isHexagon_56 σ4
    else
      bd (f_X6_in ((a3).toInt64) (1 : Int64) (7 : Int64) σ4) fun v5 σ6 =>
      if v5 = 0 then
        f_X6_isHexagon_56 σ6
      else
        if (8 : Int32) < (a1 + a3) then
          f_X6_isHexagon_56 σ6
        else
          if (8 : Int32) < (a2 + a3) then
            f_X6_isHexagon_56 σ6
          else
            f_X6_isHexagon_57 (1 : Int32) σ6
set_option maxRecDepth 100000 in
set_option maxHeartbeats 4000000 in
theorem c_X6_isHexagon {g : Geo} {a1 : Int32} {a2 : Int32} {a3 : Int32} {σ : St} {r : Int32} {σ' : St} (h : f_X6_isHexagon a1 a2 a3 σ = some (r, σ')) : Ct g yX6_isHexagon cX6_isHexagon 3 (some .boolean) rm_X6_isHexagon [.int a1, .int a2, .int a3] σ (some (.int r)) σ' := by
  refine ct_of (own := RX6) (by decide) rfl (Nat.le_of_ble_eq_true rfl) (fun x C => ?_) ⟨rfl, rfl⟩
  show V g x _ 3 σ [(0, .int a1), (1, .int a2), (2, .int a3)] [] 0
  unfold f_X6_isHexagon at h
  refine v_iload_n C dX6_isHexagon_0 rfl 0 rfl ?_
  refine v_i2l C dX6_isHexagon_1 ?_
  refine v_lconst C (v := (1 : Int64)) dX6_isHexagon_2 (by decide) ?_
  refine v_ldc2_w C (v := (7 : Int64)) conl_RX6_91 dX6_isHexagon_3 ?_
  obtain ⟨v1, σ2, cσ2, h⟩ := bd_some h
  refine callSi C (c_X6_in cσ2) km_X6_in ks_X6_in ml_RX6_84 rfl rfl (by decide) (Nat.le_of_ble_eq_true rfl) dX6_isHexagon_6 ?_
  refine v_if_eq C (tgt := 56) dX6_isHexagon_9 (by decide) (fun q11 => ?_) (fun q11 => ?_)
  · rw [if_pos q11] at h
    refine V.sub (lv' := []) [] rfl ?_
    exact b_X6_isHexagon_56 C  _ _ _ h
  · rw [if_neg q11] at h
    refine v_iload_n C dX6_isHexagon_12 rfl 1 rfl ?_
    refine v_i2l C dX6_isHexagon_13 ?_
    refine v_lconst C (v := (1 : Int64)) dX6_isHexagon_14 (by decide) ?_
    refine v_ldc2_w C (v := (7 : Int64)) conl_RX6_91 dX6_isHexagon_15 ?_
    obtain ⟨v3, σ4, cσ4, h⟩ := bd_some h
    refine callSi C (c_X6_in cσ4) km_X6_in ks_X6_in ml_RX6_84 rfl rfl (by decide) (Nat.le_of_ble_eq_true rfl) dX6_isHexagon_18 ?_
    refine v_if_eq C (tgt := 56) dX6_isHexagon_21 (by decide) (fun q10 => ?_) (fun q10 => ?_)
    · rw [if_pos q10] at h
      refine V.sub (lv' := []) [] rfl ?_
      exact b_X6_isHexagon_56 C  _ _ _ h
    · rw [if_neg q10] at h
      refine v_iload_n C dX6_isHexagon_24 rfl 2 rfl ?_
      refine v_i2l C dX6_isHexagon_25 ?_
      refine v_lconst C (v := (1 : Int64)) dX6_isHexagon_26 (by decide) ?_
      refine v_ldc2_w C (v := (7 : Int64)) conl_RX6_91 dX6_isHexagon_27 ?_
      obtain ⟨v5, σ6, cσ6, h⟩ := bd_some h
      refine callSi C (c_X6_in cσ6) km_X6_in ks_X6_in ml_RX6_84 rfl rfl (by decide) (Nat.le_of_ble_eq_true rfl) dX6_isHexagon_30 ?_
      refine v_if_eq C (tgt := 56) dX6_isHexagon_33 (by decide) (fun q9 => ?_) (fun q9 => ?_)
      · rw [if_pos q9] at h
        refine V.sub (lv' := []) [] rfl ?_
        exact b_X6_isHexagon_56 C  _ _ _ h
      · rw [if_neg q9] at h
        refine v_iload_n C dX6_isHexagon_36 rfl 0 rfl ?_
        refine v_iload_n C dX6_isHexagon_37 rfl 2 rfl ?_
        refine v_iadd C dX6_isHexagon_38 ?_
        refine v_bipush C (v := (8 : Int32)) dX6_isHexagon_39 (by decide) ?_
        refine v_icmp_gt C (tgt := 56) dX6_isHexagon_41 (by decide) (fun q8 => ?_) (fun q8 => ?_)
        · rw [if_pos q8] at h
          refine V.sub (lv' := []) [] rfl ?_
          exact b_X6_isHexagon_56 C  _ _ _ h
        · rw [if_neg q8] at h
          refine v_iload_n C dX6_isHexagon_44 rfl 1 rfl ?_
          refine v_iload_n C dX6_isHexagon_45 rfl 2 rfl ?_
          refine v_iadd C dX6_isHexagon_46 ?_
          refine v_bipush C (v := (8 : Int32)) dX6_isHexagon_47 (by decide) ?_
          refine v_icmp_gt C (tgt := 56) dX6_isHexagon_49 (by decide) (fun q7 => ?_) (fun q7 => ?_)
          · rw [if_pos q7] at h
            refine V.sub (lv' := []) [] rfl ?_
            exact b_X6_isHexagon_56 C  _ _ _ h
          · rw [if_neg q7] at h
            refine v_iconst C (v := (1 : Int32)) dX6_isHexagon_52 (by decide) ?_
            refine v_goto C (tgt := 57) dX6_isHexagon_53 (by decide) ?_
            refine V.sub (lv' := []) [] rfl ?_
            exact b_X6_isHexagon_57 C _  _ _ _ h
