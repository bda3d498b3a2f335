/-! ===== printed: X6_weighs, X6_isPoint, X6_isThere, X6_isInner, X6_pointOf, X6_turnOver, X6_point, X6_free, X6_turn, X6_crossed, X6_step, X6_stepCell ===== -/
theorem dX6_weighs_0 : decode cX6_weighs 0 = .ok (.iload_n 1, 1) := by decide +kernel
theorem dX6_weighs_1 : decode cX6_weighs 1 = .ok (.invokestatic 155, 3) := by decide +kernel
theorem dX6_weighs_4 : decode cX6_weighs 4 = .ok (.ifCond .ne 6, 3) := by decide +kernel
theorem dX6_weighs_7 : decode cX6_weighs 7 = .ok (.ldc 97, 2) := by decide +kernel
theorem dX6_weighs_9 : decode cX6_weighs 9 = .ok (.ireturn, 1) := by decide +kernel
theorem dX6_weighs_10 : decode cX6_weighs 10 = .ok (.aload_n 0, 1) := by decide +kernel
theorem dX6_weighs_11 : decode cX6_weighs 11 = .ok (.getfield 17, 3) := by decide +kernel
theorem dX6_weighs_14 : decode cX6_weighs 14 = .ok (.iload_n 1, 1) := by decide +kernel
theorem dX6_weighs_15 : decode cX6_weighs 15 = .ok (.baload, 1) := by decide +kernel
theorem dX6_weighs_16 : decode cX6_weighs 16 = .ok (.ifCond .ne 6, 3) := by decide +kernel
theorem dX6_weighs_19 : decode cX6_weighs 19 = .ok (.ldc 158, 2) := by decide +kernel
theorem dX6_weighs_21 : decode cX6_weighs 21 = .ok (.ireturn, 1) := by decide +kernel
theorem dX6_weighs_22 : decode cX6_weighs 22 = .ok (.iconst 0, 1) := by decide +kernel
theorem dX6_weighs_23 : decode cX6_weighs 23 = .ok (.istore_n 2, 1) := by decide +kernel
theorem dX6_weighs_24 : decode cX6_weighs 24 = .ok (.iconst 0, 1) := by decide +kernel
theorem dX6_weighs_25 : decode cX6_weighs 25 = .ok (.istore_n 3, 1) := by decide +kernel
theorem dX6_weighs_26 : decode cX6_weighs 26 = .ok (.iload_n 3, 1) := by decide +kernel
theorem dX6_weighs_27 : decode cX6_weighs 27 = .ok (.aload_n 0, 1) := by decide +kernel
theorem dX6_weighs_28 : decode cX6_weighs 28 = .ok (.invokevirtual 80, 3) := by decide +kernel
theorem dX6_weighs_31 : decode cX6_weighs 31 = .ok (.if_icmp .ge 51, 3) := by decide +kernel
theorem dX6_weighs_34 : decode cX6_weighs 34 = .ok (.iload_n 2, 1) := by decide +kernel
theorem dX6_weighs_35 : decode cX6_weighs 35 = .ok (.aload_n 0, 1) := by decide +kernel
theorem dX6_weighs_36 : decode cX6_weighs 36 = .ok (.getfield 20, 3) := by decide +kernel
theorem dX6_weighs_39 : decode cX6_weighs 39 = .ok (.bipush 64, 2) := by decide +kernel
theorem dX6_weighs_41 : decode cX6_weighs 41 = .ok (.iload_n 1, 1) := by decide +kernel
theorem dX6_weighs_42 : decode cX6_weighs 42 = .ok (.imul, 1) := by decide +kernel
theorem dX6_weighs_43 : decode cX6_weighs 43 = .ok (.iload_n 3, 1) := by decide +kernel
theorem dX6_weighs_44 : decode cX6_weighs 44 = .ok (.iadd, 1) := by decide +kernel
theorem dX6_weighs_45 : decode cX6_weighs 45 = .ok (.iaload, 1) := by decide +kernel
theorem dX6_weighs_46 : decode cX6_weighs 46 = .ok (.iconst 3, 1) := by decide +kernel
theorem dX6_weighs_47 : decode cX6_weighs 47 = .ok (.if_icmp .ne 7, 3) := by decide +kernel
theorem dX6_weighs_50 : decode cX6_weighs 50 = .ok (.iconst 0, 1) := by decide +kernel
theorem dX6_weighs_51 : decode cX6_weighs 51 = .ok (.goto 23, 3) := by decide +kernel
theorem dX6_weighs_54 : decode cX6_weighs 54 = .ok (.aload_n 0, 1) := by decide +kernel
theorem dX6_weighs_55 : decode cX6_weighs 55 = .ok (.getfield 13, 3) := by decide +kernel
theorem dX6_weighs_58 : decode cX6_weighs 58 = .ok (.iconst 3, 1) := by decide +kernel
theorem dX6_weighs_59 : decode cX6_weighs 59 = .ok (.iload_n 3, 1) := by decide +kernel
theorem dX6_weighs_60 : decode cX6_weighs 60 = .ok (.imul, 1) := by decide +kernel
theorem dX6_weighs_61 : decode cX6_weighs 61 = .ok (.aload_n 0, 1) := by decide +kernel
theorem dX6_weighs_62 : decode cX6_weighs 62 = .ok (.getfield 20, 3) := by decide +kernel
theorem dX6_weighs_65 : decode cX6_weighs 65 = .ok (.bipush 64, 2) := by decide +kernel
theorem dX6_weighs_67 : decode cX6_weighs 67 = .ok (.iload_n 1, 1) := by decide +kernel
theorem dX6_weighs_68 : decode cX6_weighs 68 = .ok (.imul, 1) := by decide +kernel
theorem dX6_weighs_69 : decode cX6_weighs 69 = .ok (.iload_n 3, 1) := by decide +kernel
theorem dX6_weighs_70 : decode cX6_weighs 70 = .ok (.iadd, 1) := by decide +kernel
theorem dX6_weighs_71 : decode cX6_weighs 71 = .ok (.iaload, 1) := by decide +kernel
theorem dX6_weighs_72 : decode cX6_weighs 72 = .ok (.iadd, 1) := by decide +kernel
theorem dX6_weighs_73 : decode cX6_weighs 73 = .ok (.iaload, 1) := by decide +kernel
theorem dX6_weighs_74 : decode cX6_weighs 74 = .ok (.iadd, 1) := by decide +kernel
theorem dX6_weighs_75 : decode cX6_weighs 75 = .ok (.istore_n 2, 1) := by decide +kernel
theorem dX6_weighs_76 : decode cX6_weighs 76 = .ok (.iinc 3 1, 3) := by decide +kernel
theorem dX6_weighs_79 : decode cX6_weighs 79 = .ok (.goto (-53), 3) := by decide +kernel
theorem dX6_weighs_82 : decode cX6_weighs 82 = .ok (.iload_n 2, 1) := by decide +kernel
theorem dX6_weighs_83 : decode cX6_weighs 83 = .ok (.ireturn, 1) := by decide +kernel
def f_X6_weighs_74 (k26 : Int32 → Int32 → Int32 → St → Option (Int32 × St)) (x1 : Int32) (x3 : Int32) (s0 : Int32) (s1 : Int32) (σ : St) : Option (Int32 × St) :=
  k26 x1 (s0 + s1) (x3 + 1) σ
set_option maxRecDepth 100000 in
set_option maxHeartbeats 4000000 in
theorem b_X6_weighs_74 {g : Geo} {x : Cx} (C : Ok g x cX6_weighs RX6 4 (some .int) rm_X6_weighs) (k26 : Int32 → Int32 → Int32 → St → Option (Int32 × St)) (hk26 : ∀ (x1 : Int32) (x2 : Int32) (x3 : Int32) (τ : St) (r : Int32) (τ' : St), k26 x1 x2 x3 τ = some (r, τ') → V g x (qm g x (some (.int r)) τ') 4 τ [(0, .ref (g.1 26)), (1, .int x1), (2, .int x2), (3, .int x3)] [] 26) : ∀ (x1 : Int32) (x3 : Int32) (s0 : Int32) (s1 : Int32) (σ : St) (r : Int32) (σ' : St), f_X6_weighs_74 k26 x1 x3 s0 s1 σ = some (r, σ') → V g x (qm g x (some (.int r)) σ') 4 σ [(0, .ref (g.1 26)), (1, .int x1), (3, .int x3)] [.int s1, .int s0] 74 := by
  intro x1 x3 s0 s1 σ r σ' h
  unfold f_X6_weighs_74 at h
  refine v_iadd C dX6_weighs_74 ?_
  refine v_istore_n C (lv' := [(2, .int _), (0, .ref _), (1, .int _), (3, .int _)]) dX6_weighs_75 rfl (by decide) rfl ?_
  refine v_iinc C (v := (x3 + 1)) (lv' := [(3, .int _), (2, .int _), (0, .ref _), (1, .int _)]) dX6_weighs_76 3 rfl rfl (by decide) rfl ?_
  refine v_goto C (tgt := 26) dX6_weighs_79 (by decide) ?_
  refine V.sub (lv' := [(0, .ref _), (1, .int _), (2, .int _), (3, .int _)]) [2, 3, 1, 0] rfl ?_
  exact hk26 _ _ _  _ _ _ h
def f_X6_weighs_26 : Nat → Int32 → Int32 → Int32 → St → Option (Int32 × St)
  | 0, _, _, _, _ => none
  | n + 1, x1, x2, x3, σ =>
    bd (f_X6_cells σ) fun v1 σ2 =>
    if v1 ≤ x3 then
      some (x2, σ2)
    else
      rdI σ2 30 (((64 : Int32) * x1) + x3) fun v3 =>
      if v3 = (3 : Int32) then
        f_X6_weighs_74 (f_X6_weighs_26 n) x1 x3 x2 (0 : Int32) σ2
      else
        rdI σ2 30 (((64 : Int32) * x1) + x3) fun v4 =>
        rdI σ2 28 (((3 : Int32) * x3) + v4) fun v5 =>
        f_X6_weighs_74 (f_X6_weighs_26 n) x1 x3 x2 v5 σ2
set_option maxRecDepth 100000 in
set_option maxHeartbeats 4000000 in
theorem b_X6_weighs_26 {g : Geo} {x : Cx} (C : Ok g x cX6_weighs RX6 4 (some .int) rm_X6_weighs) : ∀ (n : Nat) (x1 : Int32) (x2 : Int32) (x3 : Int32) (σ : St) (r : Int32) (σ' : St), f_X6_weighs_26 n x1 x2 x3 σ = some (r, σ') → V g x (qm g x (some (.int r)) σ') 4 σ [(0, .ref (g.1 26)), (1, .int x1), (2, .int x2), (3, .int x3)] [] 26 := by
  intro n
  induction n with
  | zero =>
    intro x1 x2 x3 σ r σ' h
    rw [f_X6_weighs_26] at h
    cases h
  | succ n ih =>
    intro x1 x2 x3 σ r σ' h
    rw [f_X6_weighs_26] at h
    refine v_iload_n C dX6_weighs_26 rfl 3 rfl ?_
    refine v_aload_n C dX6_weighs_27 rfl 0 rfl ?_
    obtain ⟨v1, σ2, cσ2, h⟩ := bd_some h
    refine callVi C (c_X6_cells cσ2) km_X6_cells kv_X6_cells rfl ml_RX6_80 rfl rfl (by decide) (Nat.le_of_ble_eq_true rfl) dX6_weighs_28 ?_
    refine v_icmp_ge C (tgt := 82) dX6_weighs_31 (by decide) (fun q7 => ?_) (fun q7 => ?_)
    · rw [if_pos q7] at h
      refine v_iload_n C dX6_weighs_82 rfl 2 rfl ?_
      cases h
      exact v_iret C dX6_weighs_83
    · rw [if_neg q7] at h
      refine v_iload_n C dX6_weighs_34 rfl 2 rfl ?_
      refine v_aload_n C dX6_weighs_35 rfl 0 rfl ?_
      refine v_getR C (p' := 30) fl_RX6_20 rfl rfl dX6_weighs_36 ?_
      refine v_bipush C (v := (64 : Int32)) dX6_weighs_39 (by decide) ?_
      refine v_iload_n C dX6_weighs_41 rfl 1 rfl ?_
      refine v_imul C dX6_weighs_42 ?_
      refine v_iload_n C dX6_weighs_43 rfl 3 rfl ?_
      refine v_iadd C dX6_weighs_44 ?_
      obtain ⟨nv3, v3, ev3, h⟩ := rdI_ex h
      refine x_iald C rfl nv3 ev3 dX6_weighs_45 ?_
      refine v_iconst C (v := (3 : Int32)) dX6_weighs_46 (by decide) ?_
      refine v_icmp_ne C (tgt := 54) dX6_weighs_47 (by decide) (fun q6 => ?_) (fun q6 => ?_)
      · rw [if_neg q6] at h
        refine v_aload_n C dX6_weighs_54 rfl 0 rfl ?_
        refine v_getR C (p' := 28) fl_RX6_13 rfl rfl dX6_weighs_55 ?_
        refine v_iconst C (v := (3 : Int32)) dX6_weighs_58 (by decide) ?_
        refine v_iload_n C dX6_weighs_59 rfl 3 rfl ?_
        refine v_imul C dX6_weighs_60 ?_
        refine v_aload_n C dX6_weighs_61 rfl 0 rfl ?_
        refine v_getR C (p' := 30) fl_RX6_20 rfl rfl dX6_weighs_62 ?_
        refine v_bipush C (v := (64 : Int32)) dX6_weighs_65 (by decide) ?_
        refine v_iload_n C dX6_weighs_67 rfl 1 rfl ?_
        refine v_imul C dX6_weighs_68 ?_
        refine v_iload_n C dX6_weighs_69 rfl 3 rfl ?_
        refine v_iadd C dX6_weighs_70 ?_
        obtain ⟨nv4, v4, ev4, h⟩ := rdI_ex h
        refine x_iald C rfl nv4 ev4 dX6_weighs_71 ?_
        refine v_iadd C dX6_weighs_72 ?_
        obtain ⟨nv5, v5, ev5, h⟩ := rdI_ex h
        refine x_iald C rfl nv5 ev5 dX6_weighs_73 ?_
        refine V.sub (lv' := [(0, .ref _), (1, .int _), (3, .int _)]) [0, 1, 3] rfl ?_
        exact b_X6_weighs_74 C _ ih _ _ _ _  _ _ _ h
      · rw [if_pos q6] at h
        refine v_iconst C (v := (0 : Int32)) dX6_weighs_50 (by decide) ?_
        refine v_goto C (tgt := 74) dX6_weighs_51 (by decide) ?_
        refine V.sub (lv' := [(0, .ref _), (1, .int _), (3, .int _)]) [0, 1, 3] rfl ?_
        exact b_X6_weighs_74 C _ ih _ _ _ _  _ _ _ h
def f_X6_weighs (a1 : Int32) (σ : St) : Option (Int32 × St) :=
  bd (f_X6_isSlot a1 σ) fun v1 σ2 =>
  if v1 = 0 then
    some ((-900001 : Int32), σ2)
  else
    rdI σ2 29 a1 fun v3 =>
    if v3 = 0 then
      some ((-900003 : Int32), σ2)
    else
      f_X6_weighs_26 FU a1 (0 : Int32) (0 : Int32) σ2
set_option maxRecDepth 100000 in
set_option maxHeartbeats 4000000 in
theorem c_X6_weighs {g : Geo} {a1 : Int32} {σ : St} {r : Int32} {σ' : St} (h : f_X6_weighs a1 σ = some (r, σ')) : Ct g yX6_weighs cX6_weighs 4 (some .int) rm_X6_weighs [.ref (g.1 26), .int a1] σ (some (.int r)) σ' := by
  refine ct_of (own := RX6) (by decide) rfl (Nat.le_of_ble_eq_true rfl) (fun x C => ?_) ⟨rfl, rfl⟩
  show V g x _ 4 σ [(0, .ref (g.1 26)), (1, .int a1)] [] 0
  unfold f_X6_weighs at h
  refine v_iload_n C dX6_weighs_0 rfl 1 rfl ?_
  obtain ⟨v1, σ2, cσ2, h⟩ := bd_some h
  refine callSi C (c_X6_isSlot cσ2) km_X6_isSlot ks_X6_isSlot ml_RX6_155 rfl rfl (by decide) (Nat.le_of_ble_eq_true rfl) dX6_weighs_1 ?_
  refine v_if_ne C (tgt := 10) dX6_weighs_4 (by decide) (fun q5 => ?_) (fun q5 => ?_)
  · rw [if_neg q5] at h
    refine v_aload_n C dX6_weighs_10 rfl 0 rfl ?_
    refine v_getR C (p' := 29) fl_RX6_17 rfl rfl dX6_weighs_11 ?_
    refine v_iload_n C dX6_weighs_14 rfl 1 rfl ?_
    obtain ⟨nv3, v3, ev3, h⟩ := rdI_ex h
    refine x_zald C rfl nv3 ev3 dX6_weighs_15 ?_
    refine v_if_ne C (tgt := 22) dX6_weighs_16 (by decide) (fun q4 => ?_) (fun q4 => ?_)
    · rw [if_neg q4] at h
      refine v_iconst C (v := (0 : Int32)) dX6_weighs_22 (by decide) ?_
      refine v_istore_n C (lv' := [(2, .int _), (0, .ref _), (1, .int _)]) dX6_weighs_23 rfl (by decide) rfl ?_
      refine v_iconst C (v := (0 : Int32)) dX6_weighs_24 (by decide) ?_
      refine v_istore_n C (lv' := [(3, .int _), (2, .int _), (0, .ref _), (1, .int _)]) dX6_weighs_25 rfl (by decide) rfl ?_
      refine V.sub (lv' := [(0, .ref _), (1, .int _), (2, .int _), (3, .int _)]) [2, 3, 1, 0] rfl ?_
      exact b_X6_weighs_26 C FU _ _ _  _ _ _ h
    · rw [if_pos q4] at h
      refine v_ldc C (v := (-900003 : Int32)) con_RX6_158 dX6_weighs_19 ?_
      cases h
      exact v_iret C dX6_weighs_21
  · rw [if_pos q5] at h
    refine v_ldc C (v := (-900001 : Int32)) con_RX6_97 dX6_weighs_7 ?_
    cases h
    exact v_iret C dX6_weighs_9
theorem dX6_isPoint_0 : decode cX6_isPoint 0 = .ok (.iload_n 1, 1) := by decide +kernel
theorem dX6_isPoint_1 : decode cX6_isPoint 1 = .ok (.i2l, 1) := by decide +kernel
theorem dX6_isPoint_2 : decode cX6_isPoint 2 = .ok (.lconst 0, 1) := by decide +kernel
theorem dX6_isPoint_3 : decode cX6_isPoint 3 = .ok (.aload_n 0, 1) := by decide +kernel
theorem dX6_isPoint_4 : decode cX6_isPoint 4 = .ok (.getfield 70, 3) := by decide +kernel
theorem dX6_isPoint_7 : decode cX6_isPoint 7 = .ok (.i2l, 1) := by decide +kernel
theorem dX6_isPoint_8 : decode cX6_isPoint 8 = .ok (.invokestatic 84, 3) := by decide +kernel
theorem dX6_isPoint_11 : decode cX6_isPoint 11 = .ok (.ifCond .eq 21, 3) := by decide +kernel
theorem dX6_isPoint_14 : decode cX6_isPoint 14 = .ok (.iload_n 2, 1) := by decide +kernel
theorem dX6_isPoint_15 : decode cX6_isPoint 15 = .ok (.i2l, 1) := by decide +kernel
theorem dX6_isPoint_16 : decode cX6_isPoint 16 = .ok (.lconst 0, 1) := by decide +kernel
theorem dX6_isPoint_17 : decode cX6_isPoint 17 = .ok (.aload_n 0, 1) := by decide +kernel
theorem dX6_isPoint_18 : decode cX6_isPoint 18 = .ok (.getfield 74, 3) := by decide +kernel
theorem dX6_isPoint_21 : decode cX6_isPoint 21 = .ok (.i2l, 1) := by decide +kernel
theorem dX6_isPoint_22 : decode cX6_isPoint 22 = .ok (.invokestatic 84, 3) := by decide +kernel
theorem dX6_isPoint_25 : decode cX6_isPoint 25 = .ok (.ifCond .eq 7, 3) := by decide +kernel
theorem dX6_isPoint_28 : decode cX6_isPoint 28 = .ok (.iconst 1, 1) := by decide +kernel
theorem dX6_isPoint_29 : decode cX6_isPoint 29 = .ok (.goto 4, 3) := by decide +kernel
theorem dX6_isPoint_32 : decode cX6_isPoint 32 = .ok (.iconst 0, 1) := by decide +kernel
theorem dX6_isPoint_33 : decode cX6_isPoint 33 = .ok (.ireturn, 1) := by decide +kernel
def f_X6_isPoint_33 (s0 : Int32) (σ : St) : Option (Int32 × St) :=
  gz s0 <|
  some (s0, σ)
set_option maxRecDepth 100000 in
set_option maxHeartbeats 4000000 in
theorem b_X6_isPoint_33 {g : Geo} {x : Cx} (C : Ok g x cX6_isPoint RX6 3 (some .boolean) rm_X6_isPoint) : ∀ (s0 : Int32) (σ : St) (r : Int32) (σ' : St), f_X6_isPoint_33 s0 σ = some (r, σ') → V g x (qm g x (some (.int r)) σ') 3 σ [] [.int s0] 33 := by
  intro s0 σ r σ' h
  unfold f_X6_isPoint_33 at h
  obtain ⟨hz, h⟩ := gz_some h
  cases h
  exact v_zret C hz dX6_isPoint_33
def f_X6_isPoint_32 (σ : St) : Option (Int32 × St) :=
  f_X6_isPoint_33 (0 : Int32) σ
set_option maxRecDepth 100000 in
set_option maxHeartbeats 4000000 in
theorem b_X6_isPoint_32 {g : Geo} {x : Cx} (C : Ok g x cX6_isPoint RX6 3 (some .boolean) rm_X6_isPoint) : ∀ (σ : St) (r : Int32) (σ' : St), f_X6_isPoint_32 σ = some (r, σ') → V g x (qm g x (some (.int r)) σ') 3 σ [] [] 32 := by
  intro σ r σ' h
  unfold f_X6_isPoint_32 at h
  refine v_iconst C (v := (0 : Int32)) dX6_isPoint_32 (by decide) ?_
  refine V.sub (lv' := []) [] rfl ?_
  exact b_X6_isPoint_33 C _  _ _ _ h
def f_X6_isPoint (a1 : Int32) (a2 : Int32) (σ : St) : Option (Int32 × St) :=
  bd (f_X6_in ((a1).toInt64) (0 : Int64) (((gi σ 26 0)).toInt64) σ) fun v1 σ2 =>
  if v1 = 0 then
    f_X6_isPoint_32 σ2
  else
    bd (f_X6_in ((a2).toInt64) (0 : Int64) (((gi σ2 26 1)).toInt64) σ2) fun v3 σ4 =>
    if v3 = 0 then
      f_X6_isPoint_32 σ4
    else
      f_X6_isPoint_33 (1 : Int32) σ4
set_option maxRecDepth 100000 in
set_option maxHeartbeats 4000000 in
theorem c_X6_isPoint {g : Geo} {a1 : Int32} {a2 : Int32} {σ : St} {r : Int32} {σ' : St} (h : f_X6_isPoint a1 a2 σ = some (r, σ')) : Ct g yX6_isPoint cX6_isPoint 3 (some .boolean) rm_X6_isPoint [.ref (g.1 26), .int a1, .int a2] σ (some (.int r)) σ' := by
  refine ct_of (own := RX6) (by decide) rfl (Nat.le_of_ble_eq_true rfl) (fun x C => ?_) ⟨rfl, rfl⟩
  show V g x _ 3 σ [(0, .ref (g.1 26)), (1, .int a1), (2, .int a2)] [] 0
  unfold f_X6_isPoint at h
  refine v_iload_n C dX6_isPoint_0 rfl 1 rfl ?_
  refine v_i2l C dX6_isPoint_1 ?_
  refine v_lconst C (v := (0 : Int64)) dX6_isPoint_2 (by decide) ?_
  refine v_aload_n C dX6_isPoint_3 rfl 0 rfl ?_
  refine v_getI C fl_RX6_70 rfl dX6_isPoint_4 ?_
  refine v_i2l C dX6_isPoint_7 ?_
  obtain ⟨v1, σ2, cσ2, h⟩ := bd_some h
  refine callSi C (c_X6_in cσ2) km_X6_in ks_X6_in ml_RX6_84 rfl rfl (by decide) (Nat.le_of_ble_eq_true rfl) dX6_isPoint_8 ?_
  refine v_if_eq C (tgt := 32) dX6_isPoint_11 (by decide) (fun q6 => ?_) (fun q6 => ?_)
  · rw [if_pos q6] at h
    refine V.sub (lv' := []) [] rfl ?_
    exact b_X6_isPoint_32 C  _ _ _ h
  · rw [if_neg q6] at h
    refine v_iload_n C dX6_isPoint_14 rfl 2 rfl ?_
    refine v_i2l C dX6_isPoint_15 ?_
    refine v_lconst C (v := (0 : Int64)) dX6_isPoint_16 (by decide) ?_
    refine v_aload_n C dX6_isPoint_17 rfl 0 rfl ?_
    refine v_getI C fl_RX6_74 rfl dX6_isPoint_18 ?_
    refine v_i2l C dX6_isPoint_21 ?_
    obtain ⟨v3, σ4, cσ4, h⟩ := bd_some h
    refine callSi C (c_X6_in cσ4) km_X6_in ks_X6_in ml_RX6_84 rfl rfl (by decide) (Nat.le_of_ble_eq_true rfl) dX6_isPoint_22 ?_
    refine v_if_eq C (tgt := 32) dX6_isPoint_25 (by decide) (fun q5 => ?_) (fun q5 => ?_)
    · rw [if_pos q5] at h
      refine V.sub (lv' := []) [] rfl ?_
      exact b_X6_isPoint_32 C  _ _ _ h
    · rw [if_neg q5] at h
      refine v_iconst C (v := (1 : Int32)) dX6_isPoint_28 (by decide) ?_
      refine v_goto C (tgt := 33) dX6_isPoint_29 (by decide) ?_
      refine V.sub (lv' := []) [] rfl ?_
      exact b_X6_isPoint_33 C _  _ _ _ h
theorem dX6_isThere_0 : decode cX6_isThere 0 = .ok (.iload_n 1, 1) := by decide +kernel
theorem dX6_isThere_1 : decode cX6_isThere 1 = .ok (.i2l, 1) := by decide +kernel
theorem dX6_isThere_2 : decode cX6_isThere 2 = .ok (.lconst 0, 1) := by decide +kernel
theorem dX6_isThere_3 : decode cX6_isThere 3 = .ok (.aload_n 0, 1) := by decide +kernel
theorem dX6_isThere_4 : decode cX6_isThere 4 = .ok (.getfield 70, 3) := by decide +kernel
theorem dX6_isThere_7 : decode cX6_isThere 7 = .ok (.iconst 1, 1) := by decide +kernel
theorem dX6_isThere_8 : decode cX6_isThere 8 = .ok (.isub, 1) := by decide +kernel
theorem dX6_isThere_9 : decode cX6_isThere 9 = .ok (.i2l, 1) := by decide +kernel
theorem dX6_isThere_10 : decode cX6_isThere 10 = .ok (.invokestatic 84, 3) := by decide +kernel
theorem dX6_isThere_13 : decode cX6_isThere 13 = .ok (.ifCond .eq 51, 3) := by decide +kernel
theorem dX6_isThere_16 : decode cX6_isThere 16 = .ok (.iload_n 2, 1) := by decide +kernel
theorem dX6_isThere_17 : decode cX6_isThere 17 = .ok (.i2l, 1) := by decide +kernel
theorem dX6_isThere_18 : decode cX6_isThere 18 = .ok (.lconst 0, 1) := by decide +kernel
theorem dX6_isThere_19 : decode cX6_isThere 19 = .ok (.aload_n 0, 1) := by decide +kernel
theorem dX6_isThere_20 : decode cX6_isThere 20 = .ok (.getfield 74, 3) := by decide +kernel
theorem dX6_isThere_23 : decode cX6_isThere 23 = .ok (.iconst 1, 1) := by decide +kernel
theorem dX6_isThere_24 : decode cX6_isThere 24 = .ok (.isub, 1) := by decide +kernel
theorem dX6_isThere_25 : decode cX6_isThere 25 = .ok (.i2l, 1) := by decide +kernel
theorem dX6_isThere_26 : decode cX6_isThere 26 = .ok (.invokestatic 84, 3) := by decide +kernel
theorem dX6_isThere_29 : decode cX6_isThere 29 = .ok (.ifCond .eq 35, 3) := by decide +kernel
theorem dX6_isThere_32 : decode cX6_isThere 32 = .ok (.aload_n 0, 1) := by decide +kernel
theorem dX6_isThere_33 : decode cX6_isThere 33 = .ok (.getfield 7, 3) := by decide +kernel
theorem dX6_isThere_36 : decode cX6_isThere 36 = .ok (.iconst 2, 1) := by decide +kernel
theorem dX6_isThere_37 : decode cX6_isThere 37 = .ok (.iload_n 2, 1) := by decide +kernel
theorem dX6_isThere_38 : decode cX6_isThere 38 = .ok (.aload_n 0, 1) := by decide +kernel
theorem dX6_isThere_39 : decode cX6_isThere 39 = .ok (.getfield 70, 3) := by decide +kernel
theorem dX6_isThere_42 : decode cX6_isThere 42 = .ok (.imul, 1) := by decide +kernel
theorem dX6_isThere_43 : decode cX6_isThere 43 = .ok (.iload_n 1, 1) := by decide +kernel
theorem dX6_isThere_44 : decode cX6_isThere 44 = .ok (.iadd, 1) := by decide +kernel
theorem dX6_isThere_45 : decode cX6_isThere 45 = .ok (.imul, 1) := by decide +kernel
theorem dX6_isThere_46 : decode cX6_isThere 46 = .ok (.iload_n 3, 1) := by decide +kernel
theorem dX6_isThere_47 : decode cX6_isThere 47 = .ok (.ifCond .eq 7, 3) := by decide +kernel
theorem dX6_isThere_50 : decode cX6_isThere 50 = .ok (.iconst 0, 1) := by decide +kernel
theorem dX6_isThere_51 : decode cX6_isThere 51 = .ok (.goto 4, 3) := by decide +kernel
theorem dX6_isThere_54 : decode cX6_isThere 54 = .ok (.iconst 1, 1) := by decide +kernel
theorem dX6_isThere_55 : decode cX6_isThere 55 = .ok (.iadd, 1) := by decide +kernel
theorem dX6_isThere_56 : decode cX6_isThere 56 = .ok (.baload, 1) := by decide +kernel
theorem dX6_isThere_57 : decode cX6_isThere 57 = .ok (.ifCond .eq 7, 3) := by decide +kernel
theorem dX6_isThere_60 : decode cX6_isThere 60 = .ok (.iconst 1, 1) := by decide +kernel
theorem dX6_isThere_61 : decode cX6_isThere 61 = .ok (.goto 4, 3) := by decide +kernel
theorem dX6_isThere_64 : decode cX6_isThere 64 = .ok (.iconst 0, 1) := by decide +kernel
theorem dX6_isThere_65 : decode cX6_isThere 65 = .ok (.ireturn, 1) := by decide +kernel
def f_X6_isThere_65 (s0 : Int32) (σ : St) : Option (Int32 × St) :=
  gz s0 <|
  some (s0, σ)
set_option maxRecDepth 100000 in
set_option maxHeartbeats 4000000 in
theorem b_X6_isThere_65 {g : Geo} {x : Cx} (C : Ok g x cX6_isThere RX6 4 (some .boolean) rm_X6_isThere) : ∀ (s0 : Int32) (σ : St) (r : Int32) (σ' : St), f_X6_isThere_65 s0 σ = some (r, σ') → V g x (qm g x (some (.int r)) σ') 4 σ [] [.int s0] 65 := by
  intro s0 σ r σ' h
  unfold f_X6_isThere_65 at h
  obtain ⟨hz, h⟩ := gz_some h
  cases h
  exact v_zret C hz dX6_isThere_65
def f_X6_isThere_64 (σ : St) : Option (Int32 × St) :=
  f_X6_isThere_65 (0 : Int32) σ
set_option maxRecDepth 100000 in
set_option maxHeartbeats 4000000 in
theorem b_X6_isThere_64 {g : Geo} {x : Cx} (C : Ok g x cX6_isThere RX6 4 (some .boolean) rm_X6_isThere) : ∀ (σ : St) (r : Int32) (σ' : St), f_X6_isThere_64 σ = some (r, σ') → V g x (qm g x (some (.int r)) σ') 4 σ [] [] 64 := by
  intro σ r σ' h
  unfold f_X6_isThere_64 at h
  refine v_iconst C (v := (0 : Int32)) dX6_isThere_64 (by decide) ?_
  refine V.sub (lv' := []) [] rfl ?_
  exact b_X6_isThere_65 C _  _ _ _ h
def f_X6_isThere_55 (s1 : Int32) (s2 : Int32) (σ : St) : Option (Int32 × St) :=
  rdI σ 27 (s1 + s2) fun v1 =>
  if v1 = 0 then
    f_X6_isThere_64 σ
  else
    f_X6_isThere_65 (1 : Int32) σ
set_option maxRecDepth 100000 in
set_option maxHeartbeats 4000000 in
theorem b_X6_isThere_55 {g : Geo} {x : Cx} (C : Ok g x cX6_isThere RX6 4 (some .boolean) rm_X6_isThere) : ∀ (s1 : Int32) (s2 : Int32) (σ : St) (r : Int32) (σ' : St), f_X6_isThere_55 s1 s2 σ = some (r, σ') → V g x (qm g x (some (.int r)) σ') 4 σ [] [.int s2, .int s1, .ref (g.1 27)] 55 := by
  intro s1 s2 σ r σ' h
  unfold f_X6_isThere_55 at h
  refine v_iadd C dX6_isThere_55 ?_
  obtain ⟨nv1, v1, ev1, h⟩ := rdI_ex h
  refine x_zald C rfl nv1 ev1 dX6_isThere_56 ?_
  refine v_if_eq C (tgt := 64) dX6_isThere_57 (by decide) (fun q2 => ?_) (fun q2 => ?_)
  · rw [if_pos q2] at h
    refine V.sub (lv' := []) [] rfl ?_
    exact b_X6_isThere_64 C  _ _ _ h
  · rw [if_neg q2] at h
    refine v_iconst C (v := (1 : Int32)) dX6_isThere_60 (by decide) ?_
    refine v_goto C (tgt := 65) dX6_isThere_61 (by decide) ?_
    refine V.sub (lv' := []) [] rfl ?_
    exact b_X6_isThere_65 C _  _ _ _ h
def f_X6_isThere (a1 : Int32) (a2 : Int32) (a3 : Int32) (σ : St) : Option (Int32 × St) :=
  bd (f_X6_in ((a1).toInt64) (0 : Int64) ((((gi σ 26 0) - (1 : Int32))).toInt64) σ) fun v1 σ2 =>
  if v1 = 0 then
    f_X6_isThere_64 σ2
  else
    bd (f_X6_in ((a2).toInt64) (0 : Int64) ((((gi σ2 26 1) - (1 : Int32))).toInt64) σ2) fun v3 σ4 =>
    if v3 = 0 then
      f_X6_isThere_64 σ4
    else
      if a3 = 0 then
        f_X6_isThere_55 ((2 : Int32) * ((a2 * (gi σ4 26 0)) + a1)) (1 : Int32) σ4
      else
        f_X6_isThere_55 ((2 : Int32) * ((a2 * (gi σ4 26 0)) + a1)) (0 : Int32) σ4
set_option maxRecDepth 100000 in
set_option maxHeartbeats 4000000 in
theorem c_X6_isThere {g : Geo} {a1 : Int32} {a2 : Int32} {a3 : Int32} {σ : St} {r : Int32} {σ' : St} (h : f_X6_isThere a1 a2 a3 σ = some (r, σ')) : Ct g yX6_isThere cX6_isThere 4 (some .boolean) rm_X6_isThere [.ref (g.1 26), .int a1, .int a2, .int a3] σ (some (.int r)) σ' := by
  refine ct_of (own := RX6) (by decide) rfl (Nat.le_of_ble_eq_true rfl) (fun x C => ?_) ⟨rfl, rfl⟩
  show V g x _ 4 σ [(0, .ref (g.1 26)), (1, .int a1), (2, .int a2), (3, .int a3)] [] 0
  unfold f_X6_isThere at h
  refine v_iload_n C dX6_isThere_0 rfl 1 rfl ?_
  refine v_i2l C dX6_isThere_1 ?_
  refine v_lconst C (v := (0 : Int64)) dX6_isThere_2 (by decide) ?_
  refine v_aload_n C dX6_isThere_3 rfl 0 rfl ?_
  refine v_getI C fl_RX6_70 rfl dX6_isThere_4 ?_
  refine v_iconst C (v := (1 : Int32)) dX6_isThere_7 (by decide) ?_
  refine v_isub C dX6_isThere_8 ?_
  refine v_i2l C dX6_isThere_9 ?_
  obtain ⟨v1, σ2, cσ2, h⟩ := bd_some h
  refine callSi C (c_X6_in cσ2) km_X6_in ks_X6_in ml_RX6_84 rfl rfl (by decide) (Nat.le_of_ble_eq_true rfl) dX6_isThere_10 ?_
  refine v_if_eq C (tgt := 64) dX6_isThere_13 (by decide) (fun q7 => ?_) (fun q7 => ?_)
  · rw [if_pos q7] at h
    refine V.sub (lv' := []) [] rfl ?_
    exact b_X6_isThere_64 C  _ _ _ h
  · rw [if_neg q7] at h
    refine v_iload_n C dX6_isThere_16 rfl 2 rfl ?_
    refine v_i2l C dX6_isThere_17 ?_
    refine v_lconst C (v := (0 : Int64)) dX6_isThere_18 (by decide) ?_
    refine v_aload_n C dX6_isThere_19 rfl 0 rfl ?_
    refine v_getI C fl_RX6_74 rfl dX6_isThere_20 ?_
    refine v_iconst C (v := (1 : Int32)) dX6_isThere_23 (by decide) ?_
    refine v_isub C dX6_isThere_24 ?_
    refine v_i2l C dX6_isThere_25 ?_
    obtain ⟨v3, σ4, cσ4, h⟩ := bd_some h
    refine callSi C (c_X6_in cσ4) km_X6_in ks_X6_in ml_RX6_84 rfl rfl (by decide) (Nat.le_of_ble_eq_true rfl) dX6_isThere_26 ?_
    refine v_if_eq C (tgt := 64) dX6_isThere_29 (by decide) (fun q6 => ?_) (fun q6 => ?_)
    · rw [if_pos q6] at h
      refine V.sub (lv' := []) [] rfl ?_
      exact b_X6_isThere_64 C  _ _ _ h
    · rw [if_neg q6] at h
      refine v_aload_n C dX6_isThere_32 rfl 0 rfl ?_
      refine v_getR C (p' := 27) fl_RX6_7 rfl rfl dX6_isThere_33 ?_
      refine v_iconst C (v := (2 : Int32)) dX6_isThere_36 (by decide) ?_
      refine v_iload_n C dX6_isThere_37 rfl 2 rfl ?_
      refine v_aload_n C dX6_isThere_38 rfl 0 rfl ?_
      refine v_getI C fl_RX6_70 rfl dX6_isThere_39 ?_
      refine v_imul C dX6_isThere_42 ?_
      refine v_iload_n C dX6_isThere_43 rfl 1 rfl ?_
      refine v_iadd C dX6_isThere_44 ?_
      refine v_imul C dX6_isThere_45 ?_
      refine v_iload_n C dX6_isThere_46 rfl 3 rfl ?_
      refine v_if_eq C (tgt := 54) dX6_isThere_47 (by decide) (fun q5 => ?_) (fun q5 => ?_)
      · rw [if_pos q5] at h
        refine v_iconst C (v := (1 : Int32)) dX6_isThere_54 (by decide) ?_
        refine V.sub (lv' := []) [] rfl ?_
        exact b_X6_isThere_55 C _ _  _ _ _ h
      · rw [if_neg q5] at h
        refine v_iconst C (v := (0 : Int32)) dX6_isThere_50 (by decide) ?_
        refine v_goto C (tgt := 55) dX6_isThere_51 (by decide) ?_
        refine V.sub (lv' := []) [] rfl ?_
        exact b_X6_isThere_55 C _ _  _ _ _ h
theorem dX6_isInner_0 : decode cX6_isInner 0 = .ok (.aload_n 0, 1) := by decide +kernel
theorem dX6_isInner_1 : decode cX6_isInner 1 = .ok (.iload_n 1, 1) := by decide +kernel
theorem dX6_isInner_2 : decode cX6_isInner 2 = .ok (.iload_n 2, 1) := by decide +kernel
theorem dX6_isInner_3 : decode cX6_isInner 3 = .ok (.iconst 1, 1) := by decide +kernel
theorem dX6_isInner_4 : decode cX6_isInner 4 = .ok (.invokevirtual 164, 3) := by decide +kernel
theorem dX6_isInner_7 : decode cX6_isInner 7 = .ok (.ifCond .eq 69, 3) := by decide +kernel
theorem dX6_isInner_10 : decode cX6_isInner 10 = .ok (.aload_n 0, 1) := by decide +kernel
theorem dX6_isInner_11 : decode cX6_isInner 11 = .ok (.iload_n 1, 1) := by decide +kernel
theorem dX6_isInner_12 : decode cX6_isInner 12 = .ok (.iconst 1, 1) := by decide +kernel
theorem dX6_isInner_13 : decode cX6_isInner 13 = .ok (.isub, 1) := by decide +kernel
theorem dX6_isInner_14 : decode cX6_isInner 14 = .ok (.iload_n 2, 1) := by decide +kernel
theorem dX6_isInner_15 : decode cX6_isInner 15 = .ok (.iconst 1, 1) := by decide +kernel
theorem dX6_isInner_16 : decode cX6_isInner 16 = .ok (.invokevirtual 164, 3) := by decide +kernel
theorem dX6_isInner_19 : decode cX6_isInner 19 = .ok (.ifCond .eq 57, 3) := by decide +kernel
theorem dX6_isInner_22 : decode cX6_isInner 22 = .ok (.aload_n 0, 1) := by decide +kernel
theorem dX6_isInner_23 : decode cX6_isInner 23 = .ok (.iload_n 1, 1) := by decide +kernel
theorem dX6_isInner_24 : decode cX6_isInner 24 = .ok (.iload_n 2, 1) := by decide +kernel
theorem dX6_isInner_25 : decode cX6_isInner 25 = .ok (.iconst 1, 1) := by decide +kernel
theorem dX6_isInner_26 : decode cX6_isInner 26 = .ok (.isub, 1) := by decide +kernel
theorem dX6_isInner_27 : decode cX6_isInner 27 = .ok (.iconst 1, 1) := by decide +kernel
theorem dX6_isInner_28 : decode cX6_isInner 28 = .ok (.invokevirtual 164, 3) := by decide +kernel
theorem dX6_isInner_31 : decode cX6_isInner 31 = .ok (.ifCond .eq 45, 3) := by decide +kernel
theorem dX6_isInner_34 : decode cX6_isInner 34 = .ok (.aload_n 0, 1) := by decide +kernel
theorem dX6_isInner_35 : decode cX6_isInner 35 = .ok (.iload_n 1, 1) := by decide +kernel
theorem dX6_isInner_36 : decode cX6_isInner 36 = .ok (.iconst 1, 1) := by decide +kernel
theorem dX6_isInner_37 : decode cX6_isInner 37 = .ok (.isub, 1) := by decide +kernel
theorem dX6_isInner_38 : decode cX6_isInner 38 = .ok (.iload_n 2, 1) := by decide +kernel
theorem dX6_isInner_39 : decode cX6_isInner 39 = .ok (.iconst 0, 1) := by decide +kernel
theorem dX6_isInner_40 : decode cX6_isInner 40 = .ok (.invokevirtual 164, 3) := by decide +kernel
theorem dX6_isInner_43 : decode cX6_isInner 43 = .ok (.ifCond .eq 33, 3) := by decide +kernel
theorem dX6_isInner_46 : decode cX6_isInner 46 = .ok (.aload_n 0, 1) := by decide +kernel
theorem dX6_isInner_47 : decode cX6_isInner 47 = .ok (.iload_n 1, 1) := by decide +kernel
theorem dX6_isInner_48 : decode cX6_isInner 48 = .ok (.iconst 1, 1) := by decide +kernel
theorem dX6_isInner_49 : decode cX6_isInner 49 = .ok (.isub, 1) := by decide +kernel
theorem dX6_isInner_50 : decode cX6_isInner 50 = .ok (.iload_n 2, 1) := by decide +kernel
theorem dX6_isInner_51 : decode cX6_isInner 51 = .ok (.iconst 1, 1) := by decide +kernel
theorem dX6_isInner_52 : decode cX6_isInner 52 = .ok (.isub, 1) := by decide +kernel
theorem dX6_isInner_53 : decode cX6_isInner 53 = .ok (.iconst 0, 1) := by decide +kernel
theorem dX6_isInner_54 : decode cX6_isInner 54 = .ok (.invokevirtual 164, 3) := by decide +kernel
theorem dX6_isInner_57 : decode cX6_isInner 57 = .ok (.ifCond .eq 19, 3) := by decide +kernel
theorem dX6_isInner_60 : decode cX6_isInner 60 = .ok (.aload_n 0, 1) := by decide +kernel
theorem dX6_isInner_61 : decode cX6_isInner 61 = .ok (.iload_n 1, 1) := by decide +kernel
theorem dX6_isInner_62 : decode cX6_isInner 62 = .ok (.iload_n 2, 1) := by decide +kernel
theorem dX6_isInner_63 : decode cX6_isInner 63 = .ok (.iconst 1, 1) := by decide +kernel
theorem dX6_isInner_64 : decode cX6_isInner 64 = .ok (.isub, 1) := by decide +kernel
theorem dX6_isInner_65 : decode cX6_isInner 65 = .ok (.iconst 0, 1) := by decide +kernel
theorem dX6_isInner_66 : decode cX6_isInner 66 = .ok (.invokevirtual 164, 3) := by decide +kernel
theorem dX6_isInner_69 : decode cX6_isInner 69 = .ok (.ifCond .eq 7, 3) := by decide +kernel
theorem dX6_isInner_72 : decode cX6_isInner 72 = .ok (.iconst 1, 1) := by decide +kernel
theorem dX6_isInner_73 : decode cX6_isInner 73 = .ok (.goto 4, 3) := by decide +kernel
theorem dX6_isInner_76 : decode cX6_isInner 76 = .ok (.iconst 0, 1) := by decide +kernel
theorem dX6_isInner_77 : decode cX6_isInner 77 = .ok (.ireturn, 1) := by decide +kernel
def f_X6_isInner_77 (s0 : Int32) (σ : St) : Option (Int32 × St) :=
  gz s0 <|
  some (s0, σ)
set_option maxRecDepth 100000 in
set_option maxHeartbeats 4000000 in
theorem b_X6_isInner_77 {g : Geo} {x : Cx} (C : Ok g x cX6_isInner RX6 3 (some .boolean) rm_X6_isInner) : ∀ (s0 : Int32) (σ : St) (r : Int32) (σ' : St), f_X6_isInner_77 s0 σ = some (r, σ') → V g x (qm g x (some (.int r)) σ') 3 σ [] [.int s0] 77 := by
  intro s0 σ r σ' h
  unfold f_X6_isInner_77 at h
  obtain ⟨hz, h⟩ := gz_some h
  cases h
  exact v_zret C hz dX6_isInner_77
def f_X6_isInner_76 (σ : St) : Option (Int32 × St) :=
  f_X6_isInner_77 (0 : Int32) σ
set_option maxRecDepth 100000 in
set_option maxHeartbeats 4000000 in
theorem b_X6_isInner_76 {g : Geo} {x : Cx} (C : Ok g x cX6_isInner RX6 3 (some .boolean) rm_X6_isInner) : ∀ (σ : St) (r : Int32) (σ' : St), f_X6_isInner_76 σ = some (r, σ') → V g x (qm g x (some (.int r)) σ') 3 σ [] [] 76 := by
  intro σ r σ' h
  unfold f_X6_isInner_76 at h
  refine v_iconst C (v := (0 : Int32)) dX6_isInner_76 (by decide) ?_
  refine V.sub (lv' := []) [] rfl ?_
  exact b_X6_isInner_77 C _  _ _ _ h
def f_X6_isInner (a1 : Int32) (a2 : Int32) (σ : St) : Option (Int32 × St) :=
  bd (f_X6_isThere a1 a2 (1 : Int32) σ) fun v1 σ2 =>
  if v1 = 0 then
    f_X6_isInner_76 σ2
  else
    bd (f_X6_isThere (a1 - (1 : Int32)) a2 (1 : Int32) σ2) fun v3 σ4 =>
    if v3 = 0 then
      f_X6_isInner_76 σ4
    else
      bd (f_X6_isThere a1 (a2 - (1 : Int32)) (1 : Int32) σ4) fun v5 σ6 =>
      if v5 = 0 then
        f_X6_isInner_76 σ6
      else
        bd (f_X6_isThere (a1 - (1 : Int32)) a2 (0 : Int32) σ6) fun v7 σ8 =>
        if v7 = 0 then
          f_X6_isInner_76 σ8
        else
          bd (f_X6_isThere (a1 - (1 : Int32)) (a2 - (1 : Int32)) (0 : Int32) σ8) fun v9 σ10 =>
          if v9 = 0 then
            f_X6_isInner_76 σ10
          else
            bd (f_X6_isThere a1 (a2 - (1 : Int32)) (0 : Int32) σ10) fun v11 σ12 =>
            if v11 = 0 then
              f_X6_isInner_76 σ12
            else
              f_X6_isInner_77 (1 : Int32) σ12
set_option maxRecDepth 100000 in
set_option maxHeartbeats 4000000 in
theorem c_X6_isInner {g : Geo} {a1 : Int32} {a2 : Int32} {σ : St} {r : Int32} {σ' : St} (h : f_X6_isInner a1 a2 σ = some (r, σ')) : Ct g yX6_isInner cX6_isInner 3 (some .boolean) rm_X6_isInner [.ref (g.1 26), .int a1, .int a2] σ (some (.int r)) σ' := by
  refine ct_of (own := RX6) (by decide) rfl (Nat.le_of_ble_eq_true rfl) (fun x C => ?_) ⟨rfl, rfl⟩
  show V g x _ 3 σ [(0, .ref (g.1 26)), (1, .int a1), (2, .int a2)] [] 0
  unfold f_X6_isInner at h
  refine v_aload_n C dX6_isInner_0 rfl 0 rfl ?_
  refine v_iload_n C dX6_isInner_1 rfl 1 rfl ?_
  refine v_iload_n C dX6_isInner_2 rfl 2 rfl ?_
  refine v_iconst C (v := (1 : Int32)) dX6_isInner_3 (by decide) ?_
  obtain ⟨v1, σ2, cσ2, h⟩ := bd_some h
  refine callVi C (c_X6_isThere cσ2) km_X6_isThere kv_X6_isThere rfl ml_RX6_164 rfl rfl (by decide) (Nat.le_of_ble_eq_true rfl) dX6_isInner_4 ?_
  refine v_if_eq C (tgt := 76) dX6_isInner_7 (by decide) (fun q18 => ?_) (fun q18 => ?_)
  · rw [if_pos q18] at h
    refine V.sub (lv' := []) [] rfl ?_
    exact b_X6_isInner_76 C  _ _ _ h
  · rw [if_neg q18] at h
    refine v_aload_n C dX6_isInner_10 rfl 0 rfl ?_
    refine v_iload_n C dX6_isInner_11 rfl 1 rfl ?_
    refine v_iconst C (v := (1 : Int32)) dX6_isInner_12 (by decide) ?_
    refine v_isub C dX6_isInner_13 ?_
    refine v_iload_n C dX6_isInner_14 rfl 2 rfl ?_
    refine v_iconst C (v := (1 : Int32)) dX6_isInner_15 (by decide) ?_
    obtain ⟨v3, σ4, cσ4, h⟩ := bd_some h
    refine callVi C (c_X6_isThere cσ4) km_X6_isThere kv_X6_isThere rfl ml_RX6_164 rfl rfl (by decide) (Nat.le_of_ble_eq_true rfl) dX6_isInner_16 ?_
    refine v_if_eq C (tgt := 76) dX6_isInner_19 (by decide) (fun q17 => ?_) (fun q17 => ?_)
    · rw [if_pos q17] at h
      refine V.sub (lv' := []) [] rfl ?_
      exact b_X6_isInner_76 C  _ _ _ h
    · rw [if_neg q17] at h
      refine v_aload_n C dX6_isInner_22 rfl 0 rfl ?_
      refine v_iload_n C dX6_isInner_23 rfl 1 rfl ?_
      refine v_iload_n C dX6_isInner_24 rfl 2 rfl ?_
      refine v_iconst C (v := (1 : Int32)) dX6_isInner_25 (by decide) ?_
      refine v_isub C dX6_isInner_26 ?_
      refine v_iconst C (v := (1 : Int32)) dX6_isInner_27 (by decide) ?_
      obtain ⟨v5, σ6, cσ6, h⟩ := bd_some h
      refine callVi C (c_X6_isThere cσ6) km_X6_isThere kv_X6_isThere rfl ml_RX6_164 rfl rfl (by decide) (Nat.le_of_ble_eq_true rfl) dX6_isInner_28 ?_
      refine v_if_eq C (tgt := 76) dX6_isInner_31 (by decide) (fun q16 => ?_) (fun q16 => ?_)
      · rw [if_pos q16] at h
        refine V.sub (lv' := []) [] rfl ?_
        exact b_X6_isInner_76 C  _ _ _ h
      · rw [if_neg q16] at h
        refine v_aload_n C dX6_isInner_34 rfl 0 rfl ?_
        refine v_iload_n C dX6_isInner_35 rfl 1 rfl ?_
        refine v_iconst C (v := (1 : Int32)) dX6_isInner_36 (by decide) ?_
        refine v_isub C dX6_isInner_37 ?_
        refine v_iload_n C dX6_isInner_38 rfl 2 rfl ?_
        refine v_iconst C (v := (0 : Int32)) dX6_isInner_39 (by decide) ?_
        obtain ⟨v7, σ8, cσ8, h⟩ := bd_some h
        refine callVi C (c_X6_isThere cσ8) km_X6_isThere kv_X6_isThere rfl ml_RX6_164 rfl rfl (by decide) (Nat.le_of_ble_eq_true rfl) dX6_isInner_40 ?_
        refine v_if_eq C (tgt := 76) dX6_isInner_43 (by decide) (fun q15 => ?_) (fun q15 => ?_)
        · rw [if_pos q15] at h
          refine V.sub (lv' := []) [] rfl ?_
          exact b_X6_isInner_76 C  _ _ _ h
        · rw [if_neg q15] at h
          refine v_aload_n C dX6_isInner_46 rfl 0 rfl ?_
          refine v_iload_n C dX6_isInner_47 rfl 1 rfl ?_
          refine v_iconst C (v := (1 : Int32)) dX6_isInner_48 (by decide) ?_
          refine v_isub C dX6_isInner_49 ?_
          refine v_iload_n C dX6_isInner_50 rfl 2 rfl ?_
          refine v_iconst C (v := (1 : Int32)) dX6_isInner_51 (by decide) ?_
          refine v_isub C dX6_isInner_52 ?_
          refine v_iconst C (v := (0 : Int32)) dX6_isInner_53 (by decide) ?_
          obtain ⟨v9, σ10, cσ10, h⟩ := bd_some h
          refine callVi C (c_X6_isThere cσ10) km_X6_isThere kv_X6_isThere rfl ml_RX6_164 rfl rfl (by decide) (Nat.le_of_ble_eq_true rfl) dX6_isInner_54 ?_
          refine v_if_eq C (tgt := 76) dX6_isInner_57 (by decide) (fun q14 => ?_) (fun q14 => ?_)
          · rw [if_pos q14] at h
            refine V.sub (lv' := []) [] rfl ?_
            exact b_X6_isInner_76 C  _ _ _ h
          · rw [if_neg q14] at h
            refine v_aload_n C dX6_isInner_60 rfl 0 rfl ?_
            refine v_iload_n C dX6_isInner_61 rfl 1 rfl ?_
            refine v_iload_n C dX6_isInner_62 rfl 2 rfl ?_
            refine v_iconst C (v := (1 : Int32)) dX6_isInner_63 (by decide) ?_
            refine v_isub C dX6_isInner_64 ?_
            refine v_iconst C (v := (0 : Int32)) dX6_isInner_65 (by decide) ?_
            obtain ⟨v11, σ12, cσ12, h⟩ := bd_some h
            refine callVi C (c_X6_isThere cσ12) km_X6_isThere kv_X6_isThere rfl ml_RX6_164 rfl rfl (by decide) (Nat.le_of_ble_eq_true rfl) dX6_isInner_66 ?_
            refine v_if_eq C (tgt := 76) dX6_isInner_69 (by decide) (fun q13 => ?_) (fun q13 => ?_)
            · rw [if_pos q13] at h
              refine V.sub (lv' := []) [] rfl ?_
              exact b_X6_isInner_76 C  _ _ _ h
            · rw [if_neg q13] at h
              refine v_iconst C (v := (1 : Int32)) dX6_isInner_72 (by decide) ?_
              refine v_goto C (tgt := 77) dX6_isInner_73 (by decide) ?_
              refine V.sub (lv' := []) [] rfl ?_
              exact b_X6_isInner_77 C _  _ _ _ h
theorem dX6_pointOf_0 : decode cX6_pointOf 0 = .ok (.aload_n 0, 1) := by decide +kernel
theorem dX6_pointOf_1 : decode cX6_pointOf 1 = .ok (.iload_n 2, 1) := by decide +kernel
theorem dX6_pointOf_2 : decode cX6_pointOf 2 = .ok (.iload_n 3, 1) := by decide +kernel
theorem dX6_pointOf_3 : decode cX6_pointOf 3 = .ok (.invokevirtual 168, 3) := by decide +kernel
theorem dX6_pointOf_6 : decode cX6_pointOf 6 = .ok (.ifCond .ne 5, 3) := by decide +kernel
theorem dX6_pointOf_9 : decode cX6_pointOf 9 = .ok (.iconst 0, 1) := by decide +kernel
theorem dX6_pointOf_10 : decode cX6_pointOf 10 = .ok (.ireturn, 1) := by decide +kernel
theorem dX6_pointOf_11 : decode cX6_pointOf 11 = .ok (.bipush 64, 2) := by decide +kernel
theorem dX6_pointOf_13 : decode cX6_pointOf 13 = .ok (.iload_n 1, 1) := by decide +kernel
theorem dX6_pointOf_14 : decode cX6_pointOf 14 = .ok (.imul, 1) := by decide +kernel
theorem dX6_pointOf_15 : decode cX6_pointOf 15 = .ok (.iload_n 3, 1) := by decide +kernel
theorem dX6_pointOf_16 : decode cX6_pointOf 16 = .ok (.aload_n 0, 1) := by decide +kernel
theorem dX6_pointOf_17 : decode cX6_pointOf 17 = .ok (.getfield 70, 3) := by decide +kernel
theorem dX6_pointOf_20 : decode cX6_pointOf 20 = .ok (.imul, 1) := by decide +kernel
theorem dX6_pointOf_21 : decode cX6_pointOf 21 = .ok (.iadd, 1) := by decide +kernel
theorem dX6_pointOf_22 : decode cX6_pointOf 22 = .ok (.iload_n 2, 1) := by decide +kernel
theorem dX6_pointOf_23 : decode cX6_pointOf 23 = .ok (.iadd, 1) := by decide +kernel
theorem dX6_pointOf_24 : decode cX6_pointOf 24 = .ok (.istore 4, 2) := by decide +kernel
theorem dX6_pointOf_26 : decode cX6_pointOf 26 = .ok (.bipush 100, 2) := by decide +kernel
theorem dX6_pointOf_28 : decode cX6_pointOf 28 = .ok (.aload_n 0, 1) := by decide +kernel
theorem dX6_pointOf_29 : decode cX6_pointOf 29 = .ok (.getfield 20, 3) := by decide +kernel
theorem dX6_pointOf_32 : decode cX6_pointOf 32 = .ok (.iload 4, 2) := by decide +kernel
theorem dX6_pointOf_34 : decode cX6_pointOf 34 = .ok (.iaload, 1) := by decide +kernel
theorem dX6_pointOf_35 : decode cX6_pointOf 35 = .ok (.imul, 1) := by decide +kernel
theorem dX6_pointOf_36 : decode cX6_pointOf 36 = .ok (.bipush 10, 2) := by decide +kernel
theorem dX6_pointOf_38 : decode cX6_pointOf 38 = .ok (.aload_n 0, 1) := by decide +kernel
theorem dX6_pointOf_39 : decode cX6_pointOf 39 = .ok (.getfield 20, 3) := by decide +kernel
theorem dX6_pointOf_42 : decode cX6_pointOf 42 = .ok (.iload 4, 2) := by decide +kernel
theorem dX6_pointOf_44 : decode cX6_pointOf 44 = .ok (.iconst 1, 1) := by decide +kernel
theorem dX6_pointOf_45 : decode cX6_pointOf 45 = .ok (.isub, 1) := by decide +kernel
theorem dX6_pointOf_46 : decode cX6_pointOf 46 = .ok (.iaload, 1) := by decide +kernel
theorem dX6_pointOf_47 : decode cX6_pointOf 47 = .ok (.imul, 1) := by decide +kernel
theorem dX6_pointOf_48 : decode cX6_pointOf 48 = .ok (.iadd, 1) := by decide +kernel
theorem dX6_pointOf_49 : decode cX6_pointOf 49 = .ok (.aload_n 0, 1) := by decide +kernel
theorem dX6_pointOf_50 : decode cX6_pointOf 50 = .ok (.getfield 20, 3) := by decide +kernel
theorem dX6_pointOf_53 : decode cX6_pointOf 53 = .ok (.iload 4, 2) := by decide +kernel
theorem dX6_pointOf_55 : decode cX6_pointOf 55 = .ok (.aload_n 0, 1) := by decide +kernel
theorem dX6_pointOf_56 : decode cX6_pointOf 56 = .ok (.getfield 70, 3) := by decide +kernel
theorem dX6_pointOf_59 : decode cX6_pointOf 59 = .ok (.isub, 1) := by decide +kernel
theorem dX6_pointOf_60 : decode cX6_pointOf 60 = .ok (.iaload, 1) := by decide +kernel
theorem dX6_pointOf_61 : decode cX6_pointOf 61 = .ok (.iadd, 1) := by decide +kernel
theorem dX6_pointOf_62 : decode cX6_pointOf 62 = .ok (.istore 5, 2) := by decide +kernel
theorem dX6_pointOf_64 : decode cX6_pointOf 64 = .ok (.iload 5, 2) := by decide +kernel
theorem dX6_pointOf_66 : decode cX6_pointOf 66 = .ok (.bipush 120, 2) := by decide +kernel
theorem dX6_pointOf_68 : decode cX6_pointOf 68 = .ok (.if_icmp .ne 7, 3) := by decide +kernel
theorem dX6_pointOf_71 : decode cX6_pointOf 71 = .ok (.iconst 2, 1) := by decide +kernel
theorem dX6_pointOf_72 : decode cX6_pointOf 72 = .ok (.goto 16, 3) := by decide +kernel
theorem dX6_pointOf_75 : decode cX6_pointOf 75 = .ok (.iload 5, 2) := by decide +kernel
theorem dX6_pointOf_77 : decode cX6_pointOf 77 = .ok (.sipush 201, 3) := by decide +kernel
theorem dX6_pointOf_80 : decode cX6_pointOf 80 = .ok (.if_icmp .ne 7, 3) := by decide +kernel
theorem dX6_pointOf_83 : decode cX6_pointOf 83 = .ok (.iconst 3, 1) := by decide +kernel
theorem dX6_pointOf_84 : decode cX6_pointOf 84 = .ok (.goto 4, 3) := by decide +kernel
theorem dX6_pointOf_87 : decode cX6_pointOf 87 = .ok (.iconst 1, 1) := by decide +kernel
theorem dX6_pointOf_88 : decode cX6_pointOf 88 = .ok (.ireturn, 1) := by decide +kernel
def f_X6_pointOf_88 (s0 : Int32) (σ : St) : Option (Int32 × St) :=
  some (s0, σ)
set_option maxRecDepth 100000 in
set_option maxHeartbeats 4000000 in
theorem b_X6_pointOf_88 {g : Geo} {x : Cx} (C : Ok g x cX6_pointOf RX6 6 (some .int) rm_X6_pointOf) : ∀ (s0 : Int32) (σ : St) (r : Int32) (σ' : St), f_X6_pointOf_88 s0 σ = some (r, σ') → V g x (qm g x (some (.int r)) σ') 6 σ [] [.int s0] 88 := by
  intro s0 σ r σ' h
  unfold f_X6_pointOf_88 at h
  cases h
  exact v_iret C dX6_pointOf_88
def f_X6_pointOf (a1 : Int32) (a2 : Int32) (a3 : Int32) (σ : St) : Option (Int32 × St) :=
  bd (f_X6_isInner a2 a3 σ) fun v1 σ2 =>
  if v1 = 0 then
    some ((0 : Int32), σ2)
  else
    rdI σ2 30 ((((64 : Int32) * a1) + (a3 * (gi σ2 26 0))) + a2) fun v3 =>
    rdI σ2 30 (((((64 : Int32) * a1) + (a3 * (gi σ2 26 0))) + a2) - (1 : Int32)) fun v4 =>
    rdI σ2 30 (((((64 : Int32) * a1) + (a3 * (gi σ2 26 0))) + a2) - (gi σ2 26 0)) fun v5 =>
    if ((((100 : Int32) * v3) + ((10 : Int32) * v4)) + v5) = (120 : Int32) then
      f_X6_pointOf_88 (2 : Int32) σ2
    else
      if ((((100 : Int32) * v3) + ((10 : Int32) * v4)) + v5) = (201 : Int32) then
        f_X6_pointOf_88 (3 : Int32) σ2
      else
        f_X6_pointOf_88 (1 : Int32) σ2
set_option maxRecDepth 100000 in
set_option maxHeartbeats 4000000 in
theorem c_X6_pointOf {g : Geo} {a1 : Int32} {a2 : Int32} {a3 : Int32} {σ : St} {r : Int32} {σ' : St} (h : f_X6_pointOf a1 a2 a3 σ = some (r, σ')) : Ct g yX6_pointOf cX6_pointOf 6 (some .int) rm_X6_pointOf [.ref (g.1 26), .int a1, .int a2, .int a3] σ (some (.int r)) σ' := by
  refine ct_of (own := RX6) (by decide) rfl (Nat.le_of_ble_eq_true rfl) (fun x C => ?_) ⟨rfl, rfl⟩
  show V g x _ 6 σ [(0, .ref (g.1 26)), (1, .int a1), (2, .int a2), (3, .int a3)] [] 0
  unfold f_X6_pointOf at h
  refine v_aload_n C dX6_pointOf_0 rfl 0 rfl ?_
  refine v_iload_n C dX6_pointOf_1 rfl 2 rfl ?_
  refine v_iload_n C dX6_pointOf_2 rfl 3 rfl ?_
  obtain ⟨v1, σ2, cσ2, h⟩ := bd_some h
  refine callVi C (c_X6_isInner cσ2) km_X6_isInner kv_X6_isInner rfl ml_RX6_168 rfl rfl (by decide) (Nat.le_of_ble_eq_true rfl) dX6_pointOf_3 ?_
  refine v_if_ne C (tgt := 11) dX6_pointOf_6 (by decide) (fun q8 => ?_) (fun q8 => ?_)
  · rw [if_neg q8] at h
    refine v_bipush C (v := (64 : Int32)) dX6_pointOf_11 (by decide) ?_
    refine v_iload_n C dX6_pointOf_13 rfl 1 rfl ?_
    refine v_imul C dX6_pointOf_14 ?_
    refine v_iload_n C dX6_pointOf_15 rfl 3 rfl ?_
    refine v_aload_n C dX6_pointOf_16 rfl 0 rfl ?_
    refine v_getI C fl_RX6_70 rfl dX6_pointOf_17 ?_
    refine v_imul C dX6_pointOf_20 ?_
    refine v_iadd C dX6_pointOf_21 ?_
    refine v_iload_n C dX6_pointOf_22 rfl 2 rfl ?_
    refine v_iadd C dX6_pointOf_23 ?_
    refine v_istore C (lv' := [(4, .int _), (0, .ref _), (1, .int _), (2, .int _), (3, .int _)]) dX6_pointOf_24 (by decide) rfl ?_
    refine v_bipush C (v := (100 : Int32)) dX6_pointOf_26 (by decide) ?_
    refine v_aload_n C dX6_pointOf_28 rfl 1 rfl ?_
    refine v_getR C (p' := 30) fl_RX6_20 rfl rfl dX6_pointOf_29 ?_
    refine v_iload C dX6_pointOf_32 0 rfl ?_
    obtain ⟨nv3, v3, ev3, h⟩ := rdI_ex h
    refine x_iald C rfl nv3 ev3 dX6_pointOf_34 ?_
    refine v_imul C dX6_pointOf_35 ?_
    refine v_bipush C (v := (10 : Int32)) dX6_pointOf_36 (by decide) ?_
    refine v_aload_n C dX6_pointOf_38 rfl 1 rfl ?_
    refine v_getR C (p' := 30) fl_RX6_20 rfl rfl dX6_pointOf_39 ?_
    refine v_iload C dX6_pointOf_42 0 rfl ?_
    refine v_iconst C (v := (1 : Int32)) dX6_pointOf_44 (by decide) ?_
    refine v_isub C dX6_pointOf_45 ?_
    obtain ⟨nv4, v4, ev4, h⟩ := rdI_ex h
    refine x_iald C rfl nv4 ev4 dX6_pointOf_46 ?_
    refine v_imul C dX6_pointOf_47 ?_
    refine v_iadd C dX6_pointOf_48 ?_
    refine v_aload_n C dX6_pointOf_49 rfl 1 rfl ?_
    refine v_getR C (p' := 30) fl_RX6_20 rfl rfl dX6_pointOf_50 ?_
    refine v_iload C dX6_pointOf_53 0 rfl ?_
    refine v_aload_n C dX6_pointOf_55 rfl 1 rfl ?_
    refine v_getI C fl_RX6_70 rfl dX6_pointOf_56 ?_
    refine v_isub C dX6_pointOf_59 ?_
    obtain ⟨nv5, v5, ev5, h⟩ := rdI_ex h
    refine x_iald C rfl nv5 ev5 dX6_pointOf_60 ?_
    refine v_iadd C dX6_pointOf_61 ?_
    refine v_istore C (lv' := [(5, .int _), (4, .int _), (0, .ref _), (1, .int _), (2, .int _), (3, .int _)]) dX6_pointOf_62 (by decide) rfl ?_
    refine v_iload C dX6_pointOf_64 0 rfl ?_
    refine v_bipush C (v := (120 : Int32)) dX6_pointOf_66 (by decide) ?_
    refine v_icmp_ne C (tgt := 75) dX6_pointOf_68 (by decide) (fun q7 => ?_) (fun q7 => ?_)
    · rw [if_neg q7] at h
      refine v_iload C dX6_pointOf_75 0 rfl ?_
      refine v_sipush C (v := (201 : Int32)) dX6_pointOf_77 (by decide) ?_
      refine v_icmp_ne C (tgt := 87) dX6_pointOf_80 (by decide) (fun q6 => ?_) (fun q6 => ?_)
      · rw [if_neg q6] at h
        refine v_iconst C (v := (1 : Int32)) dX6_pointOf_87 (by decide) ?_
        refine V.sub (lv' := []) [] rfl ?_
        exact b_X6_pointOf_88 C _  _ _ _ h
      · rw [if_pos q6] at h
        refine v_iconst C (v := (3 : Int32)) dX6_pointOf_83 (by decide) ?_
        refine v_goto C (tgt := 88) dX6_pointOf_84 (by decide) ?_
        refine V.sub (lv' := []) [] rfl ?_
        exact b_X6_pointOf_88 C _  _ _ _ h
    · rw [if_pos q7] at h
      refine v_iconst C (v := (2 : Int32)) dX6_pointOf_71 (by decide) ?_
      refine v_goto C (tgt := 88) dX6_pointOf_72 (by decide) ?_
      refine V.sub (lv' := []) [] rfl ?_
      exact b_X6_pointOf_88 C _  _ _ _ h
  · rw [if_pos q8] at h
    refine v_iconst C (v := (0 : Int32)) dX6_pointOf_9 (by decide) ?_
    cases h
    exact v_iret C dX6_pointOf_10
theorem dX6_turnOver_0 : decode cX6_turnOver 0 = .ok (.bipush 64, 2) := by decide +kernel
theorem dX6_turnOver_2 : decode cX6_turnOver 2 = .ok (.iload_n 1, 1) := by decide +kernel
theorem dX6_turnOver_3 : decode cX6_turnOver 3 = .ok (.imul, 1) := by decide +kernel
theorem dX6_turnOver_4 : decode cX6_turnOver 4 = .ok (.iload_n 3, 1) := by decide +kernel
theorem dX6_turnOver_5 : decode cX6_turnOver 5 = .ok (.aload_n 0, 1) := by decide +kernel
theorem dX6_turnOver_6 : decode cX6_turnOver 6 = .ok (.getfield 70, 3) := by decide +kernel
theorem dX6_turnOver_9 : decode cX6_turnOver 9 = .ok (.imul, 1) := by decide +kernel
theorem dX6_turnOver_10 : decode cX6_turnOver 10 = .ok (.iadd, 1) := by decide +kernel
theorem dX6_turnOver_11 : decode cX6_turnOver 11 = .ok (.iload_n 2, 1) := by decide +kernel
theorem dX6_turnOver_12 : decode cX6_turnOver 12 = .ok (.iadd, 1) := by decide +kernel
theorem dX6_turnOver_13 : decode cX6_turnOver 13 = .ok (.istore 4, 2) := by decide +kernel
theorem dX6_turnOver_15 : decode cX6_turnOver 15 = .ok (.aload_n 0, 1) := by decide +kernel
theorem dX6_turnOver_16 : decode cX6_turnOver 16 = .ok (.getfield 20, 3) := by decide +kernel
theorem dX6_turnOver_19 : decode cX6_turnOver 19 = .ok (.iload 4, 2) := by decide +kernel
theorem dX6_turnOver_21 : decode cX6_turnOver 21 = .ok (.iaload, 1) := by decide +kernel
theorem dX6_turnOver_22 : decode cX6_turnOver 22 = .ok (.iconst 1, 1) := by decide +kernel
theorem dX6_turnOver_23 : decode cX6_turnOver 23 = .ok (.if_icmp .ne 7, 3) := by decide +kernel
theorem dX6_turnOver_26 : decode cX6_turnOver 26 = .ok (.iconst 1, 1) := by decide +kernel
theorem dX6_turnOver_27 : decode cX6_turnOver 27 = .ok (.goto 4, 3) := by decide +kernel
theorem dX6_turnOver_30 : decode cX6_turnOver 30 = .ok (.iconst 0, 1) := by decide +kernel
theorem dX6_turnOver_31 : decode cX6_turnOver 31 = .ok (.istore 5, 2) := by decide +kernel
theorem dX6_turnOver_33 : decode cX6_turnOver 33 = .ok (.aload_n 0, 1) := by decide +kernel
theorem dX6_turnOver_34 : decode cX6_turnOver 34 = .ok (.getfield 20, 3) := by decide +kernel
theorem dX6_turnOver_37 : decode cX6_turnOver 37 = .ok (.iload 4, 2) := by decide +kernel
theorem dX6_turnOver_39 : decode cX6_turnOver 39 = .ok (.iload 5, 2) := by decide +kernel
theorem dX6_turnOver_41 : decode cX6_turnOver 41 = .ok (.ifCond .eq 7, 3) := by decide +kernel
theorem dX6_turnOver_44 : decode cX6_turnOver 44 = .ok (.iconst 2, 1) := by decide +kernel
theorem dX6_turnOver_45 : decode cX6_turnOver 45 = .ok (.goto 4, 3) := by decide +kernel
theorem dX6_turnOver_48 : decode cX6_turnOver 48 = .ok (.iconst 1, 1) := by decide +kernel
theorem dX6_turnOver_49 : decode cX6_turnOver 49 = .ok (.iastore, 1) := by decide +kernel
theorem dX6_turnOver_50 : decode cX6_turnOver 50 = .ok (.aload_n 0, 1) := by decide +kernel
theorem dX6_turnOver_51 : decode cX6_turnOver 51 = .ok (.getfield 20, 3) := by decide +kernel
theorem dX6_turnOver_54 : decode cX6_turnOver 54 = .ok (.iload 4, 2) := by decide +kernel
theorem dX6_turnOver_56 : decode cX6_turnOver 56 = .ok (.iconst 1, 1) := by decide +kernel
theorem dX6_turnOver_57 : decode cX6_turnOver 57 = .ok (.isub, 1) := by decide +kernel
theorem dX6_turnOver_58 : decode cX6_turnOver 58 = .ok (.iload 5, 2) := by decide +kernel
theorem dX6_turnOver_60 : decode cX6_turnOver 60 = .ok (.ifCond .eq 7, 3) := by decide +kernel
theorem dX6_turnOver_63 : decode cX6_turnOver 63 = .ok (.iconst 0, 1) := by decide +kernel
theorem dX6_turnOver_64 : decode cX6_turnOver 64 = .ok (.goto 4, 3) := by decide +kernel
theorem dX6_turnOver_67 : decode cX6_turnOver 67 = .ok (.iconst 2, 1) := by decide +kernel
theorem dX6_turnOver_68 : decode cX6_turnOver 68 = .ok (.iastore, 1) := by decide +kernel
theorem dX6_turnOver_69 : decode cX6_turnOver 69 = .ok (.aload_n 0, 1) := by decide +kernel
theorem dX6_turnOver_70 : decode cX6_turnOver 70 = .ok (.getfield 20, 3) := by decide +kernel
theorem dX6_turnOver_73 : decode cX6_turnOver 73 = .ok (.iload 4, 2) := by decide +kernel
theorem dX6_turnOver_75 : decode cX6_turnOver 75 = .ok (.aload_n 0, 1) := by decide +kernel
theorem dX6_turnOver_76 : decode cX6_turnOver 76 = .ok (.getfield 70, 3) := by decide +kernel
theorem dX6_turnOver_79 : decode cX6_turnOver 79 = .ok (.isub, 1) := by decide +kernel
theorem dX6_turnOver_80 : decode cX6_turnOver 80 = .ok (.iload 5, 2) := by decide +kernel
theorem dX6_turnOver_82 : decode cX6_turnOver 82 = .ok (.ifCond .eq 7, 3) := by decide +kernel
theorem dX6_turnOver_85 : decode cX6_turnOver 85 = .ok (.iconst 1, 1) := by decide +kernel
theorem dX6_turnOver_86 : decode cX6_turnOver 86 = .ok (.goto 4, 3) := by decide +kernel
theorem dX6_turnOver_89 : decode cX6_turnOver 89 = .ok (.iconst 0, 1) := by decide +kernel
theorem dX6_turnOver_90 : decode cX6_turnOver 90 = .ok (.iastore, 1) := by decide +kernel
theorem dX6_turnOver_91 : decode cX6_turnOver 91 = .ok (.return_, 1) := by decide +kernel
def f_X6_turnOver_90 (s1 : Int32) (s2 : Int32) (σ : St) : Option (Unit × St) :=
  wrI σ 30 s1 s2 fun σ1 =>
  some ((), σ1)
set_option maxRecDepth 100000 in
set_option maxHeartbeats 4000000 in
theorem b_X6_turnOver_90 {g : Geo} {x : Cx} (C : Ok g x cX6_turnOver RX6 6 none rm_X6_turnOver) : ∀ (s1 : Int32) (s2 : Int32) (σ : St) (r : Unit) (σ' : St), f_X6_turnOver_90 s1 s2 σ = some (r, σ') → V g x (qm g x none σ') 6 σ [] [.int s2, .int s1, .ref (g.1 30)] 90 := by
  intro s1 s2 σ r σ' h
  unfold f_X6_turnOver_90 at h
  obtain ⟨nσ1, σ1, eσ1, h⟩ := wrI_ex h
  refine x_iast C rfl nσ1 eσ1 dX6_turnOver_90 ?_
  cases h
  exact v_vret C dX6_turnOver_91
def f_X6_turnOver_68 (x4 : Int32) (x5 : Int32) (s1 : Int32) (s2 : Int32) (σ : St) : Option (Unit × St) :=
  wrI σ 30 s1 s2 fun σ1 =>
  if x5 = 0 then
    f_X6_turnOver_90 (x4 - (gi σ1 26 0)) (0 : Int32) σ1
  else
    f_X6_turnOver_90 (x4 - (gi σ1 26 0)) (1 : Int32) σ1
set_option maxRecDepth 100000 in
set_option maxHeartbeats 4000000 in
theorem b_X6_turnOver_68 {g : Geo} {x : Cx} (C : Ok g x cX6_turnOver RX6 6 none rm_X6_turnOver) : ∀ (x4 : Int32) (x5 : Int32) (s1 : Int32) (s2 : Int32) (σ : St) (r : Unit) (σ' : St), f_X6_turnOver_68 x4 x5 s1 s2 σ = some (r, σ') → V g x (qm g x none σ') 6 σ [(0, .ref (g.1 26)), (4, .int x4), (5, .int x5)] [.int s2, .int s1, .ref (g.1 30)] 68 := by
  intro x4 x5 s1 s2 σ r σ' h
  unfold f_X6_turnOver_68 at h
  obtain ⟨nσ1, σ1, eσ1, h⟩ := wrI_ex h
  refine x_iast C rfl nσ1 eσ1 dX6_turnOver_68 ?_
  refine v_aload_n C dX6_turnOver_69 rfl 0 rfl ?_
  refine v_getR C (p' := 30) fl_RX6_20 rfl rfl dX6_turnOver_70 ?_
  refine v_iload C dX6_turnOver_73 1 rfl ?_
  refine v_aload_n C dX6_turnOver_75 rfl 0 rfl ?_
  refine v_getI C fl_RX6_70 rfl dX6_turnOver_76 ?_
  refine v_isub C dX6_turnOver_79 ?_
  refine v_iload C dX6_turnOver_80 2 rfl ?_
  refine v_if_eq C (tgt := 89) dX6_turnOver_82 (by decide) (fun q2 => ?_) (fun q2 => ?_)
  · rw [if_pos q2] at h
    refine v_iconst C (v := (0 : Int32)) dX6_turnOver_89 (by decide) ?_
    refine V.sub (lv' := []) [] rfl ?_
    exact b_X6_turnOver_90 C _ _  _ _ _ h
  · rw [if_neg q2] at h
    refine v_iconst C (v := (1 : Int32)) dX6_turnOver_85 (by decide) ?_
    refine v_goto C (tgt := 90) dX6_turnOver_86 (by decide) ?_
    refine V.sub (lv' := []) [] rfl ?_
    exact b_X6_turnOver_90 C _ _  _ _ _ h
def f_X6_turnOver_49 (x4 : Int32) (x5 : Int32) (s1 : Int32) (s2 : Int32) (σ : St) : Option (Unit × St) :=
  wrI σ 30 s1 s2 fun σ1 =>
  if x5 = 0 then
    f_X6_turnOver_68 x4 x5 (x4 - (1 : Int32)) (2 : Int32) σ1
  else
    f_X6_turnOver_68 x4 x5 (x4 - (1 : Int32)) (0 : Int32) σ1
set_option maxRecDepth 100000 in
set_option maxHeartbeats 4000000 in
theorem b_X6_turnOver_49 {g : Geo} {x : Cx} (C : Ok g x cX6_turnOver RX6 6 none rm_X6_turnOver) : ∀ (x4 : Int32) (x5 : Int32) (s1 : Int32) (s2 : Int32) (σ : St) (r : Unit) (σ' : St), f_X6_turnOver_49 x4 x5 s1 s2 σ = some (r, σ') → V g x (qm g x none σ') 6 σ [(0, .ref (g.1 26)), (4, .int x4), (5, .int x5)] [.int s2, .int s1, .ref (g.1 30)] 49 := by
  intro x4 x5 s1 s2 σ r σ' h
  unfold f_X6_turnOver_49 at h
  obtain ⟨nσ1, σ1, eσ1, h⟩ := wrI_ex h
  refine x_iast C rfl nσ1 eσ1 dX6_turnOver_49 ?_
  refine v_aload_n C dX6_turnOver_50 rfl 0 rfl ?_
  refine v_getR C (p' := 30) fl_RX6_20 rfl rfl dX6_turnOver_51 ?_
  refine v_iload C dX6_turnOver_54 1 rfl ?_
  refine v_iconst C (v := (1 : Int32)) dX6_turnOver_56 (by decide) ?_
  refine v_isub C dX6_turnOver_57 ?_
  refine v_iload C dX6_turnOver_58 2 rfl ?_
  refine v_if_eq C (tgt := 67) dX6_turnOver_60 (by decide) (fun q2 => ?_) (fun q2 => ?_)
  · rw [if_pos q2] at h
    refine v_iconst C (v := (2 : Int32)) dX6_turnOver_67 (by decide) ?_
    refine V.sub (lv' := [(0, .ref _), (4, .int _), (5, .int _)]) [0, 1, 2] rfl ?_
    exact b_X6_turnOver_68 C _ _ _ _  _ _ _ h
  · rw [if_neg q2] at h
    refine v_iconst C (v := (0 : Int32)) dX6_turnOver_63 (by decide) ?_
    refine v_goto C (tgt := 68) dX6_turnOver_64 (by decide) ?_
    refine V.sub (lv' := [(0, .ref _), (4, .int _), (5, .int _)]) [0, 1, 2] rfl ?_
    exact b_X6_turnOver_68 C _ _ _ _  _ _ _ h
def f_X6_turnOver_31 (x4 : Int32) (s0 : Int32) (σ : St) : Option (Unit × St) :=
  if s0 = 0 then
    f_X6_turnOver_49 x4 s0 x4 (1 : Int32) σ
  else
    f_X6_turnOver_49 x4 s0 x4 (2 : Int32) σ
set_option maxRecDepth 100000 in
set_option maxHeartbeats 4000000 in
theorem b_X6_turnOver_31 {g : Geo} {x : Cx} (C : Ok g x cX6_turnOver RX6 6 none rm_X6_turnOver) : ∀ (x4 : Int32) (s0 : Int32) (σ : St) (r : Unit) (σ' : St), f_X6_turnOver_31 x4 s0 σ = some (r, σ') → V g x (qm g x none σ') 6 σ [(0, .ref (g.1 26)), (4, .int x4)] [.int s0] 31 := by
  intro x4 s0 σ r σ' h
  unfold f_X6_turnOver_31 at h
  refine v_istore C (lv' := [(5, .int _), (0, .ref _), (4, .int _)]) dX6_turnOver_31 (by decide) rfl ?_
  refine v_aload_n C dX6_turnOver_33 rfl 1 rfl ?_
  refine v_getR C (p' := 30) fl_RX6_20 rfl rfl dX6_turnOver_34 ?_
  refine v_iload C dX6_turnOver_37 2 rfl ?_
  refine v_iload C dX6_turnOver_39 0 rfl ?_
  refine v_if_eq C (tgt := 48) dX6_turnOver_41 (by decide) (fun q1 => ?_) (fun q1 => ?_)
  · rw [if_pos q1] at h
    refine v_iconst C (v := (1 : Int32)) dX6_turnOver_48 (by decide) ?_
    refine V.sub (lv' := [(0, .ref _), (4, .int _), (5, .int _)]) [1, 2, 0] rfl ?_
    exact b_X6_turnOver_49 C _ _ _ _  _ _ _ h
  · rw [if_neg q1] at h
    refine v_iconst C (v := (2 : Int32)) dX6_turnOver_44 (by decide) ?_
    refine v_goto C (tgt := 49) dX6_turnOver_45 (by decide) ?_
    refine V.sub (lv' := [(0, .ref _), (4, .int _), (5, .int _)]) [1, 2, 0] rfl ?_
    exact b_X6_turnOver_49 C _ _ _ _  _ _ _ h
def f_X6_turnOver (a1 : Int32) (a2 : Int32) (a3 : Int32) (σ : St) : Option (Unit × St) :=
  rdI σ 30 ((((64 : Int32) * a1) + (a3 * (gi σ 26 0))) + a2) fun v1 =>
  if v1 = (1 : Int32) then
    f_X6_turnOver_31 ((((64 : Int32) * a1) + (a3 * (gi σ 26 0))) + a2) (1 : Int32) σ
  else
    f_X6_turnOver_31 ((((64 : Int32) * a1) + (a3 * (gi σ 26 0))) + a2) (0 : Int32) σ
set_option maxRecDepth 100000 in
set_option maxHeartbeats 4000000 in
theorem c_X6_turnOver {g : Geo} {a1 : Int32} {a2 : Int32} {a3 : Int32} {σ : St} {r : Unit} {σ' : St} (h : f_X6_turnOver a1 a2 a3 σ = some (r, σ')) : Ct g yX6_turnOver cX6_turnOver 6 none rm_X6_turnOver [.ref (g.1 26), .int a1, .int a2, .int a3] σ none σ' := by
  refine ct_of (own := RX6) (by decide) rfl (Nat.le_of_ble_eq_true rfl) (fun x C => ?_) ⟨rfl, rfl⟩
  show V g x _ 6 σ [(0, .ref (g.1 26)), (1, .int a1), (2, .int a2), (3, .int a3)] [] 0
  unfold f_X6_turnOver at h
  refine v_bipush C (v := (64 : Int32)) dX6_turnOver_0 (by decide) ?_
  refine v_iload_n C dX6_turnOver_2 rfl 1 rfl ?_
  refine v_imul C dX6_turnOver_3 ?_
  refine v_iload_n C dX6_turnOver_4 rfl 3 rfl ?_
  refine v_aload_n C dX6_turnOver_5 rfl 0 rfl ?_
  refine v_getI C fl_RX6_70 rfl dX6_turnOver_6 ?_
  refine v_imul C dX6_turnOver_9 ?_
  refine v_iadd C dX6_turnOver_10 ?_
  refine v_iload_n C dX6_turnOver_11 rfl 2 rfl ?_
  refine v_iadd C dX6_turnOver_12 ?_
  refine v_istore C (lv' := [(4, .int _), (0, .ref _), (1, .int _), (2, .int _), (3, .int _)]) dX6_turnOver_13 (by decide) rfl ?_
  refine v_aload_n C dX6_turnOver_15 rfl 1 rfl ?_
  refine v_getR C (p' := 30) fl_RX6_20 rfl rfl dX6_turnOver_16 ?_
  refine v_iload C dX6_turnOver_19 0 rfl ?_
  obtain ⟨nv1, v1, ev1, h⟩ := rdI_ex h
  refine x_iald C rfl nv1 ev1 dX6_turnOver_21 ?_
  refine v_iconst C (v := (1 : Int32)) dX6_turnOver_22 (by decide) ?_
  refine v_icmp_ne C (tgt := 30) dX6_turnOver_23 (by decide) (fun q2 => ?_) (fun q2 => ?_)
  · rw [if_neg q2] at h
    refine v_iconst C (v := (0 : Int32)) dX6_turnOver_30 (by decide) ?_
    refine V.sub (lv' := [(0, .ref _), (4, .int _)]) [1, 0] rfl ?_
    exact b_X6_turnOver_31 C _ _  _ _ _ h
  · rw [if_pos q2] at h
    refine v_iconst C (v := (1 : Int32)) dX6_turnOver_26 (by decide) ?_
    refine v_goto C (tgt := 31) dX6_turnOver_27 (by decide) ?_
    refine V.sub (lv' := [(0, .ref _), (4, .int _)]) [1, 0] rfl ?_
    exact b_X6_turnOver_31 C _ _  _ _ _ h
theorem dX6_point_0 : decode cX6_point 0 = .ok (.iload_n 1, 1) := by decide +kernel
theorem dX6_point_1 : decode cX6_point 1 = .ok (.invokestatic 155, 3) := by decide +kernel
theorem dX6_point_4 : decode cX6_point 4 = .ok (.ifCond .eq 12, 3) := by decide +kernel
theorem dX6_point_7 : decode cX6_point 7 = .ok (.aload_n 0, 1) := by decide +kernel
theorem dX6_point_8 : decode cX6_point 8 = .ok (.iload_n 2, 1) := by decide +kernel
theorem dX6_point_9 : decode cX6_point 9 = .ok (.iload_n 3, 1) := by decide +kernel
theorem dX6_point_10 : decode cX6_point 10 = .ok (.invokevirtual 172, 3) := by decide +kernel
theorem dX6_point_13 : decode cX6_point 13 = .ok (.ifCond .ne 6, 3) := by decide +kernel
theorem dX6_point_16 : decode cX6_point 16 = .ok (.ldc 97, 2) := by decide +kernel
theorem dX6_point_18 : decode cX6_point 18 = .ok (.ireturn, 1) := by decide +kernel
theorem dX6_point_19 : decode cX6_point 19 = .ok (.aload_n 0, 1) := by decide +kernel
theorem dX6_point_20 : decode cX6_point 20 = .ok (.getfield 17, 3) := by decide +kernel
theorem dX6_point_23 : decode cX6_point 23 = .ok (.iload_n 1, 1) := by decide +kernel
theorem dX6_point_24 : decode cX6_point 24 = .ok (.baload, 1) := by decide +kernel
theorem dX6_point_25 : decode cX6_point 25 = .ok (.ifCond .eq 13, 3) := by decide +kernel
theorem dX6_point_28 : decode cX6_point 28 = .ok (.aload_n 0, 1) := by decide +kernel
theorem dX6_point_29 : decode cX6_point 29 = .ok (.iload_n 1, 1) := by decide +kernel
theorem dX6_point_30 : decode cX6_point 30 = .ok (.iload_n 2, 1) := by decide +kernel
theorem dX6_point_31 : decode cX6_point 31 = .ok (.iload_n 3, 1) := by decide +kernel
theorem dX6_point_32 : decode cX6_point 32 = .ok (.invokevirtual 175, 3) := by decide +kernel
theorem dX6_point_35 : decode cX6_point 35 = .ok (.goto 5, 3) := by decide +kernel
theorem dX6_point_38 : decode cX6_point 38 = .ok (.ldc 158, 2) := by decide +kernel
theorem dX6_point_40 : decode cX6_point 40 = .ok (.ireturn, 1) := by decide +kernel
def f_X6_point_40 (s0 : Int32) (σ : St) : Option (Int32 × St) :=
  some (s0, σ)
set_option maxRecDepth 100000 in
set_option maxHeartbeats 4000000 in
theorem b_X6_point_40 {g : Geo} {x : Cx} (C : Ok g x cX6_point RX6 4 (some .int) rm_X6_point) : ∀ (s0 : Int32) (σ : St) (r : Int32) (σ' : St), f_X6_point_40 s0 σ = some (r, σ') → V g x (qm g x (some (.int r)) σ') 4 σ [] [.int s0] 40 := by
  intro s0 σ r σ' h
  unfold f_X6_point_40 at h
  cases h
  exact v_iret C dX6_point_40
def f_X6_point_16 (σ : St) : Option (Int32 × St) :=
  some ((-900001 : Int32), σ)
set_option maxRecDepth 100000 in
set_option maxHeartbeats 4000000 in
theorem b_X6_point_16 {g : Geo} {x : Cx} (C : Ok g x cX6_point RX6 4 (some .int) rm_X6_point) : ∀ (σ : St) (r : Int32) (σ' : St), f_X6_point_16 σ = some (r, σ') → V g x (qm g x (some (.int r)) σ') 4 σ [] [] 16 := by
  intro σ r σ' h
  unfold f_X6_point_16 at h
  refine v_ldc C (v := (-900001 : Int32)) con_RX6_97 dX6_point_16 ?_
  cases h
  exact v_iret C dX6_point_18
def f_X6_point (a1 : Int32) (a2 : Int32) (a3 : Int32) (σ : St) : Option (Int32 × St) :=
  bd (f_X6_isSlot a1 σ) fun v1 σ2 =>
  if v1 = 0 then
    f_X6_point_16 σ2
  else
    bd (f_X6_isPoint a2 a3 σ2) fun v3 σ4 =>
    if v3 = 0 then
      f_X6_point_16 σ4
    else
      rdI σ4 29 a1 fun v5 =>
      if v5 = 0 then
        f_X6_point_40 (-900003 : Int32) σ4
      else
        bd (f_X6_pointOf a1 a2 a3 σ4) fun v6 σ7 =>
        f_X6_point_40 v6 σ7
set_option maxRecDepth 100000 in
set_option maxHeartbeats 4000000 in
theorem c_X6_point {g : Geo} {a1 : Int32} {a2 : Int32} {a3 : Int32} {σ : St} {r : Int32} {σ' : St} (h : f_X6_point a1 a2 a3 σ = some (r, σ')) : Ct g yX6_point cX6_point 4 (some .int) rm_X6_point [.ref (g.1 26), .int a1, .int a2, .int a3] σ (some (.int r)) σ' := by
  refine ct_of (own := RX6) (by decide) rfl (Nat.le_of_ble_eq_true rfl) (fun x C => ?_) ⟨rfl, rfl⟩
  show V g x _ 4 σ [(0, .ref (g.1 26)), (1, .int a1), (2, .int a2), (3, .int a3)] [] 0
  unfold f_X6_point at h
  refine v_iload_n C dX6_point_0 rfl 1 rfl ?_
  obtain ⟨v1, σ2, cσ2, h⟩ := bd_some h
  refine callSi C (c_X6_isSlot cσ2) km_X6_isSlot ks_X6_isSlot ml_RX6_155 rfl rfl (by decide) (Nat.le_of_ble_eq_true rfl) dX6_point_1 ?_
  refine v_if_eq C (tgt := 16) dX6_point_4 (by decide) (fun q10 => ?_) (fun q10 => ?_)
  · rw [if_pos q10] at h
    refine V.sub (lv' := []) [] rfl ?_
    exact b_X6_point_16 C  _ _ _ h
  · rw [if_neg q10] at h
    refine v_aload_n C dX6_point_7 rfl 0 rfl ?_
    refine v_iload_n C dX6_point_8 rfl 2 rfl ?_
    refine v_iload_n C dX6_point_9 rfl 3 rfl ?_
    obtain ⟨v3, σ4, cσ4, h⟩ := bd_some h
    refine callVi C (c_X6_isPoint cσ4) km_X6_isPoint kv_X6_isPoint rfl ml_RX6_172 rfl rfl (by decide) (Nat.le_of_ble_eq_true rfl) dX6_point_10 ?_
    refine v_if_ne C (tgt := 19) dX6_point_13 (by decide) (fun q9 => ?_) (fun q9 => ?_)
    · rw [if_neg q9] at h
      refine v_aload_n C dX6_point_19 rfl 0 rfl ?_
      refine v_getR C (p' := 29) fl_RX6_17 rfl rfl dX6_point_20 ?_
      refine v_iload_n C dX6_point_23 rfl 1 rfl ?_
      obtain ⟨nv5, v5, ev5, h⟩ := rdI_ex h
      refine x_zald C rfl nv5 ev5 dX6_point_24 ?_
      refine v_if_eq C (tgt := 38) dX6_point_25 (by decide) (fun q8 => ?_) (fun q8 => ?_)
      · rw [if_pos q8] at h
        refine v_ldc C (v := (-900003 : Int32)) con_RX6_158 dX6_point_38 ?_
        refine V.sub (lv' := []) [] rfl ?_
        exact b_X6_point_40 C _  _ _ _ h
      · rw [if_neg q8] at h
        refine v_aload_n C dX6_point_28 rfl 0 rfl ?_
        refine v_iload_n C dX6_point_29 rfl 1 rfl ?_
        refine v_iload_n C dX6_point_30 rfl 2 rfl ?_
        refine v_iload_n C dX6_point_31 rfl 3 rfl ?_
        obtain ⟨v6, σ7, cσ7, h⟩ := bd_some h
        refine callVi C (c_X6_pointOf cσ7) km_X6_pointOf kv_X6_pointOf rfl ml_RX6_175 rfl rfl (by decide) (Nat.le_of_ble_eq_true rfl) dX6_point_32 ?_
        refine v_goto C (tgt := 40) dX6_point_35 (by decide) ?_
        refine V.sub (lv' := []) [] rfl ?_
        exact b_X6_point_40 C _  _ _ _ h
    · rw [if_pos q9] at h
      refine V.sub (lv' := []) [] rfl ?_
      exact b_X6_point_16 C  _ _ _ h
theorem dX6_free_0 : decode cX6_free 0 = .ok (.iload_n 1, 1) := by decide +kernel
theorem dX6_free_1 : decode cX6_free 1 = .ok (.invokestatic 155, 3) := by decide +kernel
theorem dX6_free_4 : decode cX6_free 4 = .ok (.ifCond .ne 6, 3) := by decide +kernel
theorem dX6_free_7 : decode cX6_free 7 = .ok (.ldc 97, 2) := by decide +kernel
theorem dX6_free_9 : decode cX6_free 9 = .ok (.ireturn, 1) := by decide +kernel
theorem dX6_free_10 : decode cX6_free 10 = .ok (.aload_n 0, 1) := by decide +kernel
theorem dX6_free_11 : decode cX6_free 11 = .ok (.getfield 17, 3) := by decide +kernel
theorem dX6_free_14 : decode cX6_free 14 = .ok (.iload_n 1, 1) := by decide +kernel
theorem dX6_free_15 : decode cX6_free 15 = .ok (.baload, 1) := by decide +kernel
theorem dX6_free_16 : decode cX6_free 16 = .ok (.ifCond .ne 6, 3) := by decide +kernel
theorem dX6_free_19 : decode cX6_free 19 = .ok (.ldc 158, 2) := by decide +kernel
theorem dX6_free_21 : decode cX6_free 21 = .ok (.ireturn, 1) := by decide +kernel
theorem dX6_free_22 : decode cX6_free 22 = .ok (.iconst 0, 1) := by decide +kernel
theorem dX6_free_23 : decode cX6_free 23 = .ok (.istore_n 3, 1) := by decide +kernel
theorem dX6_free_24 : decode cX6_free 24 = .ok (.iconst 0, 1) := by decide +kernel
theorem dX6_free_25 : decode cX6_free 25 = .ok (.istore 4, 2) := by decide +kernel
theorem dX6_free_27 : decode cX6_free 27 = .ok (.iload 4, 2) := by decide +kernel
theorem dX6_free_29 : decode cX6_free 29 = .ok (.aload_n 0, 1) := by decide +kernel
theorem dX6_free_30 : decode cX6_free 30 = .ok (.getfield 70, 3) := by decide +kernel
theorem dX6_free_33 : decode cX6_free 33 = .ok (.iconst 1, 1) := by decide +kernel
theorem dX6_free_34 : decode cX6_free 34 = .ok (.iadd, 1) := by decide +kernel
theorem dX6_free_35 : decode cX6_free 35 = .ok (.aload_n 0, 1) := by decide +kernel
theorem dX6_free_36 : decode cX6_free 36 = .ok (.getfield 74, 3) := by decide +kernel
theorem dX6_free_39 : decode cX6_free 39 = .ok (.iconst 1, 1) := by decide +kernel
theorem dX6_free_40 : decode cX6_free 40 = .ok (.iadd, 1) := by decide +kernel
theorem dX6_free_41 : decode cX6_free 41 = .ok (.imul, 1) := by decide +kernel
theorem dX6_free_42 : decode cX6_free 42 = .ok (.if_icmp .ge 52, 3) := by decide +kernel
theorem dX6_free_45 : decode cX6_free 45 = .ok (.iload_n 3, 1) := by decide +kernel
theorem dX6_free_46 : decode cX6_free 46 = .ok (.aload_n 0, 1) := by decide +kernel
theorem dX6_free_47 : decode cX6_free 47 = .ok (.iload_n 1, 1) := by decide +kernel
theorem dX6_free_48 : decode cX6_free 48 = .ok (.iload 4, 2) := by decide +kernel
theorem dX6_free_50 : decode cX6_free 50 = .ok (.aload_n 0, 1) := by decide +kernel
theorem dX6_free_51 : decode cX6_free 51 = .ok (.getfield 70, 3) := by decide +kernel
theorem dX6_free_54 : decode cX6_free 54 = .ok (.iconst 1, 1) := by decide +kernel
theorem dX6_free_55 : decode cX6_free 55 = .ok (.iadd, 1) := by decide +kernel
theorem dX6_free_56 : decode cX6_free 56 = .ok (.irem, 1) := by decide +kernel
theorem dX6_free_57 : decode cX6_free 57 = .ok (.iload 4, 2) := by decide +kernel
theorem dX6_free_59 : decode cX6_free 59 = .ok (.aload_n 0, 1) := by decide +kernel
theorem dX6_free_60 : decode cX6_free 60 = .ok (.getfield 70, 3) := by decide +kernel
theorem dX6_free_63 : decode cX6_free 63 = .ok (.iconst 1, 1) := by decide +kernel
theorem dX6_free_64 : decode cX6_free 64 = .ok (.iadd, 1) := by decide +kernel
theorem dX6_free_65 : decode cX6_free 65 = .ok (.idiv, 1) := by decide +kernel
theorem dX6_free_66 : decode cX6_free 66 = .ok (.invokevirtual 175, 3) := by decide +kernel
theorem dX6_free_69 : decode cX6_free 69 = .ok (.iload_n 2, 1) := by decide +kernel
theorem dX6_free_70 : decode cX6_free 70 = .ok (.ifCond .eq 7, 3) := by decide +kernel
theorem dX6_free_73 : decode cX6_free 73 = .ok (.iconst 3, 1) := by decide +kernel
theorem dX6_free_74 : decode cX6_free 74 = .ok (.goto 4, 3) := by decide +kernel
theorem dX6_free_77 : decode cX6_free 77 = .ok (.iconst 2, 1) := by decide +kernel
theorem dX6_free_78 : decode cX6_free 78 = .ok (.if_icmp .ne 7, 3) := by decide +kernel
theorem dX6_free_81 : decode cX6_free 81 = .ok (.iconst 1, 1) := by decide +kernel
theorem dX6_free_82 : decode cX6_free 82 = .ok (.goto 4, 3) := by decide +kernel
theorem dX6_free_85 : decode cX6_free 85 = .ok (.iconst 0, 1) := by decide +kernel
theorem dX6_free_86 : decode cX6_free 86 = .ok (.iadd, 1) := by decide +kernel
theorem dX6_free_87 : decode cX6_free 87 = .ok (.istore_n 3, 1) := by decide +kernel
theorem dX6_free_88 : decode cX6_free 88 = .ok (.iinc 4 1, 3) := by decide +kernel
theorem dX6_free_91 : decode cX6_free 91 = .ok (.goto (-64), 3) := by decide +kernel
theorem dX6_free_94 : decode cX6_free 94 = .ok (.iload_n 3, 1) := by decide +kernel
theorem dX6_free_95 : decode cX6_free 95 = .ok (.ireturn, 1) := by decide +kernel
def f_X6_free_86 (k27 : Int32 → Int32 → Int32 → Int32 → St → Option (Int32 × St)) (x1 : Int32) (x2 : Int32) (x4 : Int32) (s0 : Int32) (s1 : Int32) (σ : St) : Option (Int32 × St) :=
  k27 x1 x2 (s0 + s1) (x4 + 1) σ
set_option maxRecDepth 100000 in
set_option maxHeartbeats 4000000 in
theorem b_X6_free_86 {g : Geo} {x : Cx} (C : Ok g x cX6_free RX6 5 (some .int) rm_X6_free) (k27 : Int32 → Int32 → Int32 → Int32 → St → Option (Int32 × St)) (hk27 : ∀ (x1 : Int32) (x2 : Int32) (x3 : Int32) (x4 : Int32) (τ : St) (r : Int32) (τ' : St), k27 x1 x2 x3 x4 τ = some (r, τ') → V g x (qm g x (some (.int r)) τ') 5 τ [(0, .ref (g.1 26)), (1, .int x1), (2, .int x2), (3, .int x3), (4, .int x4)] [] 27) : ∀ (x1 : Int32) (x2 : Int32) (x4 : Int32) (s0 : Int32) (s1 : Int32) (σ : St) (r : Int32) (σ' : St), f_X6_free_86 k27 x1 x2 x4 s0 s1 σ = some (r, σ') → V g x (qm g x (some (.int r)) σ') 5 σ [(0, .ref (g.1 26)), (1, .int x1), (2, .int x2), (4, .int x4)] [.int s1, .int s0] 86 := by
  intro x1 x2 x4 s0 s1 σ r σ' h
  unfold f_X6_free_86 at h
  refine v_iadd C dX6_free_86 ?_
  refine v_istore_n C (lv' := [(3, .int _), (0, .ref _), (1, .int _), (2, .int _), (4, .int _)]) dX6_free_87 rfl (by decide) rfl ?_
  refine v_iinc C (v := (x4 + 1)) (lv' := [(4, .int _), (3, .int _), (0, .ref _), (1, .int _), (2, .int _)]) dX6_free_88 4 rfl rfl (by decide) rfl ?_
  refine v_goto C (tgt := 27) dX6_free_91 (by decide) ?_
  refine V.sub (lv' := [(0, .ref _), (1, .int _), (2, .int _), (3, .int _), (4, .int _)]) [2, 3, 4, 1, 0] rfl ?_
  exact hk27 _ _ _ _  _ _ _ h
def f_X6_free_78 (k27 : Int32 → Int32 → Int32 → Int32 → St → Option (Int32 × St)) (x1 : Int32) (x2 : Int32) (x4 : Int32) (s0 : Int32) (s1 : Int32) (s2 : Int32) (σ : St) : Option (Int32 × St) :=
  if s1 = s2 then
    f_X6_free_86 k27 x1 x2 x4 s0 (1 : Int32) σ
  else
    f_X6_free_86 k27 x1 x2 x4 s0 (0 : Int32) σ
set_option maxRecDepth 100000 in
set_option maxHeartbeats 4000000 in
theorem b_X6_free_78 {g : Geo} {x : Cx} (C : Ok g x cX6_free RX6 5 (some .int) rm_X6_free) (k27 : Int32 → Int32 → Int32 → Int32 → St → Option (Int32 × St)) (hk27 : ∀ (x1 : Int32) (x2 : Int32) (x3 : Int32) (x4 : Int32) (τ : St) (r : Int32) (τ' : St), k27 x1 x2 x3 x4 τ = some (r, τ') → V g x (qm g x (some (.int r)) τ') 5 τ [(0, .ref (g.1 26)), (1, .int x1), (2, .int x2), (3, .int x3), (4, .int x4)] [] 27) : ∀ (x1 : Int32) (x2 : Int32) (x4 : Int32) (s0 : Int32) (s1 : Int32) (s2 : Int32) (σ : St) (r : Int32) (σ' : St), f_X6_free_78 k27 x1 x2 x4 s0 s1 s2 σ = some (r, σ') → V g x (qm g x (some (.int r)) σ') 5 σ [(0, .ref (g.1 26)), (1, .int x1), (2, .int x2), (4, .int x4)] [.int s2, .int s1, .int s0] 78 := by
  intro x1 x2 x4 s0 s1 s2 σ r σ' h
  unfold f_X6_free_78 at h
  refine v_icmp_ne C (tgt := 85) dX6_free_78 (by decide) (fun q1 => ?_) (fun q1 => ?_)
  · rw [if_neg q1] at h
    refine v_iconst C (v := (0 : Int32)) dX6_free_85 (by decide) ?_
    refine V.sub (lv' := [(0, .ref _), (1, .int _), (2, .int _), (4, .int _)]) [0, 1, 2, 3] rfl ?_
    exact b_X6_free_86 C _ hk27 _ _ _ _ _  _ _ _ h
  · rw [if_pos q1] at h
    refine v_iconst C (v := (1 : Int32)) dX6_free_81 (by decide) ?_
    refine v_goto C (tgt := 86) dX6_free_82 (by decide) ?_
    refine V.sub (lv' := [(0, .ref _), (1, .int _), (2, .int _), (4, .int _)]) [0, 1, 2, 3] rfl ?_
    exact b_X6_free_86 C _ hk27 _ _ _ _ _  _ _ _ h
def f_X6_free_27 : Nat → Int32 → Int32 → Int32 → Int32 → St → Option (Int32 × St)
  | 0, _, _, _, _, _ => none
  | n + 1, x1, x2, x3, x4, σ =>
    if (((gi σ 26 0) + (1 : Int32)) * ((gi σ 26 1) + (1 : Int32))) ≤ x4 then
      some (x3, σ)
    else
      rmI x4 ((gi σ 26 0) + (1 : Int32)) fun v1 =>
      dvI x4 ((gi σ 26 0) + (1 : Int32)) fun v2 =>
      bd (f_X6_pointOf x1 v1 v2 σ) fun v3 σ4 =>
      if x2 = 0 then
        f_X6_free_78 (f_X6_free_27 n) x1 x2 x4 x3 v3 (2 : Int32) σ4
      else
        f_X6_free_78 (f_X6_free_27 n) x1 x2 x4 x3 v3 (3 : Int32) σ4
set_option maxRecDepth 100000 in
set_option maxHeartbeats 4000000 in
theorem b_X6_free_27 {g : Geo} {x : Cx} (C : Ok g x cX6_free RX6 5 (some .int) rm_X6_free) : ∀ (n : Nat) (x1 : Int32) (x2 : Int32) (x3 : Int32) (x4 : Int32) (σ : St) (r : Int32) (σ' : St), f_X6_free_27 n x1 x2 x3 x4 σ = some (r, σ') → V g x (qm g x (some (.int r)) σ') 5 σ [(0, .ref (g.1 26)), (1, .int x1), (2, .int x2), (3, .int x3), (4, .int x4)] [] 27 := by
  intro n
  induction n with
  | zero =>
    intro x1 x2 x3 x4 σ r σ' h
    rw [f_X6_free_27] at h
    cases h
  | succ n ih =>
    intro x1 x2 x3 x4 σ r σ' h
    rw [f_X6_free_27] at h
    refine v_iload C dX6_free_27 4 rfl ?_
    refine v_aload_n C dX6_free_29 rfl 0 rfl ?_
    refine v_getI C fl_RX6_70 rfl dX6_free_30 ?_
    refine v_iconst C (v := (1 : Int32)) dX6_free_33 (by decide) ?_
    refine v_iadd C dX6_free_34 ?_
    refine v_aload_n C dX6_free_35 rfl 0 rfl ?_
    refine v_getI C fl_RX6_74 rfl dX6_free_36 ?_
    refine v_iconst C (v := (1 : Int32)) dX6_free_39 (by decide) ?_
    refine v_iadd C dX6_free_40 ?_
    refine v_imul C dX6_free_41 ?_
    refine v_icmp_ge C (tgt := 94) dX6_free_42 (by decide) (fun q6 => ?_) (fun q6 => ?_)
    · rw [if_pos q6] at h
      refine v_iload_n C dX6_free_94 rfl 3 rfl ?_
      cases h
      exact v_iret C dX6_free_95
    · rw [if_neg q6] at h
      refine v_iload_n C dX6_free_45 rfl 3 rfl ?_
      refine v_aload_n C dX6_free_46 rfl 0 rfl ?_
      refine v_iload_n C dX6_free_47 rfl 1 rfl ?_
      refine v_iload C dX6_free_48 4 rfl ?_
      refine v_aload_n C dX6_free_50 rfl 0 rfl ?_
      refine v_getI C fl_RX6_70 rfl dX6_free_51 ?_
      refine v_iconst C (v := (1 : Int32)) dX6_free_54 (by decide) ?_
      refine v_iadd C dX6_free_55 ?_
      obtain ⟨nv1, v1, ev1, h⟩ := rmI_ex h
      refine x_irem C nv1 ev1 dX6_free_56 ?_
      refine v_iload C dX6_free_57 4 rfl ?_
      refine v_aload_n C dX6_free_59 rfl 0 rfl ?_
      refine v_getI C fl_RX6_70 rfl dX6_free_60 ?_
      refine v_iconst C (v := (1 : Int32)) dX6_free_63 (by decide) ?_
      refine v_iadd C dX6_free_64 ?_
      obtain ⟨nv2, v2, ev2, h⟩ := dvI_ex h
      refine x_idiv C nv2 ev2 dX6_free_65 ?_
      obtain ⟨v3, σ4, cσ4, h⟩ := bd_some h
      refine callVi C (c_X6_pointOf cσ4) km_X6_pointOf kv_X6_pointOf rfl ml_RX6_175 rfl rfl (by decide) (Nat.le_of_ble_eq_true rfl) dX6_free_66 ?_
      refine v_iload_n C dX6_free_69 rfl 2 rfl ?_
      refine v_if_eq C (tgt := 77) dX6_free_70 (by decide) (fun q5 => ?_) (fun q5 => ?_)
      · rw [if_pos q5] at h
        refine v_iconst C (v := (2 : Int32)) dX6_free_77 (by decide) ?_
        refine V.sub (lv' := [(0, .ref _), (1, .int _), (2, .int _), (4, .int _)]) [0, 1, 2, 4] rfl ?_
        exact b_X6_free_78 C _ ih _ _ _ _ _ _  _ _ _ h
      · rw [if_neg q5] at h
        refine v_iconst C (v := (3 : Int32)) dX6_free_73 (by decide) ?_
        refine v_goto C (tgt := 78) dX6_free_74 (by decide) ?_
        refine V.sub (lv' := [(0, .ref _), (1, .int _), (2, .int _), (4, .int _)]) [0, 1, 2, 4] rfl ?_
        exact b_X6_free_78 C _ ih _ _ _ _ _ _  _ _ _ h
def f_X6_free (a1 : Int32) (a2 : Int32) (σ : St) : Option (Int32 × St) :=
  bd (f_X6_isSlot a1 σ) fun v1 σ2 =>
  if v1 = 0 then
    some ((-900001 : Int32), σ2)
  else
    rdI σ2 29 a1 fun v3 =>
    if v3 = 0 then
      some ((-900003 : Int32), σ2)
    else
      f_X6_free_27 FU a1 a2 (0 : Int32) (0 : Int32) σ2
set_option maxRecDepth 100000 in
set_option maxHeartbeats 4000000 in
theorem c_X6_free {g : Geo} {a1 : Int32} {a2 : Int32} {σ : St} {r : Int32} {σ' : St} (h : f_X6_free a1 a2 σ = some (r, σ')) : Ct g yX6_free cX6_free 5 (some .int) rm_X6_free [.ref (g.1 26), .int a1, .int a2] σ (some (.int r)) σ' := by
  refine ct_of (own := RX6) (by decide) rfl (Nat.le_of_ble_eq_true rfl) (fun x C => ?_) ⟨rfl, rfl⟩
  show V g x _ 5 σ [(0, .ref (g.1 26)), (1, .int a1), (2, .int a2)] [] 0
  unfold f_X6_free at h
  refine v_iload_n C dX6_free_0 rfl 1 rfl ?_
  obtain ⟨v1, σ2, cσ2, h⟩ := bd_some h
  refine callSi C (c_X6_isSlot cσ2) km_X6_isSlot ks_X6_isSlot ml_RX6_155 rfl rfl (by decide) (Nat.le_of_ble_eq_true rfl) dX6_free_1 ?_
  refine v_if_ne C (tgt := 10) dX6_free_4 (by decide) (fun q5 => ?_) (fun q5 => ?_)
  · rw [if_neg q5] at h
    refine v_aload_n C dX6_free_10 rfl 0 rfl ?_
    refine v_getR C (p' := 29) fl_RX6_17 rfl rfl dX6_free_11 ?_
    refine v_iload_n C dX6_free_14 rfl 1 rfl ?_
    obtain ⟨nv3, v3, ev3, h⟩ := rdI_ex h
    refine x_zald C rfl nv3 ev3 dX6_free_15 ?_
    refine v_if_ne C (tgt := 22) dX6_free_16 (by decide) (fun q4 => ?_) (fun q4 => ?_)
    · rw [if_neg q4] at h
      refine v_iconst C (v := (0 : Int32)) dX6_free_22 (by decide) ?_
      refine v_istore_n C (lv' := [(3, .int _), (0, .ref _), (1, .int _), (2, .int _)]) dX6_free_23 rfl (by decide) rfl ?_
      refine v_iconst C (v := (0 : Int32)) dX6_free_24 (by decide) ?_
      refine v_istore C (lv' := [(4, .int _), (3, .int _), (0, .ref _), (1, .int _), (2, .int _)]) dX6_free_25 (by decide) rfl ?_
      refine V.sub (lv' := [(0, .ref _), (1, .int _), (2, .int _), (3, .int _), (4, .int _)]) [2, 3, 4, 1, 0] rfl ?_
      exact b_X6_free_27 C FU _ _ _ _  _ _ _ h
    · rw [if_pos q4] at h
      refine v_ldc C (v := (-900003 : Int32)) con_RX6_158 dX6_free_19 ?_
      cases h
      exact v_iret C dX6_free_21
  · rw [if_pos q5] at h
    refine v_ldc C (v := (-900001 : Int32)) con_RX6_97 dX6_free_7 ?_
    cases h
    exact v_iret C dX6_free_9
theorem dX6_turn_0 : decode cX6_turn 0 = .ok (.iload_n 1, 1) := by decide +kernel
theorem dX6_turn_1 : decode cX6_turn 1 = .ok (.invokestatic 155, 3) := by decide +kernel
theorem dX6_turn_4 : decode cX6_turn 4 = .ok (.ifCond .eq 12, 3) := by decide +kernel
theorem dX6_turn_7 : decode cX6_turn 7 = .ok (.aload_n 0, 1) := by decide +kernel
theorem dX6_turn_8 : decode cX6_turn 8 = .ok (.iload_n 2, 1) := by decide +kernel
theorem dX6_turn_9 : decode cX6_turn 9 = .ok (.iload_n 3, 1) := by decide +kernel
theorem dX6_turn_10 : decode cX6_turn 10 = .ok (.invokevirtual 172, 3) := by decide +kernel
theorem dX6_turn_13 : decode cX6_turn 13 = .ok (.ifCond .ne 6, 3) := by decide +kernel
theorem dX6_turn_16 : decode cX6_turn 16 = .ok (.ldc 97, 2) := by decide +kernel
theorem dX6_turn_18 : decode cX6_turn 18 = .ok (.ireturn, 1) := by decide +kernel
theorem dX6_turn_19 : decode cX6_turn 19 = .ok (.aload_n 0, 1) := by decide +kernel
theorem dX6_turn_20 : decode cX6_turn 20 = .ok (.getfield 17, 3) := by decide +kernel
theorem dX6_turn_23 : decode cX6_turn 23 = .ok (.iload_n 1, 1) := by decide +kernel
theorem dX6_turn_24 : decode cX6_turn 24 = .ok (.baload, 1) := by decide +kernel
theorem dX6_turn_25 : decode cX6_turn 25 = .ok (.ifCond .eq 14, 3) := by decide +kernel
theorem dX6_turn_28 : decode cX6_turn 28 = .ok (.aload_n 0, 1) := by decide +kernel
theorem dX6_turn_29 : decode cX6_turn 29 = .ok (.iload_n 1, 1) := by decide +kernel
theorem dX6_turn_30 : decode cX6_turn 30 = .ok (.iload_n 2, 1) := by decide +kernel
theorem dX6_turn_31 : decode cX6_turn 31 = .ok (.iload_n 3, 1) := by decide +kernel
theorem dX6_turn_32 : decode cX6_turn 32 = .ok (.invokevirtual 175, 3) := by decide +kernel
theorem dX6_turn_35 : decode cX6_turn 35 = .ok (.iconst 2, 1) := by decide +kernel
theorem dX6_turn_36 : decode cX6_turn 36 = .ok (.if_icmp .ge 6, 3) := by decide +kernel
theorem dX6_turn_39 : decode cX6_turn 39 = .ok (.ldc 158, 2) := by decide +kernel
theorem dX6_turn_41 : decode cX6_turn 41 = .ok (.ireturn, 1) := by decide +kernel
theorem dX6_turn_42 : decode cX6_turn 42 = .ok (.aload_n 0, 1) := by decide +kernel
theorem dX6_turn_43 : decode cX6_turn 43 = .ok (.iload_n 1, 1) := by decide +kernel
theorem dX6_turn_44 : decode cX6_turn 44 = .ok (.iload_n 2, 1) := by decide +kernel
theorem dX6_turn_45 : decode cX6_turn 45 = .ok (.iload_n 3, 1) := by decide +kernel
theorem dX6_turn_46 : decode cX6_turn 46 = .ok (.invokevirtual 175, 3) := by decide +kernel
theorem dX6_turn_49 : decode cX6_turn 49 = .ok (.istore 4, 2) := by decide +kernel
theorem dX6_turn_51 : decode cX6_turn 51 = .ok (.aload_n 0, 1) := by decide +kernel
theorem dX6_turn_52 : decode cX6_turn 52 = .ok (.iload_n 1, 1) := by decide +kernel
theorem dX6_turn_53 : decode cX6_turn 53 = .ok (.iload_n 2, 1) := by decide +kernel
theorem dX6_turn_54 : decode cX6_turn 54 = .ok (.iload_n 3, 1) := by decide +kernel
theorem dX6_turn_55 : decode cX6_turn 55 = .ok (.invokevirtual 178, 3) := by decide +kernel
theorem dX6_turn_58 : decode cX6_turn 58 = .ok (.iload 4, 2) := by decide +kernel
theorem dX6_turn_60 : decode cX6_turn 60 = .ok (.iconst 2, 1) := by decide +kernel
theorem dX6_turn_61 : decode cX6_turn 61 = .ok (.if_icmp .ne 7, 3) := by decide +kernel
theorem dX6_turn_64 : decode cX6_turn 64 = .ok (.iconst 1, 1) := by decide +kernel
theorem dX6_turn_65 : decode cX6_turn 65 = .ok (.goto 4, 3) := by decide +kernel
theorem dX6_turn_68 : decode cX6_turn 68 = .ok (.iconst 0, 1) := by decide +kernel
theorem dX6_turn_69 : decode cX6_turn 69 = .ok (.ireturn, 1) := by decide +kernel
def f_X6_turn_69 (s0 : Int32) (σ : St) : Option (Int32 × St) :=
  some (s0, σ)
set_option maxRecDepth 100000 in
set_option maxHeartbeats 4000000 in
theorem b_X6_turn_69 {g : Geo} {x : Cx} (C : Ok g x cX6_turn RX6 5 (some .int) rm_X6_turn) : ∀ (s0 : Int32) (σ : St) (r : Int32) (σ' : St), f_X6_turn_69 s0 σ = some (r, σ') → V g x (qm g x (some (.int r)) σ') 5 σ [] [.int s0] 69 := by
  intro s0 σ r σ' h
  unfold f_X6_turn_69 at h
  cases h
  exact v_iret C dX6_turn_69
def f_X6_turn_39 (σ : St) : Option (Int32 × St) :=
  some ((-900003 : Int32), σ)
set_option maxRecDepth 100000 in
set_option maxHeartbeats 4000000 in
theorem b_X6_turn_39 {g : Geo} {x : Cx} (C : Ok g x cX6_turn RX6 5 (some .int) rm_X6_turn) : ∀ (σ : St) (r : Int32) (σ' : St), f_X6_turn_39 σ = some (r, σ') → V g x (qm g x (some (.int r)) σ') 5 σ [] [] 39 := by
  intro σ r σ' h
  unfold f_X6_turn_39 at h
  refine v_ldc C (v := (-900003 : Int32)) con_RX6_158 dX6_turn_39 ?_
  cases h
  exact v_iret C dX6_turn_41
def f_X6_turn_16 (σ : St) : Option (Int32 × St) :=
  some ((-900001 : Int32), σ)
set_option maxRecDepth 100000 in
set_option maxHeartbeats 4000000 in
theorem b_X6_turn_16 {g : Geo} {x : Cx} (C : Ok g x cX6_turn RX6 5 (some .int) rm_X6_turn) : ∀ (σ : St) (r : Int32) (σ' : St), f_X6_turn_16 σ = some (r, σ') → V g x (qm g x (some (.int r)) σ') 5 σ [] [] 16 := by
  intro σ r σ' h
  unfold f_X6_turn_16 at h
  refine v_ldc C (v := (-900001 : Int32)) con_RX6_97 dX6_turn_16 ?_
  cases h
  exact v_iret C dX6_turn_18
def f_X6_turn (a1 : Int32) (a2 : Int32) (a3 : Int32) (σ : St) : Option (Int32 × St) :=
  bd (f_X6_isSlot a1 σ) fun v1 σ2 =>
  if v1 = 0 then
    f_X6_turn_16 σ2
  else
    bd (f_X6_isPoint a2 a3 σ2) fun v3 σ4 =>
    if v3 = 0 then
      f_X6_turn_16 σ4
    else
      rdI σ4 29 a1 fun v5 =>
      if v5 = 0 then
        f_X6_turn_39 σ4
      else
        bd (f_X6_pointOf a1 a2 a3 σ4) fun v6 σ7 =>
        if (2 : Int32) ≤ v6 then
          bd (f_X6_pointOf a1 a2 a3 σ7) fun v8 σ9 =>
          bd (f_X6_turnOver a1 a2 a3 σ9) fun _ σ11 =>
          if v8 = (2 : Int32) then
            f_X6_turn_69 (1 : Int32) σ11
          else
            f_X6_turn_69 (0 : Int32) σ11
        else
          f_X6_turn_39 σ7
set_option maxRecDepth 100000 in
set_option maxHeartbeats 4000000 in
theorem c_X6_turn {g : Geo} {a1 : Int32} {a2 : Int32} {a3 : Int32} {σ : St} {r : Int32} {σ' : St} (h : f_X6_turn a1 a2 a3 σ = some (r, σ')) : Ct g yX6_turn cX6_turn 5 (some .int) rm_X6_turn [.ref (g.1 26), .int a1, .int a2, .int a3] σ (some (.int r)) σ' := by
  refine ct_of (own := RX6) (by decide) rfl (Nat.le_of_ble_eq_true rfl) (fun x C => ?_) ⟨rfl, rfl⟩
  show V g x _ 5 σ [(0, .ref (g.1 26)), (1, .int a1), (2, .int a2), (3, .int a3)] [] 0
  unfold f_X6_turn at h
  refine v_iload_n C dX6_turn_0 rfl 1 rfl ?_
  obtain ⟨v1, σ2, cσ2, h⟩ := bd_some h
  refine callSi C (c_X6_isSlot cσ2) km_X6_isSlot ks_X6_isSlot ml_RX6_155 rfl rfl (by decide) (Nat.le_of_ble_eq_true rfl) dX6_turn_1 ?_
  refine v_if_eq C (tgt := 16) dX6_turn_4 (by decide) (fun q16 => ?_) (fun q16 => ?_)
  · rw [if_pos q16] at h
    refine V.sub (lv' := []) [] rfl ?_
    exact b_X6_turn_16 C  _ _ _ h
  · rw [if_neg q16] at h
    refine v_aload_n C dX6_turn_7 rfl 0 rfl ?_
    refine v_iload_n C dX6_turn_8 rfl 2 rfl ?_
    refine v_iload_n C dX6_turn_9 rfl 3 rfl ?_
    obtain ⟨v3, σ4, cσ4, h⟩ := bd_some h
    refine callVi C (c_X6_isPoint cσ4) km_X6_isPoint kv_X6_isPoint rfl ml_RX6_172 rfl rfl (by decide) (Nat.le_of_ble_eq_true rfl) dX6_turn_10 ?_
    refine v_if_ne C (tgt := 19) dX6_turn_13 (by decide) (fun q15 => ?_) (fun q15 => ?_)
    · rw [if_neg q15] at h
      refine v_aload_n C dX6_turn_19 rfl 0 rfl ?_
      refine v_getR C (p' := 29) fl_RX6_17 rfl rfl dX6_turn_20 ?_
      refine v_iload_n C dX6_turn_23 rfl 1 rfl ?_
      obtain ⟨nv5, v5, ev5, h⟩ := rdI_ex h
      refine x_zald C rfl nv5 ev5 dX6_turn_24 ?_
      refine v_if_eq C (tgt := 39) dX6_turn_25 (by decide) (fun q14 => ?_) (fun q14 => ?_)
      · rw [if_pos q14] at h
        refine V.sub (lv' := []) [] rfl ?_
        exact b_X6_turn_39 C  _ _ _ h
      · rw [if_neg q14] at h
        refine v_aload_n C dX6_turn_28 rfl 0 rfl ?_
        refine v_iload_n C dX6_turn_29 rfl 1 rfl ?_
        refine v_iload_n C dX6_turn_30 rfl 2 rfl ?_
        refine v_iload_n C dX6_turn_31 rfl 3 rfl ?_
        obtain ⟨v6, σ7, cσ7, h⟩ := bd_some h
        refine callVi C (c_X6_pointOf cσ7) km_X6_pointOf kv_X6_pointOf rfl ml_RX6_175 rfl rfl (by decide) (Nat.le_of_ble_eq_true rfl) dX6_turn_32 ?_
        refine v_iconst C (v := (2 : Int32)) dX6_turn_35 (by decide) ?_
        refine v_icmp_ge C (tgt := 42) dX6_turn_36 (by decide) (fun q13 => ?_) (fun q13 => ?_)
        · rw [if_pos q13] at h
          refine v_aload_n C dX6_turn_42 rfl 0 rfl ?_
          refine v_iload_n C dX6_turn_43 rfl 1 rfl ?_
          refine v_iload_n C dX6_turn_44 rfl 2 rfl ?_
          refine v_iload_n C dX6_turn_45 rfl 3 rfl ?_
          obtain ⟨v8, σ9, cσ9, h⟩ := bd_some h
          refine callVi C (c_X6_pointOf cσ9) km_X6_pointOf kv_X6_pointOf rfl ml_RX6_175 rfl rfl (by decide) (Nat.le_of_ble_eq_true rfl) dX6_turn_46 ?_
          refine v_istore C (lv' := [(4, .int _), (0, .ref _), (1, .int _), (2, .int _), (3, .int _)]) dX6_turn_49 (by decide) rfl ?_
          refine v_aload_n C dX6_turn_51 rfl 1 rfl ?_
          refine v_iload_n C dX6_turn_52 rfl 2 rfl ?_
          refine v_iload_n C dX6_turn_53 rfl 3 rfl ?_
          refine v_iload_n C dX6_turn_54 rfl 4 rfl ?_
          obtain ⟨v10, σ11, cσ11, h⟩ := bd_some h
          refine callVv C (c_X6_turnOver cσ11) km_X6_turnOver kv_X6_turnOver rfl ml_RX6_178 rfl rfl (by decide) (Nat.le_of_ble_eq_true rfl) dX6_turn_55 ?_
          refine v_iload C dX6_turn_58 0 rfl ?_
          refine v_iconst C (v := (2 : Int32)) dX6_turn_60 (by decide) ?_
          refine v_icmp_ne C (tgt := 68) dX6_turn_61 (by decide) (fun q12 => ?_) (fun q12 => ?_)
          · rw [if_neg q12] at h
            refine v_iconst C (v := (0 : Int32)) dX6_turn_68 (by decide) ?_
            refine V.sub (lv' := []) [] rfl ?_
            exact b_X6_turn_69 C _  _ _ _ h
          · rw [if_pos q12] at h
            refine v_iconst C (v := (1 : Int32)) dX6_turn_64 (by decide) ?_
            refine v_goto C (tgt := 69) dX6_turn_65 (by decide) ?_
            refine V.sub (lv' := []) [] rfl ?_
            exact b_X6_turn_69 C _  _ _ _ h
        · rw [if_neg q13] at h
          refine V.sub (lv' := []) [] rfl ?_
          exact b_X6_turn_39 C  _ _ _ h
    · rw [if_pos q15] at h
      refine V.sub (lv' := []) [] rfl ?_
      exact b_X6_turn_16 C  _ _ _ h
theorem dX6_crossed_0 : decode cX6_crossed 0 = .ok (.iload_n 2, 1) := by decide +kernel
theorem dX6_crossed_1 : decode cX6_crossed 1 = .ok (.i2l, 1) := by decide +kernel
theorem dX6_crossed_2 : decode cX6_crossed 2 = .ok (.lconst 0, 1) := by decide +kernel
theorem dX6_crossed_3 : decode cX6_crossed 3 = .ok (.aload_n 0, 1) := by decide +kernel
theorem dX6_crossed_4 : decode cX6_crossed 4 = .ok (.getfield 70, 3) := by decide +kernel
theorem dX6_crossed_7 : decode cX6_crossed 7 = .ok (.iconst 1, 1) := by decide +kernel
theorem dX6_crossed_8 : decode cX6_crossed 8 = .ok (.isub, 1) := by decide +kernel
theorem dX6_crossed_9 : decode cX6_crossed 9 = .ok (.i2l, 1) := by decide +kernel
theorem dX6_crossed_10 : decode cX6_crossed 10 = .ok (.invokestatic 84, 3) := by decide +kernel
theorem dX6_crossed_13 : decode cX6_crossed 13 = .ok (.ifCond .eq 61, 3) := by decide +kernel
theorem dX6_crossed_16 : decode cX6_crossed 16 = .ok (.iload_n 3, 1) := by decide +kernel
theorem dX6_crossed_17 : decode cX6_crossed 17 = .ok (.i2l, 1) := by decide +kernel
theorem dX6_crossed_18 : decode cX6_crossed 18 = .ok (.lconst 0, 1) := by decide +kernel
theorem dX6_crossed_19 : decode cX6_crossed 19 = .ok (.aload_n 0, 1) := by decide +kernel
theorem dX6_crossed_20 : decode cX6_crossed 20 = .ok (.getfield 74, 3) := by decide +kernel
theorem dX6_crossed_23 : decode cX6_crossed 23 = .ok (.iconst 1, 1) := by decide +kernel
theorem dX6_crossed_24 : decode cX6_crossed 24 = .ok (.isub, 1) := by decide +kernel
theorem dX6_crossed_25 : decode cX6_crossed 25 = .ok (.i2l, 1) := by decide +kernel
theorem dX6_crossed_26 : decode cX6_crossed 26 = .ok (.invokestatic 84, 3) := by decide +kernel
theorem dX6_crossed_29 : decode cX6_crossed 29 = .ok (.ifCond .eq 45, 3) := by decide +kernel
theorem dX6_crossed_32 : decode cX6_crossed 32 = .ok (.aload_n 0, 1) := by decide +kernel
theorem dX6_crossed_33 : decode cX6_crossed 33 = .ok (.iload_n 3, 1) := by decide +kernel
theorem dX6_crossed_34 : decode cX6_crossed 34 = .ok (.aload_n 0, 1) := by decide +kernel
theorem dX6_crossed_35 : decode cX6_crossed 35 = .ok (.getfield 70, 3) := by decide +kernel
theorem dX6_crossed_38 : decode cX6_crossed 38 = .ok (.imul, 1) := by decide +kernel
theorem dX6_crossed_39 : decode cX6_crossed 39 = .ok (.iload_n 2, 1) := by decide +kernel
theorem dX6_crossed_40 : decode cX6_crossed 40 = .ok (.iadd, 1) := by decide +kernel
theorem dX6_crossed_41 : decode cX6_crossed 41 = .ok (.invokevirtual 108, 3) := by decide +kernel
theorem dX6_crossed_44 : decode cX6_crossed 44 = .ok (.ifCond .eq 30, 3) := by decide +kernel
theorem dX6_crossed_47 : decode cX6_crossed 47 = .ok (.aload_n 0, 1) := by decide +kernel
theorem dX6_crossed_48 : decode cX6_crossed 48 = .ok (.getfield 20, 3) := by decide +kernel
theorem dX6_crossed_51 : decode cX6_crossed 51 = .ok (.bipush 64, 2) := by decide +kernel
theorem dX6_crossed_53 : decode cX6_crossed 53 = .ok (.iload_n 1, 1) := by decide +kernel
theorem dX6_crossed_54 : decode cX6_crossed 54 = .ok (.imul, 1) := by decide +kernel
theorem dX6_crossed_55 : decode cX6_crossed 55 = .ok (.iload_n 3, 1) := by decide +kernel
theorem dX6_crossed_56 : decode cX6_crossed 56 = .ok (.aload_n 0, 1) := by decide +kernel
theorem dX6_crossed_57 : decode cX6_crossed 57 = .ok (.getfield 70, 3) := by decide +kernel
theorem dX6_crossed_60 : decode cX6_crossed 60 = .ok (.imul, 1) := by decide +kernel
theorem dX6_crossed_61 : decode cX6_crossed 61 = .ok (.iadd, 1) := by decide +kernel
theorem dX6_crossed_62 : decode cX6_crossed 62 = .ok (.iload_n 2, 1) := by decide +kernel
theorem dX6_crossed_63 : decode cX6_crossed 63 = .ok (.iadd, 1) := by decide +kernel
theorem dX6_crossed_64 : decode cX6_crossed 64 = .ok (.iaload, 1) := by decide +kernel
theorem dX6_crossed_65 : decode cX6_crossed 65 = .ok (.iload 4, 2) := by decide +kernel
theorem dX6_crossed_67 : decode cX6_crossed 67 = .ok (.if_icmp .ne 7, 3) := by decide +kernel
theorem dX6_crossed_70 : decode cX6_crossed 70 = .ok (.iconst 1, 1) := by decide +kernel
theorem dX6_crossed_71 : decode cX6_crossed 71 = .ok (.goto 4, 3) := by decide +kernel
theorem dX6_crossed_74 : decode cX6_crossed 74 = .ok (.iconst 0, 1) := by decide +kernel
theorem dX6_crossed_75 : decode cX6_crossed 75 = .ok (.ireturn, 1) := by decide +kernel
def f_X6_crossed_75 (s0 : Int32) (σ : St) : Option (Int32 × St) :=
  some (s0, σ)
set_option maxRecDepth 100000 in
set_option maxHeartbeats 4000000 in
theorem b_X6_crossed_75 {g : Geo} {x : Cx} (C : Ok g x cX6_crossed RX6 5 (some .int) rm_X6_crossed) : ∀ (s0 : Int32) (σ : St) (r : Int32) (σ' : St), f_X6_crossed_75 s0 σ = some (r, σ') → V g x (qm g x (some (.int r)) σ') 5 σ [] [.int s0] 75 := by
  intro s0 σ r σ' h
  unfold f_X6_crossed_75 at h
  cases h
  exact v_iret C dX6_crossed_75
def f_X6_crossed_74 (σ : St) : Option (Int32 × St) :=
  f_X6_crossed_75 (0 : Int32) σ
set_option maxRecDepth 100000 in
set_option maxHeartbeats 4000000 in
theorem b_X6_crossed_74 {g : Geo} {x : Cx} (C : Ok g x cX6_crossed RX6 5 (some .int) rm_X6_crossed) : ∀ (σ : St) (r : Int32) (σ' : St), f_X6_crossed_74 σ = some (r, σ') → V g x (qm g x (some (.int r)) σ') 5 σ [] [] 74 := by
  intro σ r σ' h
  unfold f_X6_crossed_74 at h
  refine v_iconst C (v := (0 : Int32)) dX6_crossed_74 (by decide) ?_
  refine V.sub (lv' := []) [] rfl ?_
  exact b_X6_crossed_75 C _  _ _ _ h
def f_X6_crossed (a1 : Int32) (a2 : Int32) (a3 : Int32) (a4 : Int32) (σ : St) : Option (Int32 × St) :=
  bd (f_X6_in ((a2).toInt64) (0 : Int64) ((((gi σ 26 0) - (1 : Int32))).toInt64) σ) fun v1 σ2 =>
  if v1 = 0 then
    f_X6_crossed_74 σ2
  else
    bd (f_X6_in ((a3).toInt64) (0 : Int64) ((((gi σ2 26 1) - (1 : Int32))).toInt64) σ2) fun v3 σ4 =>
    if v3 = 0 then
      f_X6_crossed_74 σ4
    else
      bd (f_X6_isUp ((a3 * (gi σ4 26 0)) + a2) σ4) fun v5 σ6 =>
      if v5 = 0 then
        f_X6_crossed_74 σ6
      else
        rdI σ6 30 ((((64 : Int32) * a1) + (a3 * (gi σ6 26 0))) + a2) fun v7 =>
        if v7 = a4 then
          f_X6_crossed_75 (1 : Int32) σ6
        else
          f_X6_crossed_74 σ6
set_option maxRecDepth 100000 in
set_option maxHeartbeats 4000000 in
theorem c_X6_crossed {g : Geo} {a1 : Int32} {a2 : Int32} {a3 : Int32} {a4 : Int32} {σ : St} {r : Int32} {σ' : St} (h : f_X6_crossed a1 a2 a3 a4 σ = some (r, σ')) : Ct g yX6_crossed cX6_crossed 5 (some .int) rm_X6_crossed [.ref (g.1 26), .int a1, .int a2, .int a3, .int a4] σ (some (.int r)) σ' := by
  refine ct_of (own := RX6) (by decide) rfl (Nat.le_of_ble_eq_true rfl) (fun x C => ?_) ⟨rfl, rfl⟩
  show V g x _ 5 σ [(0, .ref (g.1 26)), (1, .int a1), (2, .int a2), (3, .int a3), (4, .int a4)] [] 0
  unfold f_X6_crossed at h
  refine v_iload_n C dX6_crossed_0 rfl 2 rfl ?_
  refine v_i2l C dX6_crossed_1 ?_
  refine v_lconst C (v := (0 : Int64)) dX6_crossed_2 (by decide) ?_
  refine v_aload_n C dX6_crossed_3 rfl 0 rfl ?_
  refine v_getI C fl_RX6_70 rfl dX6_crossed_4 ?_
  refine v_iconst C (v := (1 : Int32)) dX6_crossed_7 (by decide) ?_
  refine v_isub C dX6_crossed_8 ?_
  refine v_i2l C dX6_crossed_9 ?_
  obtain ⟨v1, σ2, cσ2, h⟩ := bd_some h
  refine callSi C (c_X6_in cσ2) km_X6_in ks_X6_in ml_RX6_84 rfl rfl (by decide) (Nat.le_of_ble_eq_true rfl) dX6_crossed_10 ?_
  refine v_if_eq C (tgt := 74) dX6_crossed_13 (by decide) (fun q11 => ?_) (fun q11 => ?_)
  · rw [if_pos q11] at h
    refine V.sub (lv' := []) [] rfl ?_
    exact b_X6_crossed_74 C  _ _ _ h
  · rw [if_neg q11] at h
    refine v_iload_n C dX6_crossed_16 rfl 3 rfl ?_
    refine v_i2l C dX6_crossed_17 ?_
    refine v_lconst C (v := (0 : Int64)) dX6_crossed_18 (by decide) ?_
    refine v_aload_n C dX6_crossed_19 rfl 0 rfl ?_
    refine v_getI C fl_RX6_74 rfl dX6_crossed_20 ?_
    refine v_iconst C (v := (1 : Int32)) dX6_crossed_23 (by decide) ?_
    refine v_isub C dX6_crossed_24 ?_
    refine v_i2l C dX6_crossed_25 ?_
    obtain ⟨v3, σ4, cσ4, h⟩ := bd_some h
    refine callSi C (c_X6_in cσ4) km_X6_in ks_X6_in ml_RX6_84 rfl rfl (by decide) (Nat.le_of_ble_eq_true rfl) dX6_crossed_26 ?_
    refine v_if_eq C (tgt := 74) dX6_crossed_29 (by decide) (fun q10 => ?_) (fun q10 => ?_)
    · rw [if_pos q10] at h
      refine V.sub (lv' := []) [] rfl ?_
      exact b_X6_crossed_74 C  _ _ _ h
    · rw [if_neg q10] at h
      refine v_aload_n C dX6_crossed_32 rfl 0 rfl ?_
      refine v_iload_n C dX6_crossed_33 rfl 3 rfl ?_
      refine v_aload_n C dX6_crossed_34 rfl 0 rfl ?_
      refine v_getI C fl_RX6_70 rfl dX6_crossed_35 ?_
      refine v_imul C dX6_crossed_38 ?_
      refine v_iload_n C dX6_crossed_39 rfl 2 rfl ?_
      refine v_iadd C dX6_crossed_40 ?_
      obtain ⟨v5, σ6, cσ6, h⟩ := bd_some h
      refine callVi C (c_X6_isUp cσ6) km_X6_isUp kv_X6_isUp rfl ml_RX6_108 rfl rfl (by decide) (Nat.le_of_ble_eq_true rfl) dX6_crossed_41 ?_
      refine v_if_eq C (tgt := 74) dX6_crossed_44 (by decide) (fun q9 => ?_) (fun q9 => ?_)
      · rw [if_pos q9] at h
        refine V.sub (lv' := []) [] rfl ?_
        exact b_X6_crossed_74 C  _ _ _ h
      · rw [if_neg q9] at h
        refine v_aload_n C dX6_crossed_47 rfl 0 rfl ?_
        refine v_getR C (p' := 30) fl_RX6_20 rfl rfl dX6_crossed_48 ?_
        refine v_bipush C (v := (64 : Int32)) dX6_crossed_51 (by decide) ?_
        refine v_iload_n C dX6_crossed_53 rfl 1 rfl ?_
        refine v_imul C dX6_crossed_54 ?_
        refine v_iload_n C dX6_crossed_55 rfl 3 rfl ?_
        refine v_aload_n C dX6_crossed_56 rfl 0 rfl ?_
        refine v_getI C fl_RX6_70 rfl dX6_crossed_57 ?_
        refine v_imul C dX6_crossed_60 ?_
        refine v_iadd C dX6_crossed_61 ?_
        refine v_iload_n C dX6_crossed_62 rfl 2 rfl ?_
        refine v_iadd C dX6_crossed_63 ?_
        obtain ⟨nv7, v7, ev7, h⟩ := rdI_ex h
        refine x_iald C rfl nv7 ev7 dX6_crossed_64 ?_
        refine v_iload C dX6_crossed_65 4 rfl ?_
        refine v_icmp_ne C (tgt := 74) dX6_crossed_67 (by decide) (fun q8 => ?_) (fun q8 => ?_)
        · rw [if_neg q8] at h
          refine V.sub (lv' := []) [] rfl ?_
          exact b_X6_crossed_74 C  _ _ _ h
        · rw [if_pos q8] at h
          refine v_iconst C (v := (1 : Int32)) dX6_crossed_70 (by decide) ?_
          refine v_goto C (tgt := 75) dX6_crossed_71 (by decide) ?_
          refine V.sub (lv' := []) [] rfl ?_
          exact b_X6_crossed_75 C _  _ _ _ h
theorem dX6_step_0 : decode cX6_step 0 = .ok (.aload_n 0, 1) := by decide +kernel
theorem dX6_step_1 : decode cX6_step 1 = .ok (.getfield 36, 3) := by decide +kernel
theorem dX6_step_4 : decode cX6_step 4 = .ok (.iload_n 1, 1) := by decide +kernel
theorem dX6_step_5 : decode cX6_step 5 = .ok (.baload, 1) := by decide +kernel
theorem dX6_step_6 : decode cX6_step 6 = .ok (.ifCond .eq 35, 3) := by decide +kernel
theorem dX6_step_9 : decode cX6_step 9 = .ok (.aload_n 0, 1) := by decide +kernel
theorem dX6_step_10 : decode cX6_step 10 = .ok (.getfield 36, 3) := by decide +kernel
theorem dX6_step_13 : decode cX6_step 13 = .ok (.iload_n 2, 1) := by decide +kernel
theorem dX6_step_14 : decode cX6_step 14 = .ok (.baload, 1) := by decide +kernel
theorem dX6_step_15 : decode cX6_step 15 = .ok (.ifCond .ne 26, 3) := by decide +kernel
theorem dX6_step_18 : decode cX6_step 18 = .ok (.aload_n 0, 1) := by decide +kernel
theorem dX6_step_19 : decode cX6_step 19 = .ok (.getfield 36, 3) := by decide +kernel
theorem dX6_step_22 : decode cX6_step 22 = .ok (.iload_n 2, 1) := by decide +kernel
theorem dX6_step_23 : decode cX6_step 23 = .ok (.iconst 1, 1) := by decide +kernel
theorem dX6_step_24 : decode cX6_step 24 = .ok (.bastore, 1) := by decide +kernel
theorem dX6_step_25 : decode cX6_step 25 = .ok (.aload_n 0, 1) := by decide +kernel
theorem dX6_step_26 : decode cX6_step 26 = .ok (.getfield 33, 3) := by decide +kernel
theorem dX6_step_29 : decode cX6_step 29 = .ok (.iload_n 2, 1) := by decide +kernel
theorem dX6_step_30 : decode cX6_step 30 = .ok (.aload_n 0, 1) := by decide +kernel
theorem dX6_step_31 : decode cX6_step 31 = .ok (.getfield 33, 3) := by decide +kernel
theorem dX6_step_34 : decode cX6_step 34 = .ok (.iload_n 1, 1) := by decide +kernel
theorem dX6_step_35 : decode cX6_step 35 = .ok (.iaload, 1) := by decide +kernel
theorem dX6_step_36 : decode cX6_step 36 = .ok (.iload_n 3, 1) := by decide +kernel
theorem dX6_step_37 : decode cX6_step 37 = .ok (.iadd, 1) := by decide +kernel
theorem dX6_step_38 : decode cX6_step 38 = .ok (.iastore, 1) := by decide +kernel
theorem dX6_step_39 : decode cX6_step 39 = .ok (.iconst 1, 1) := by decide +kernel
theorem dX6_step_40 : decode cX6_step 40 = .ok (.ireturn, 1) := by decide +kernel
theorem dX6_step_41 : decode cX6_step 41 = .ok (.aload_n 0, 1) := by decide +kernel
theorem dX6_step_42 : decode cX6_step 42 = .ok (.getfield 36, 3) := by decide +kernel
theorem dX6_step_45 : decode cX6_step 45 = .ok (.iload_n 2, 1) := by decide +kernel
theorem dX6_step_46 : decode cX6_step 46 = .ok (.baload, 1) := by decide +kernel
theorem dX6_step_47 : decode cX6_step 47 = .ok (.ifCond .eq 35, 3) := by decide +kernel
theorem dX6_step_50 : decode cX6_step 50 = .ok (.aload_n 0, 1) := by decide +kernel
theorem dX6_step_51 : decode cX6_step 51 = .ok (.getfield 36, 3) := by decide +kernel
theorem dX6_step_54 : decode cX6_step 54 = .ok (.iload_n 1, 1) := by decide +kernel
theorem dX6_step_55 : decode cX6_step 55 = .ok (.baload, 1) := by decide +kernel
theorem dX6_step_56 : decode cX6_step 56 = .ok (.ifCond .ne 26, 3) := by decide +kernel
theorem dX6_step_59 : decode cX6_step 59 = .ok (.aload_n 0, 1) := by decide +kernel
theorem dX6_step_60 : decode cX6_step 60 = .ok (.getfield 36, 3) := by decide +kernel
theorem dX6_step_63 : decode cX6_step 63 = .ok (.iload_n 1, 1) := by decide +kernel
theorem dX6_step_64 : decode cX6_step 64 = .ok (.iconst 1, 1) := by decide +kernel
theorem dX6_step_65 : decode cX6_step 65 = .ok (.bastore, 1) := by decide +kernel
theorem dX6_step_66 : decode cX6_step 66 = .ok (.aload_n 0, 1) := by decide +kernel
theorem dX6_step_67 : decode cX6_step 67 = .ok (.getfield 33, 3) := by decide +kernel
theorem dX6_step_70 : decode cX6_step 70 = .ok (.iload_n 1, 1) := by decide +kernel
theorem dX6_step_71 : decode cX6_step 71 = .ok (.aload_n 0, 1) := by decide +kernel
theorem dX6_step_72 : decode cX6_step 72 = .ok (.getfield 33, 3) := by decide +kernel
theorem dX6_step_75 : decode cX6_step 75 = .ok (.iload_n 2, 1) := by decide +kernel
theorem dX6_step_76 : decode cX6_step 76 = .ok (.iaload, 1) := by decide +kernel
theorem dX6_step_77 : decode cX6_step 77 = .ok (.iload_n 3, 1) := by decide +kernel
theorem dX6_step_78 : decode cX6_step 78 = .ok (.isub, 1) := by decide +kernel
theorem dX6_step_79 : decode cX6_step 79 = .ok (.iastore, 1) := by decide +kernel
theorem dX6_step_80 : decode cX6_step 80 = .ok (.iconst 1, 1) := by decide +kernel
theorem dX6_step_81 : decode cX6_step 81 = .ok (.ireturn, 1) := by decide +kernel
theorem dX6_step_82 : decode cX6_step 82 = .ok (.iconst 0, 1) := by decide +kernel
theorem dX6_step_83 : decode cX6_step 83 = .ok (.ireturn, 1) := by decide +kernel
def f_X6_step_82 (σ : St) : Option (Int32 × St) :=
  some ((0 : Int32), σ)
set_option maxRecDepth 100000 in
set_option maxHeartbeats 4000000 in
theorem b_X6_step_82 {g : Geo} {x : Cx} (C : Ok g x cX6_step RX6 4 (some .boolean) rm_X6_step) : ∀ (σ : St) (r : Int32) (σ' : St), f_X6_step_82 σ = some (r, σ') → V g x (qm g x (some (.int r)) σ') 4 σ [] [] 82 := by
  intro σ r σ' h
  unfold f_X6_step_82 at h
  refine v_iconst C (v := (0 : Int32)) dX6_step_82 (by decide) ?_
  cases h
  exact v_zret C (Or.inl rfl) dX6_step_83
def f_X6_step_41 (x1 : Int32) (x2 : Int32) (x3 : Int32) (σ : St) : Option (Int32 × St) :=
  rdI σ 35 x2 fun v1 =>
  if v1 = 0 then
    f_X6_step_82 σ
  else
    rdI σ 35 x1 fun v2 =>
    if v2 = 0 then
      wrZ σ 35 x1 (1 : Int32) fun σ3 =>
      rdI σ3 34 x2 fun v4 =>
      wrI σ3 34 x1 (v4 - x3) fun σ5 =>
      some ((1 : Int32), σ5)
    else
      f_X6_step_82 σ
set_option maxRecDepth 100000 in
set_option maxHeartbeats 4000000 in
theorem b_X6_step_41 {g : Geo} {x : Cx} (C : Ok g x cX6_step RX6 4 (some .boolean) rm_X6_step) : ∀ (x1 : Int32) (x2 : Int32) (x3 : Int32) (σ : St) (r : Int32) (σ' : St), f_X6_step_41 x1 x2 x3 σ = some (r, σ') → V g x (qm g x (some (.int r)) σ') 4 σ [(0, .ref (g.1 26)), (1, .int x1), (2, .int x2), (3, .int x3)] [] 41 := by
  intro x1 x2 x3 σ r σ' h
  unfold f_X6_step_41 at h
  refine v_aload_n C dX6_step_41 rfl 0 rfl ?_
  refine v_getR C (p' := 35) fl_RX6_36 rfl rfl dX6_step_42 ?_
  refine v_iload_n C dX6_step_45 rfl 2 rfl ?_
  obtain ⟨nv1, v1, ev1, h⟩ := rdI_ex h
  refine x_zald C rfl nv1 ev1 dX6_step_46 ?_
  refine v_if_eq C (tgt := 82) dX6_step_47 (by decide) (fun q7 => ?_) (fun q7 => ?_)
  · rw [if_pos q7] at h
    refine V.sub (lv' := []) [] rfl ?_
    exact b_X6_step_82 C  _ _ _ h
  · rw [if_neg q7] at h
    refine v_aload_n C dX6_step_50 rfl 0 rfl ?_
    refine v_getR C (p' := 35) fl_RX6_36 rfl rfl dX6_step_51 ?_
    refine v_iload_n C dX6_step_54 rfl 1 rfl ?_
    obtain ⟨nv2, v2, ev2, h⟩ := rdI_ex h
    refine x_zald C rfl nv2 ev2 dX6_step_55 ?_
    refine v_if_ne C (tgt := 82) dX6_step_56 (by decide) (fun q6 => ?_) (fun q6 => ?_)
    · rw [if_neg q6] at h
      refine V.sub (lv' := []) [] rfl ?_
      exact b_X6_step_82 C  _ _ _ h
    · rw [if_pos q6] at h
      refine v_aload_n C dX6_step_59 rfl 0 rfl ?_
      refine v_getR C (p' := 35) fl_RX6_36 rfl rfl dX6_step_60 ?_
      refine v_iload_n C dX6_step_63 rfl 1 rfl ?_
      refine v_iconst C (v := (1 : Int32)) dX6_step_64 (by decide) ?_
      obtain ⟨nσ3, σ3, eσ3, h⟩ := wrZ_ex h
      refine x_zast C rfl nσ3 eσ3 dX6_step_65 ?_
      refine v_aload_n C dX6_step_66 rfl 0 rfl ?_
      refine v_getR C (p' := 34) fl_RX6_33 rfl rfl dX6_step_67 ?_
      refine v_iload_n C dX6_step_70 rfl 1 rfl ?_
      refine v_aload_n C dX6_step_71 rfl 0 rfl ?_
      refine v_getR C (p' := 34) fl_RX6_33 rfl rfl dX6_step_72 ?_
      refine v_iload_n C dX6_step_75 rfl 2 rfl ?_
      obtain ⟨nv4, v4, ev4, h⟩ := rdI_ex h
      refine x_iald C rfl nv4 ev4 dX6_step_76 ?_
      refine v_iload_n C dX6_step_77 rfl 3 rfl ?_
      refine v_isub C dX6_step_78 ?_
      obtain ⟨nσ5, σ5, eσ5, h⟩ := wrI_ex h
      refine x_iast C rfl nσ5 eσ5 dX6_step_79 ?_
      refine v_iconst C (v := (1 : Int32)) dX6_step_80 (by decide) ?_
      cases h
      exact v_zret C (Or.inr rfl) dX6_step_81
def f_X6_step (a1 : Int32) (a2 : Int32) (a3 : Int32) (σ : St) : Option (Int32 × St) :=
  rdI σ 35 a1 fun v1 =>
  if v1 = 0 then
    f_X6_step_41 a1 a2 a3 σ
  else
    rdI σ 35 a2 fun v2 =>
    if v2 = 0 then
      wrZ σ 35 a2 (1 : Int32) fun σ3 =>
      rdI σ3 34 a1 fun v4 =>
      wrI σ3 34 a2 (v4 + a3) fun σ5 =>
      some ((1 : Int32), σ5)
    else
      f_X6_step_41 a1 a2 a3 σ
set_option maxRecDepth 100000 in
set_option maxHeartbeats 4000000 in
theorem c_X6_step {g : Geo} {a1 : Int32} {a2 : Int32} {a3 : Int32} {σ : St} {r : Int32} {σ' : St} (h : f_X6_step a1 a2 a3 σ = some (r, σ')) : Ct g yX6_step cX6_step 4 (some .boolean) rm_X6_step [.ref (g.1 26), .int a1, .int a2, .int a3] σ (some (.int r)) σ' := by
  refine ct_of (own := RX6) (by decide) rfl (Nat.le_of_ble_eq_true rfl) (fun x C => ?_) ⟨rfl, rfl⟩
  show V g x _ 4 σ [(0, .ref (g.1 26)), (1, .int a1), (2, .int a2), (3, .int a3)] [] 0
  unfold f_X6_step at h
  refine v_aload_n C dX6_step_0 rfl 0 rfl ?_
  refine v_getR C (p' := 35) fl_RX6_36 rfl rfl dX6_step_1 ?_
  refine v_iload_n C dX6_step_4 rfl 1 rfl ?_
  obtain ⟨nv1, v1, ev1, h⟩ := rdI_ex h
  refine x_zald C rfl nv1 ev1 dX6_step_5 ?_
  refine v_if_eq C (tgt := 41) dX6_step_6 (by decide) (fun q7 => ?_) (fun q7 => ?_)
  · rw [if_pos q7] at h
    refine V.sub (lv' := [(0, .ref _), (1, .int _), (2, .int _), (3, .int _)]) [0, 1, 2, 3] rfl ?_
    exact b_X6_step_41 C _ _ _  _ _ _ h
  · rw [if_neg q7] at h
    refine v_aload_n C dX6_step_9 rfl 0 rfl ?_
    refine v_getR C (p' := 35) fl_RX6_36 rfl rfl dX6_step_10 ?_
    refine v_iload_n C dX6_step_13 rfl 2 rfl ?_
    obtain ⟨nv2, v2, ev2, h⟩ := rdI_ex h
    refine x_zald C rfl nv2 ev2 dX6_step_14 ?_
    refine v_if_ne C (tgt := 41) dX6_step_15 (by decide) (fun q6 => ?_) (fun q6 => ?_)
    · rw [if_neg q6] at h
      refine V.sub (lv' := [(0, .ref _), (1, .int _), (2, .int _), (3, .int _)]) [0, 1, 2, 3] rfl ?_
      exact b_X6_step_41 C _ _ _  _ _ _ h
    · rw [if_pos q6] at h
      refine v_aload_n C dX6_step_18 rfl 0 rfl ?_
      refine v_getR C (p' := 35) fl_RX6_36 rfl rfl dX6_step_19 ?_
      refine v_iload_n C dX6_step_22 rfl 2 rfl ?_
      refine v_iconst C (v := (1 : Int32)) dX6_step_23 (by decide) ?_
      obtain ⟨nσ3, σ3, eσ3, h⟩ := wrZ_ex h
      refine x_zast C rfl nσ3 eσ3 dX6_step_24 ?_
      refine v_aload_n C dX6_step_25 rfl 0 rfl ?_
      refine v_getR C (p' := 34) fl_RX6_33 rfl rfl dX6_step_26 ?_
      refine v_iload_n C dX6_step_29 rfl 2 rfl ?_
      refine v_aload_n C dX6_step_30 rfl 0 rfl ?_
      refine v_getR C (p' := 34) fl_RX6_33 rfl rfl dX6_step_31 ?_
      refine v_iload_n C dX6_step_34 rfl 1 rfl ?_
      obtain ⟨nv4, v4, ev4, h⟩ := rdI_ex h
      refine x_iald C rfl nv4 ev4 dX6_step_35 ?_
      refine v_iload_n C dX6_step_36 rfl 3 rfl ?_
      refine v_iadd C dX6_step_37 ?_
      obtain ⟨nσ5, σ5, eσ5, h⟩ := wrI_ex h
      refine x_iast C rfl nσ5 eσ5 dX6_step_38 ?_
      refine v_iconst C (v := (1 : Int32)) dX6_step_39 (by decide) ?_
      cases h
      exact v_zret C (Or.inr rfl) dX6_step_40
theorem dX6_stepCell_0 : decode cX6_stepCell 0 = .ok (.iconst 0, 1) := by decide +kernel
theorem dX6_stepCell_1 : decode cX6_stepCell 1 = .ok (.istore 5, 2) := by decide +kernel
theorem dX6_stepCell_3 : decode cX6_stepCell 3 = .ok (.bipush 9, 2) := by decide +kernel
theorem dX6_stepCell_5 : decode cX6_stepCell 5 = .ok (.iload 4, 2) := by decide +kernel
theorem dX6_stepCell_7 : decode cX6_stepCell 7 = .ok (.imul, 1) := by decide +kernel
theorem dX6_stepCell_8 : decode cX6_stepCell 8 = .ok (.iload_n 3, 1) := by decide +kernel
theorem dX6_stepCell_9 : decode cX6_stepCell 9 = .ok (.iadd, 1) := by decide +kernel
theorem dX6_stepCell_10 : decode cX6_stepCell 10 = .ok (.istore 6, 2) := by decide +kernel
theorem dX6_stepCell_12 : decode cX6_stepCell 12 = .ok (.aload_n 0, 1) := by decide +kernel
theorem dX6_stepCell_13 : decode cX6_stepCell 13 = .ok (.iload_n 2, 1) := by decide +kernel
theorem dX6_stepCell_14 : decode cX6_stepCell 14 = .ok (.iload_n 3, 1) := by decide +kernel
theorem dX6_stepCell_15 : decode cX6_stepCell 15 = .ok (.iload 4, 2) := by decide +kernel
theorem dX6_stepCell_17 : decode cX6_stepCell 17 = .ok (.iconst 0, 1) := by decide +kernel
theorem dX6_stepCell_18 : decode cX6_stepCell 18 = .ok (.invokevirtual 182, 3) := by decide +kernel
theorem dX6_stepCell_21 : decode cX6_stepCell 21 = .ok (.aload_n 0, 1) := by decide +kernel
theorem dX6_stepCell_22 : decode cX6_stepCell 22 = .ok (.iload_n 1, 1) := by decide +kernel
theorem dX6_stepCell_23 : decode cX6_stepCell 23 = .ok (.iload_n 3, 1) := by decide +kernel
theorem dX6_stepCell_24 : decode cX6_stepCell 24 = .ok (.iload 4, 2) := by decide +kernel
theorem dX6_stepCell_26 : decode cX6_stepCell 26 = .ok (.iconst 0, 1) := by decide +kernel
theorem dX6_stepCell_27 : decode cX6_stepCell 27 = .ok (.invokevirtual 182, 3) := by decide +kernel
theorem dX6_stepCell_30 : decode cX6_stepCell 30 = .ok (.isub, 1) := by decide +kernel
theorem dX6_stepCell_31 : decode cX6_stepCell 31 = .ok (.istore 7, 2) := by decide +kernel
theorem dX6_stepCell_33 : decode cX6_stepCell 33 = .ok (.aload_n 0, 1) := by decide +kernel
theorem dX6_stepCell_34 : decode cX6_stepCell 34 = .ok (.iload_n 3, 1) := by decide +kernel
theorem dX6_stepCell_35 : decode cX6_stepCell 35 = .ok (.iload 4, 2) := by decide +kernel
theorem dX6_stepCell_37 : decode cX6_stepCell 37 = .ok (.iconst 1, 1) := by decide +kernel
theorem dX6_stepCell_38 : decode cX6_stepCell 38 = .ok (.invokevirtual 164, 3) := by decide +kernel
theorem dX6_stepCell_41 : decode cX6_stepCell 41 = .ok (.ifCond .eq 109, 3) := by decide +kernel
theorem dX6_stepCell_44 : decode cX6_stepCell 44 = .ok (.aload_n 0, 1) := by decide +kernel
theorem dX6_stepCell_45 : decode cX6_stepCell 45 = .ok (.iload 6, 2) := by decide +kernel
theorem dX6_stepCell_47 : decode cX6_stepCell 47 = .ok (.iload 6, 2) := by decide +kernel
theorem dX6_stepCell_49 : decode cX6_stepCell 49 = .ok (.iconst 1, 1) := by decide +kernel
theorem dX6_stepCell_50 : decode cX6_stepCell 50 = .ok (.iadd, 1) := by decide +kernel
theorem dX6_stepCell_51 : decode cX6_stepCell 51 = .ok (.aload_n 0, 1) := by decide +kernel
theorem dX6_stepCell_52 : decode cX6_stepCell 52 = .ok (.iload_n 2, 1) := by decide +kernel
theorem dX6_stepCell_53 : decode cX6_stepCell 53 = .ok (.iload_n 3, 1) := by decide +kernel
theorem dX6_stepCell_54 : decode cX6_stepCell 54 = .ok (.iload 4, 2) := by decide +kernel
theorem dX6_stepCell_56 : decode cX6_stepCell 56 = .ok (.iconst 2, 1) := by decide +kernel
theorem dX6_stepCell_57 : decode cX6_stepCell 57 = .ok (.invokevirtual 182, 3) := by decide +kernel
theorem dX6_stepCell_60 : decode cX6_stepCell 60 = .ok (.aload_n 0, 1) := by decide +kernel
theorem dX6_stepCell_61 : decode cX6_stepCell 61 = .ok (.iload_n 1, 1) := by decide +kernel
theorem dX6_stepCell_62 : decode cX6_stepCell 62 = .ok (.iload_n 3, 1) := by decide +kernel
theorem dX6_stepCell_63 : decode cX6_stepCell 63 = .ok (.iload 4, 2) := by decide +kernel
theorem dX6_stepCell_65 : decode cX6_stepCell 65 = .ok (.iconst 2, 1) := by decide +kernel
theorem dX6_stepCell_66 : decode cX6_stepCell 66 = .ok (.invokevirtual 182, 3) := by decide +kernel
theorem dX6_stepCell_69 : decode cX6_stepCell 69 = .ok (.isub, 1) := by decide +kernel
theorem dX6_stepCell_70 : decode cX6_stepCell 70 = .ok (.invokevirtual 186, 3) := by decide +kernel
theorem dX6_stepCell_73 : decode cX6_stepCell 73 = .ok (.istore 5, 2) := by decide +kernel
theorem dX6_stepCell_75 : decode cX6_stepCell 75 = .ok (.aload_n 0, 1) := by decide +kernel
theorem dX6_stepCell_76 : decode cX6_stepCell 76 = .ok (.iload 6, 2) := by decide +kernel
theorem dX6_stepCell_78 : decode cX6_stepCell 78 = .ok (.iconst 1, 1) := by decide +kernel
theorem dX6_stepCell_79 : decode cX6_stepCell 79 = .ok (.iadd, 1) := by decide +kernel
theorem dX6_stepCell_80 : decode cX6_stepCell 80 = .ok (.iload 6, 2) := by decide +kernel
theorem dX6_stepCell_82 : decode cX6_stepCell 82 = .ok (.bipush 9, 2) := by decide +kernel
theorem dX6_stepCell_84 : decode cX6_stepCell 84 = .ok (.iadd, 1) := by decide +kernel
theorem dX6_stepCell_85 : decode cX6_stepCell 85 = .ok (.iload 7, 2) := by decide +kernel
theorem dX6_stepCell_87 : decode cX6_stepCell 87 = .ok (.invokevirtual 186, 3) := by decide +kernel
theorem dX6_stepCell_90 : decode cX6_stepCell 90 = .ok (.ifCond .ne 8, 3) := by decide +kernel
theorem dX6_stepCell_93 : decode cX6_stepCell 93 = .ok (.iload 5, 2) := by decide +kernel
theorem dX6_stepCell_95 : decode cX6_stepCell 95 = .ok (.ifCond .eq 7, 3) := by decide +kernel
theorem dX6_stepCell_98 : decode cX6_stepCell 98 = .ok (.iconst 1, 1) := by decide +kernel
theorem dX6_stepCell_99 : decode cX6_stepCell 99 = .ok (.goto 4, 3) := by decide +kernel
theorem dX6_stepCell_102 : decode cX6_stepCell 102 = .ok (.iconst 0, 1) := by decide +kernel
theorem dX6_stepCell_103 : decode cX6_stepCell 103 = .ok (.istore 5, 2) := by decide +kernel
theorem dX6_stepCell_105 : decode cX6_stepCell 105 = .ok (.aload_n 0, 1) := by decide +kernel
theorem dX6_stepCell_106 : decode cX6_stepCell 106 = .ok (.iload 6, 2) := by decide +kernel
theorem dX6_stepCell_108 : decode cX6_stepCell 108 = .ok (.bipush 9, 2) := by decide +kernel
theorem dX6_stepCell_110 : decode cX6_stepCell 110 = .ok (.iadd, 1) := by decide +kernel
theorem dX6_stepCell_111 : decode cX6_stepCell 111 = .ok (.iload 6, 2) := by decide +kernel
theorem dX6_stepCell_113 : decode cX6_stepCell 113 = .ok (.aload_n 0, 1) := by decide +kernel
theorem dX6_stepCell_114 : decode cX6_stepCell 114 = .ok (.iload_n 2, 1) := by decide +kernel
theorem dX6_stepCell_115 : decode cX6_stepCell 115 = .ok (.iload_n 3, 1) := by decide +kernel
theorem dX6_stepCell_116 : decode cX6_stepCell 116 = .ok (.iload 4, 2) := by decide +kernel
theorem dX6_stepCell_118 : decode cX6_stepCell 118 = .ok (.iconst 1, 1) := by decide +kernel
theorem dX6_stepCell_119 : decode cX6_stepCell 119 = .ok (.invokevirtual 182, 3) := by decide +kernel
theorem dX6_stepCell_122 : decode cX6_stepCell 122 = .ok (.aload_n 0, 1) := by decide +kernel
theorem dX6_stepCell_123 : decode cX6_stepCell 123 = .ok (.iload_n 1, 1) := by decide +kernel
theorem dX6_stepCell_124 : decode cX6_stepCell 124 = .ok (.iload_n 3, 1) := by decide +kernel
theorem dX6_stepCell_125 : decode cX6_stepCell 125 = .ok (.iload 4, 2) := by decide +kernel
theorem dX6_stepCell_127 : decode cX6_stepCell 127 = .ok (.iconst 1, 1) := by decide +kernel
theorem dX6_stepCell_128 : decode cX6_stepCell 128 = .ok (.invokevirtual 182, 3) := by decide +kernel
theorem dX6_stepCell_131 : decode cX6_stepCell 131 = .ok (.isub, 1) := by decide +kernel
theorem dX6_stepCell_132 : decode cX6_stepCell 132 = .ok (.invokevirtual 186, 3) := by decide +kernel
theorem dX6_stepCell_135 : decode cX6_stepCell 135 = .ok (.ifCond .ne 8, 3) := by decide +kernel
theorem dX6_stepCell_138 : decode cX6_stepCell 138 = .ok (.iload 5, 2) := by decide +kernel
theorem dX6_stepCell_140 : decode cX6_stepCell 140 = .ok (.ifCond .eq 7, 3) := by decide +kernel
theorem dX6_stepCell_143 : decode cX6_stepCell 143 = .ok (.iconst 1, 1) := by decide +kernel
theorem dX6_stepCell_144 : decode cX6_stepCell 144 = .ok (.goto 4, 3) := by decide +kernel
theorem dX6_stepCell_147 : decode cX6_stepCell 147 = .ok (.iconst 0, 1) := by decide +kernel
theorem dX6_stepCell_148 : decode cX6_stepCell 148 = .ok (.istore 5, 2) := by decide +kernel
theorem dX6_stepCell_150 : decode cX6_stepCell 150 = .ok (.aload_n 0, 1) := by decide +kernel
theorem dX6_stepCell_151 : decode cX6_stepCell 151 = .ok (.iload_n 3, 1) := by decide +kernel
theorem dX6_stepCell_152 : decode cX6_stepCell 152 = .ok (.iload 4, 2) := by decide +kernel
theorem dX6_stepCell_154 : decode cX6_stepCell 154 = .ok (.iconst 0, 1) := by decide +kernel
theorem dX6_stepCell_155 : decode cX6_stepCell 155 = .ok (.invokevirtual 164, 3) := by decide +kernel
theorem dX6_stepCell_158 : decode cX6_stepCell 158 = .ok (.ifCond .eq 136, 3) := by decide +kernel
theorem dX6_stepCell_161 : decode cX6_stepCell 161 = .ok (.aload_n 0, 1) := by decide +kernel
theorem dX6_stepCell_162 : decode cX6_stepCell 162 = .ok (.iload 6, 2) := by decide +kernel
theorem dX6_stepCell_164 : decode cX6_stepCell 164 = .ok (.iconst 1, 1) := by decide +kernel
theorem dX6_stepCell_165 : decode cX6_stepCell 165 = .ok (.iadd, 1) := by decide +kernel
theorem dX6_stepCell_166 : decode cX6_stepCell 166 = .ok (.iload 6, 2) := by decide +kernel
theorem dX6_stepCell_168 : decode cX6_stepCell 168 = .ok (.bipush 9, 2) := by decide +kernel
theorem dX6_stepCell_170 : decode cX6_stepCell 170 = .ok (.iadd, 1) := by decide +kernel
theorem dX6_stepCell_171 : decode cX6_stepCell 171 = .ok (.iload 7, 2) := by decide +kernel
theorem dX6_stepCell_173 : decode cX6_stepCell 173 = .ok (.invokevirtual 186, 3) := by decide +kernel
theorem dX6_stepCell_176 : decode cX6_stepCell 176 = .ok (.ifCond .ne 8, 3) := by decide +kernel
theorem dX6_stepCell_179 : decode cX6_stepCell 179 = .ok (.iload 5, 2) := by decide +kernel
theorem dX6_stepCell_181 : decode cX6_stepCell 181 = .ok (.ifCond .eq 7, 3) := by decide +kernel
theorem dX6_stepCell_184 : decode cX6_stepCell 184 = .ok (.iconst 1, 1) := by decide +kernel
theorem dX6_stepCell_185 : decode cX6_stepCell 185 = .ok (.goto 4, 3) := by decide +kernel
theorem dX6_stepCell_188 : decode cX6_stepCell 188 = .ok (.iconst 0, 1) := by decide +kernel
theorem dX6_stepCell_189 : decode cX6_stepCell 189 = .ok (.istore 5, 2) := by decide +kernel
theorem dX6_stepCell_191 : decode cX6_stepCell 191 = .ok (.aload_n 0, 1) := by decide +kernel
theorem dX6_stepCell_192 : decode cX6_stepCell 192 = .ok (.iload 6, 2) := by decide +kernel
theorem dX6_stepCell_194 : decode cX6_stepCell 194 = .ok (.bipush 9, 2) := by decide +kernel
theorem dX6_stepCell_196 : decode cX6_stepCell 196 = .ok (.iadd, 1) := by decide +kernel
theorem dX6_stepCell_197 : decode cX6_stepCell 197 = .ok (.iload 6, 2) := by decide +kernel
theorem dX6_stepCell_199 : decode cX6_stepCell 199 = .ok (.bipush 10, 2) := by decide +kernel
theorem dX6_stepCell_201 : decode cX6_stepCell 201 = .ok (.iadd, 1) := by decide +kernel
theorem dX6_stepCell_202 : decode cX6_stepCell 202 = .ok (.aload_n 0, 1) := by decide +kernel
theorem dX6_stepCell_203 : decode cX6_stepCell 203 = .ok (.iload_n 2, 1) := by decide +kernel
theorem dX6_stepCell_204 : decode cX6_stepCell 204 = .ok (.iload_n 3, 1) := by decide +kernel
theorem dX6_stepCell_205 : decode cX6_stepCell 205 = .ok (.iload 4, 2) := by decide +kernel
theorem dX6_stepCell_207 : decode cX6_stepCell 207 = .ok (.iconst 1, 1) := by decide +kernel
theorem dX6_stepCell_208 : decode cX6_stepCell 208 = .ok (.iadd, 1) := by decide +kernel
theorem dX6_stepCell_209 : decode cX6_stepCell 209 = .ok (.iconst 2, 1) := by decide +kernel
theorem dX6_stepCell_210 : decode cX6_stepCell 210 = .ok (.invokevirtual 182, 3) := by decide +kernel
theorem dX6_stepCell_213 : decode cX6_stepCell 213 = .ok (.aload_n 0, 1) := by decide +kernel
theorem dX6_stepCell_214 : decode cX6_stepCell 214 = .ok (.iload_n 1, 1) := by decide +kernel
theorem dX6_stepCell_215 : decode cX6_stepCell 215 = .ok (.iload_n 3, 1) := by decide +kernel
theorem dX6_stepCell_216 : decode cX6_stepCell 216 = .ok (.iload 4, 2) := by decide +kernel
theorem dX6_stepCell_218 : decode cX6_stepCell 218 = .ok (.iconst 1, 1) := by decide +kernel
theorem dX6_stepCell_219 : decode cX6_stepCell 219 = .ok (.iadd, 1) := by decide +kernel
theorem dX6_stepCell_220 : decode cX6_stepCell 220 = .ok (.iconst 2, 1) := by decide +kernel
theorem dX6_stepCell_221 : decode cX6_stepCell 221 = .ok (.invokevirtual 182, 3) := by decide +kernel
theorem dX6_stepCell_224 : decode cX6_stepCell 224 = .ok (.isub, 1) := by decide +kernel
theorem dX6_stepCell_225 : decode cX6_stepCell 225 = .ok (.invokevirtual 186, 3) := by decide +kernel
theorem dX6_stepCell_228 : decode cX6_stepCell 228 = .ok (.ifCond .ne 8, 3) := by decide +kernel
theorem dX6_stepCell_231 : decode cX6_stepCell 231 = .ok (.iload 5, 2) := by decide +kernel
theorem dX6_stepCell_233 : decode cX6_stepCell 233 = .ok (.ifCond .eq 7, 3) := by decide +kernel
theorem dX6_stepCell_236 : decode cX6_stepCell 236 = .ok (.iconst 1, 1) := by decide +kernel
theorem dX6_stepCell_237 : decode cX6_stepCell 237 = .ok (.goto 4, 3) := by decide +kernel
theorem dX6_stepCell_240 : decode cX6_stepCell 240 = .ok (.iconst 0, 1) := by decide +kernel
theorem dX6_stepCell_241 : decode cX6_stepCell 241 = .ok (.istore 5, 2) := by decide +kernel
theorem dX6_stepCell_243 : decode cX6_stepCell 243 = .ok (.aload_n 0, 1) := by decide +kernel
theorem dX6_stepCell_244 : decode cX6_stepCell 244 = .ok (.iload 6, 2) := by decide +kernel
theorem dX6_stepCell_246 : decode cX6_stepCell 246 = .ok (.bipush 10, 2) := by decide +kernel
theorem dX6_stepCell_248 : decode cX6_stepCell 248 = .ok (.iadd, 1) := by decide +kernel
theorem dX6_stepCell_249 : decode cX6_stepCell 249 = .ok (.iload 6, 2) := by decide +kernel
theorem dX6_stepCell_251 : decode cX6_stepCell 251 = .ok (.iconst 1, 1) := by decide +kernel
theorem dX6_stepCell_252 : decode cX6_stepCell 252 = .ok (.iadd, 1) := by decide +kernel
theorem dX6_stepCell_253 : decode cX6_stepCell 253 = .ok (.aload_n 0, 1) := by decide +kernel
theorem dX6_stepCell_254 : decode cX6_stepCell 254 = .ok (.iload_n 2, 1) := by decide +kernel
theorem dX6_stepCell_255 : decode cX6_stepCell 255 = .ok (.iload_n 3, 1) := by decide +kernel
theorem dX6_stepCell_256 : decode cX6_stepCell 256 = .ok (.iconst 1, 1) := by decide +kernel
theorem dX6_stepCell_257 : decode cX6_stepCell 257 = .ok (.iadd, 1) := by decide +kernel
theorem dX6_stepCell_258 : decode cX6_stepCell 258 = .ok (.iload 4, 2) := by decide +kernel
theorem dX6_stepCell_260 : decode cX6_stepCell 260 = .ok (.iconst 1, 1) := by decide +kernel
theorem dX6_stepCell_261 : decode cX6_stepCell 261 = .ok (.invokevirtual 182, 3) := by decide +kernel
theorem dX6_stepCell_264 : decode cX6_stepCell 264 = .ok (.aload_n 0, 1) := by decide +kernel
theorem dX6_stepCell_265 : decode cX6_stepCell 265 = .ok (.iload_n 1, 1) := by decide +kernel
theorem dX6_stepCell_266 : decode cX6_stepCell 266 = .ok (.iload_n 3, 1) := by decide +kernel
theorem dX6_stepCell_267 : decode cX6_stepCell 267 = .ok (.iconst 1, 1) := by decide +kernel
theorem dX6_stepCell_268 : decode cX6_stepCell 268 = .ok (.iadd, 1) := by decide +kernel
theorem dX6_stepCell_269 : decode cX6_stepCell 269 = .ok (.iload 4, 2) := by decide +kernel
theorem dX6_stepCell_271 : decode cX6_stepCell 271 = .ok (.iconst 1, 1) := by decide +kernel
theorem dX6_stepCell_272 : decode cX6_stepCell 272 = .ok (.invokevirtual 182, 3) := by decide +kernel
theorem dX6_stepCell_275 : decode cX6_stepCell 275 = .ok (.isub, 1) := by decide +kernel
theorem dX6_stepCell_276 : decode cX6_stepCell 276 = .ok (.invokevirtual 186, 3) := by decide +kernel
theorem dX6_stepCell_279 : decode cX6_stepCell 279 = .ok (.ifCond .ne 8, 3) := by decide +kernel
theorem dX6_stepCell_282 : decode cX6_stepCell 282 = .ok (.iload 5, 2) := by decide +kernel
theorem dX6_stepCell_284 : decode cX6_stepCell 284 = .ok (.ifCond .eq 7, 3) := by decide +kernel
theorem dX6_stepCell_287 : decode cX6_stepCell 287 = .ok (.iconst 1, 1) := by decide +kernel
theorem dX6_stepCell_288 : decode cX6_stepCell 288 = .ok (.goto 4, 3) := by decide +kernel
theorem dX6_stepCell_291 : decode cX6_stepCell 291 = .ok (.iconst 0, 1) := by decide +kernel
theorem dX6_stepCell_292 : decode cX6_stepCell 292 = .ok (.istore 5, 2) := by decide +kernel
theorem dX6_stepCell_294 : decode cX6_stepCell 294 = .ok (.iload 5, 2) := by decide +kernel
theorem dX6_stepCell_296 : decode cX6_stepCell 296 = .ok (.ireturn, 1) := by decide +kernel
def f_X6_stepCell_294 (x5 : Int32) (σ : St) : Option (Int32 × St) :=
  gz x5 <|
  some (x5, σ)
set_option maxRecDepth 100000 in
set_option maxHeartbeats 4000000 in
theorem b_X6_stepCell_294 {g : Geo} {x : Cx} (C : Ok g x cX6_stepCell RX6 8 (some .boolean) rm_X6_stepCell) : ∀ (x5 : Int32) (σ : St) (r : Int32) (σ' : St), f_X6_stepCell_294 x5 σ = some (r, σ') → V g x (qm g x (some (.int r)) σ') 8 σ [(5, .int x5)] [] 294 := by
  intro x5 σ r σ' h
  unfold f_X6_stepCell_294 at h
  refine v_iload C dX6_stepCell_294 0 rfl ?_
  obtain ⟨hz, h⟩ := gz_some h
  cases h
  exact v_zret C hz dX6_stepCell_296
def f_X6_stepCell_292 (s0 : Int32) (σ : St) : Option (Int32 × St) :=
  f_X6_stepCell_294 s0 σ
set_option maxRecDepth 100000 in
set_option maxHeartbeats 4000000 in
theorem b_X6_stepCell_292 {g : Geo} {x : Cx} (C : Ok g x cX6_stepCell RX6 8 (some .boolean) rm_X6_stepCell) : ∀ (s0 : Int32) (σ : St) (r : Int32) (σ' : St), f_X6_stepCell_292 s0 σ = some (r, σ') → V g x (qm g x (some (.int r)) σ') 8 σ [] [.int s0] 292 := by
  intro s0 σ r σ' h
  unfold f_X6_stepCell_292 at h
  refine v_istore C (lv' := [(5, .int _)]) dX6_stepCell_292 (by decide) rfl ?_
  refine V.sub (lv' := [(5, .int _)]) [0] rfl ?_
  exact b_X6_stepCell_294 C _  _ _ _ h
def f_X6_stepCell_287 (σ : St) : Option (Int32 × St) :=
  f_X6_stepCell_292 (1 : Int32) σ
set_option maxRecDepth 100000 in
set_option maxHeartbeats 4000000 in
theorem b_X6_stepCell_287 {g : Geo} {x : Cx} (C : Ok g x cX6_stepCell RX6 8 (some .boolean) rm_X6_stepCell) : ∀ (σ : St) (r : Int32) (σ' : St), f_X6_stepCell_287 σ = some (r, σ') → V g x (qm g x (some (.int r)) σ') 8 σ [] [] 287 := by
  intro σ r σ' h
  unfold f_X6_stepCell_287 at h
  refine v_iconst C (v := (1 : Int32)) dX6_stepCell_287 (by decide) ?_
  refine v_goto C (tgt := 292) dX6_stepCell_288 (by decide) ?_
  refine V.sub (lv' := []) [] rfl ?_
  exact b_X6_stepCell_292 C _  _ _ _ h
def f_X6_stepCell_241 (x1 : Int32) (x2 : Int32) (x3 : Int32) (x4 : Int32) (x6 : Int32) (s0 : Int32) (σ : St) : Option (Int32 × St) :=
  bd (f_X6_crossed x2 (x3 + (1 : Int32)) x4 (1 : Int32) σ) fun v1 σ2 =>
  bd (f_X6_crossed x1 (x3 + (1 : Int32)) x4 (1 : Int32) σ2) fun v3 σ4 =>
  bd (f_X6_step (x6 + (10 : Int32)) (x6 + (1 : Int32)) (v1 - v3) σ4) fun v5 σ6 =>
  if v5 = 0 then
    if s0 = 0 then
      f_X6_stepCell_292 (0 : Int32) σ6
    else
      f_X6_stepCell_287 σ6
  else
    f_X6_stepCell_287 σ6
set_option maxRecDepth 100000 in
set_option maxHeartbeats 4000000 in
theorem b_X6_stepCell_241 {g : Geo} {x : Cx} (C : Ok g x cX6_stepCell RX6 8 (some .boolean) rm_X6_stepCell) : ∀ (x1 : Int32) (x2 : Int32) (x3 : Int32) (x4 : Int32) (x6 : Int32) (s0 : Int32) (σ : St) (r : Int32) (σ' : St), f_X6_stepCell_241 x1 x2 x3 x4 x6 s0 σ = some (r, σ') → V g x (qm g x (some (.int r)) σ') 8 σ [(0, .ref (g.1 26)), (1, .int x1), (2, .int x2), (3, .int x3), (4, .int x4), (6, .int x6)] [.int s0] 241 := by
  intro x1 x2 x3 x4 x6 s0 σ r σ' h
  unfold f_X6_stepCell_241 at h
  refine v_istore C (lv' := [(5, .int _), (0, .ref _), (1, .int _), (2, .int _), (3, .int _), (4, .int _), (6, .int _)]) dX6_stepCell_241 (by decide) rfl ?_
  refine v_aload_n C dX6_stepCell_243 rfl 1 rfl ?_
  refine v_iload C dX6_stepCell_244 6 rfl ?_
  refine v_bipush C (v := (10 : Int32)) dX6_stepCell_246 (by decide) ?_
  refine v_iadd C dX6_stepCell_248 ?_
  refine v_iload C dX6_stepCell_249 6 rfl ?_
  refine v_iconst C (v := (1 : Int32)) dX6_stepCell_251 (by decide) ?_
  refine v_iadd C dX6_stepCell_252 ?_
  refine v_aload_n C dX6_stepCell_253 rfl 1 rfl ?_
  refine v_iload_n C dX6_stepCell_254 rfl 3 rfl ?_
  refine v_iload_n C dX6_stepCell_255 rfl 4 rfl ?_
  refine v_iconst C (v := (1 : Int32)) dX6_stepCell_256 (by decide) ?_
  refine v_iadd C dX6_stepCell_257 ?_
  refine v_iload C dX6_stepCell_258 5 rfl ?_
  refine v_iconst C (v := (1 : Int32)) dX6_stepCell_260 (by decide) ?_
  obtain ⟨v1, σ2, cσ2, h⟩ := bd_some h
  refine callVi C (c_X6_crossed cσ2) km_X6_crossed kv_X6_crossed rfl ml_RX6_182 rfl rfl (by decide) (Nat.le_of_ble_eq_true rfl) dX6_stepCell_261 ?_
  refine v_aload_n C dX6_stepCell_264 rfl 1 rfl ?_
  refine v_iload_n C dX6_stepCell_265 rfl 2 rfl ?_
  refine v_iload_n C dX6_stepCell_266 rfl 4 rfl ?_
  refine v_iconst C (v := (1 : Int32)) dX6_stepCell_267 (by decide) ?_
  refine v_iadd C dX6_stepCell_268 ?_
  refine v_iload C dX6_stepCell_269 5 rfl ?_
  refine v_iconst C (v := (1 : Int32)) dX6_stepCell_271 (by decide) ?_
  obtain ⟨v3, σ4, cσ4, h⟩ := bd_some h
  refine callVi C (c_X6_crossed cσ4) km_X6_crossed kv_X6_crossed rfl ml_RX6_182 rfl rfl (by decide) (Nat.le_of_ble_eq_true rfl) dX6_stepCell_272 ?_
  refine v_isub C dX6_stepCell_275 ?_
  obtain ⟨v5, σ6, cσ6, h⟩ := bd_some h
  refine callVi C (c_X6_step cσ6) km_X6_step kv_X6_step rfl ml_RX6_186 rfl rfl (by decide) (Nat.le_of_ble_eq_true rfl) dX6_stepCell_276 ?_
  refine v_if_ne C (tgt := 287) dX6_stepCell_279 (by decide) (fun q8 => ?_) (fun q8 => ?_)
  · rw [if_neg q8] at h
    refine V.sub (lv' := []) [] rfl ?_
    exact b_X6_stepCell_287 C  _ _ _ h
  · rw [if_pos q8] at h
    refine v_iload C dX6_stepCell_282 0 rfl ?_
    refine v_if_eq C (tgt := 291) dX6_stepCell_284 (by decide) (fun q7 => ?_) (fun q7 => ?_)
    · rw [if_pos q7] at h
      refine v_iconst C (v := (0 : Int32)) dX6_stepCell_291 (by decide) ?_
      refine V.sub (lv' := []) [] rfl ?_
      exact b_X6_stepCell_292 C _  _ _ _ h
    · rw [if_neg q7] at h
      refine V.sub (lv' := []) [] rfl ?_
      exact b_X6_stepCell_287 C  _ _ _ h
def f_X6_stepCell_236 (x1 : Int32) (x2 : Int32) (x3 : Int32) (x4 : Int32) (x6 : Int32) (σ : St) : Option (Int32 × St) :=
  f_X6_stepCell_241 x1 x2 x3 x4 x6 (1 : Int32) σ
set_option maxRecDepth 100000 in
set_option maxHeartbeats 4000000 in
theorem b_X6_stepCell_236 {g : Geo} {x : Cx} (C : Ok g x cX6_stepCell RX6 8 (some .boolean) rm_X6_stepCell) : ∀ (x1 : Int32) (x2 : Int32) (x3 : Int32) (x4 : Int32) (x6 : Int32) (σ : St) (r : Int32) (σ' : St), f_X6_stepCell_236 x1 x2 x3 x4 x6 σ = some (r, σ') → V g x (qm g x (some (.int r)) σ') 8 σ [(0, .ref (g.1 26)), (1, .int x1), (2, .int x2), (3, .int x3), (4, .int x4), (6, .int x6)] [] 236 := by
  intro x1 x2 x3 x4 x6 σ r σ' h
  unfold f_X6_stepCell_236 at h
  refine v_iconst C (v := (1 : Int32)) dX6_stepCell_236 (by decide) ?_
  refine v_goto C (tgt := 241) dX6_stepCell_237 (by decide) ?_
  refine V.sub (lv' := [(0, .ref _), (1, .int _), (2, .int _), (3, .int _), (4, .int _), (6, .int _)]) [0, 1, 2, 3, 4, 5] rfl ?_
  exact b_X6_stepCell_241 C _ _ _ _ _ _  _ _ _ h
def f_X6_stepCell_189 (x1 : Int32) (x2 : Int32) (x3 : Int32) (x4 : Int32) (x6 : Int32) (s0 : Int32) (σ : St) : Option (Int32 × St) :=
  bd (f_X6_crossed x2 x3 (x4 + (1 : Int32)) (2 : Int32) σ) fun v1 σ2 =>
  bd (f_X6_crossed x1 x3 (x4 + (1 : Int32)) (2 : Int32) σ2) fun v3 σ4 =>
  bd (f_X6_step (x6 + (9 : Int32)) (x6 + (10 : Int32)) (v1 - v3) σ4) fun v5 σ6 =>
  if v5 = 0 then
    if s0 = 0 then
      f_X6_stepCell_241 x1 x2 x3 x4 x6 (0 : Int32) σ6
    else
      f_X6_stepCell_236 x1 x2 x3 x4 x6 σ6
  else
    f_X6_stepCell_236 x1 x2 x3 x4 x6 σ6
set_option maxRecDepth 100000 in
set_option maxHeartbeats 4000000 in
theorem b_X6_stepCell_189 {g : Geo} {x : Cx} (C : Ok g x cX6_stepCell RX6 8 (some .boolean) rm_X6_stepCell) : ∀ (x1 : Int32) (x2 : Int32) (x3 : Int32) (x4 : Int32) (x6 : Int32) (s0 : Int32) (σ : St) (r : Int32) (σ' : St), f_X6_stepCell_189 x1 x2 x3 x4 x6 s0 σ = some (r, σ') → V g x (qm g x (some (.int r)) σ') 8 σ [(0, .ref (g.1 26)), (1, .int x1), (2, .int x2), (3, .int x3), (4, .int x4), (6, .int x6)] [.int s0] 189 := by
  intro x1 x2 x3 x4 x6 s0 σ r σ' h
  unfold f_X6_stepCell_189 at h
  refine v_istore C (lv' := [(5, .int _), (0, .ref _), (1, .int _), (2, .int _), (3, .int _), (4, .int _), (6, .int _)]) dX6_stepCell_189 (by decide) rfl ?_
  refine v_aload_n C dX6_stepCell_191 rfl 1 rfl ?_
  refine v_iload C dX6_stepCell_192 6 rfl ?_
  refine v_bipush C (v := (9 : Int32)) dX6_stepCell_194 (by decide) ?_
  refine v_iadd C dX6_stepCell_196 ?_
  refine v_iload C dX6_stepCell_197 6 rfl ?_
  refine v_bipush C (v := (10 : Int32)) dX6_stepCell_199 (by decide) ?_
  refine v_iadd C dX6_stepCell_201 ?_
  refine v_aload_n C dX6_stepCell_202 rfl 1 rfl ?_
  refine v_iload_n C dX6_stepCell_203 rfl 3 rfl ?_
  refine v_iload_n C dX6_stepCell_204 rfl 4 rfl ?_
  refine v_iload C dX6_stepCell_205 5 rfl ?_
  refine v_iconst C (v := (1 : Int32)) dX6_stepCell_207 (by decide) ?_
  refine v_iadd C dX6_stepCell_208 ?_
  refine v_iconst C (v := (2 : Int32)) dX6_stepCell_209 (by decide) ?_
  obtain ⟨v1, σ2, cσ2, h⟩ := bd_some h
  refine callVi C (c_X6_crossed cσ2) km_X6_crossed kv_X6_crossed rfl ml_RX6_182 rfl rfl (by decide) (Nat.le_of_ble_eq_true rfl) dX6_stepCell_210 ?_
  refine v_aload_n C dX6_stepCell_213 rfl 1 rfl ?_
  refine v_iload_n C dX6_stepCell_214 rfl 2 rfl ?_
  refine v_iload_n C dX6_stepCell_215 rfl 4 rfl ?_
  refine v_iload C dX6_stepCell_216 5 rfl ?_
  refine v_iconst C (v := (1 : Int32)) dX6_stepCell_218 (by decide) ?_
  refine v_iadd C dX6_stepCell_219 ?_
  refine v_iconst C (v := (2 : Int32)) dX6_stepCell_220 (by decide) ?_
  obtain ⟨v3, σ4, cσ4, h⟩ := bd_some h
  refine callVi C (c_X6_crossed cσ4) km_X6_crossed kv_X6_crossed rfl ml_RX6_182 rfl rfl (by decide) (Nat.le_of_ble_eq_true rfl) dX6_stepCell_221 ?_
  refine v_isub C dX6_stepCell_224 ?_
  obtain ⟨v5, σ6, cσ6, h⟩ := bd_some h
  refine callVi C (c_X6_step cσ6) km_X6_step kv_X6_step rfl ml_RX6_186 rfl rfl (by decide) (Nat.le_of_ble_eq_true rfl) dX6_stepCell_225 ?_
  refine v_if_ne C (tgt := 236) dX6_stepCell_228 (by decide) (fun q8 => ?_) (fun q8 => ?_)
  · rw [if_neg q8] at h
    refine V.sub (lv' := [(0, .ref _), (1, .int _), (2, .int _), (3, .int _), (4, .int _), (6, .int _)]) [1, 2, 3, 4, 5, 6] rfl ?_
    exact b_X6_stepCell_236 C _ _ _ _ _  _ _ _ h
  · rw [if_pos q8] at h
    refine v_iload C dX6_stepCell_231 0 rfl ?_
    refine v_if_eq C (tgt := 240) dX6_stepCell_233 (by decide) (fun q7 => ?_) (fun q7 => ?_)
    · rw [if_pos q7] at h
      refine v_iconst C (v := (0 : Int32)) dX6_stepCell_240 (by decide) ?_
      refine V.sub (lv' := [(0, .ref _), (1, .int _), (2, .int _), (3, .int _), (4, .int _), (6, .int _)]) [1, 2, 3, 4, 5, 6] rfl ?_
      exact b_X6_stepCell_241 C _ _ _ _ _ _  _ _ _ h
    · rw [if_neg q7] at h
      refine V.sub (lv' := [(0, .ref _), (1, .int _), (2, .int _), (3, .int _), (4, .int _), (6, .int _)]) [1, 2, 3, 4, 5, 6] rfl ?_
      exact b_X6_stepCell_236 C _ _ _ _ _  _ _ _ h
def f_X6_stepCell_184 (x1 : Int32) (x2 : Int32) (x3 : Int32) (x4 : Int32) (x6 : Int32) (σ : St) : Option (Int32 × St) :=
  f_X6_stepCell_189 x1 x2 x3 x4 x6 (1 : Int32) σ
set_option maxRecDepth 100000 in
set_option maxHeartbeats 4000000 in
theorem b_X6_stepCell_184 {g : Geo} {x : Cx} (C : Ok g x cX6_stepCell RX6 8 (some .boolean) rm_X6_stepCell) : ∀ (x1 : Int32) (x2 : Int32) (x3 : Int32) (x4 : Int32) (x6 : Int32) (σ : St) (r : Int32) (σ' : St), f_X6_stepCell_184 x1 x2 x3 x4 x6 σ = some (r, σ') → V g x (qm g x (some (.int r)) σ') 8 σ [(0, .ref (g.1 26)), (1, .int x1), (2, .int x2), (3, .int x3), (4, .int x4), (6, .int x6)] [] 184 := by
  intro x1 x2 x3 x4 x6 σ r σ' h
  unfold f_X6_stepCell_184 at h
  refine v_iconst C (v := (1 : Int32)) dX6_stepCell_184 (by decide) ?_
  refine v_goto C (tgt := 189) dX6_stepCell_185 (by decide) ?_
  refine V.sub (lv' := [(0, .ref _), (1, .int _), (2, .int _), (3, .int _), (4, .int _), (6, .int _)]) [0, 1, 2, 3, 4, 5] rfl ?_
  exact b_X6_stepCell_189 C _ _ _ _ _ _  _ _ _ h
def f_X6_stepCell_150 (x1 : Int32) (x2 : Int32) (x3 : Int32) (x4 : Int32) (x5 : Int32) (x6 : Int32) (x7 : Int32) (σ : St) : Option (Int32 × St) :=
  bd (f_X6_isThere x3 x4 (0 : Int32) σ) fun v1 σ2 =>
  if v1 = 0 then
    f_X6_stepCell_294 x5 σ2
  else
    bd (f_X6_step (x6 + (1 : Int32)) (x6 + (9 : Int32)) x7 σ2) fun v3 σ4 =>
    if v3 = 0 then
      if x5 = 0 then
        f_X6_stepCell_189 x1 x2 x3 x4 x6 (0 : Int32) σ4
      else
        f_X6_stepCell_184 x1 x2 x3 x4 x6 σ4
    else
      f_X6_stepCell_184 x1 x2 x3 x4 x6 σ4
set_option maxRecDepth 100000 in
set_option maxHeartbeats 4000000 in
theorem b_X6_stepCell_150 {g : Geo} {x : Cx} (C : Ok g x cX6_stepCell RX6 8 (some .boolean) rm_X6_stepCell) : ∀ (x1 : Int32) (x2 : Int32) (x3 : Int32) (x4 : Int32) (x5 : Int32) (x6 : Int32) (x7 : Int32) (σ : St) (r : Int32) (σ' : St), f_X6_stepCell_150 x1 x2 x3 x4 x5 x6 x7 σ = some (r, σ') → V g x (qm g x (some (.int r)) σ') 8 σ [(0, .ref (g.1 26)), (1, .int x1), (2, .int x2), (3, .int x3), (4, .int x4), (5, .int x5), (6, .int x6), (7, .int x7)] [] 150 := by
  intro x1 x2 x3 x4 x5 x6 x7 σ r σ' h
  unfold f_X6_stepCell_150 at h
  refine v_aload_n C dX6_stepCell_150 rfl 0 rfl ?_
  refine v_iload_n C dX6_stepCell_151 rfl 3 rfl ?_
  refine v_iload C dX6_stepCell_152 4 rfl ?_
  refine v_iconst C (v := (0 : Int32)) dX6_stepCell_154 (by decide) ?_
  obtain ⟨v1, σ2, cσ2, h⟩ := bd_some h
  refine callVi C (c_X6_isThere cσ2) km_X6_isThere kv_X6_isThere rfl ml_RX6_164 rfl rfl (by decide) (Nat.le_of_ble_eq_true rfl) dX6_stepCell_155 ?_
  refine v_if_eq C (tgt := 294) dX6_stepCell_158 (by decide) (fun q7 => ?_) (fun q7 => ?_)
  · rw [if_pos q7] at h
    refine V.sub (lv' := [(5, .int _)]) [5] rfl ?_
    exact b_X6_stepCell_294 C _  _ _ _ h
  · rw [if_neg q7] at h
    refine v_aload_n C dX6_stepCell_161 rfl 0 rfl ?_
    refine v_iload C dX6_stepCell_162 6 rfl ?_
    refine v_iconst C (v := (1 : Int32)) dX6_stepCell_164 (by decide) ?_
    refine v_iadd C dX6_stepCell_165 ?_
    refine v_iload C dX6_stepCell_166 6 rfl ?_
    refine v_bipush C (v := (9 : Int32)) dX6_stepCell_168 (by decide) ?_
    refine v_iadd C dX6_stepCell_170 ?_
    refine v_iload C dX6_stepCell_171 7 rfl ?_
    obtain ⟨v3, σ4, cσ4, h⟩ := bd_some h
    refine callVi C (c_X6_step cσ4) km_X6_step kv_X6_step rfl ml_RX6_186 rfl rfl (by decide) (Nat.le_of_ble_eq_true rfl) dX6_stepCell_173 ?_
    refine v_if_ne C (tgt := 184) dX6_stepCell_176 (by decide) (fun q6 => ?_) (fun q6 => ?_)
    · rw [if_neg q6] at h
      refine V.sub (lv' := [(0, .ref _), (1, .int _), (2, .int _), (3, .int _), (4, .int _), (6, .int _)]) [0, 1, 2, 3, 4, 6] rfl ?_
      exact b_X6_stepCell_184 C _ _ _ _ _  _ _ _ h
    · rw [if_pos q6] at h
      refine v_iload C dX6_stepCell_179 5 rfl ?_
      refine v_if_eq C (tgt := 188) dX6_stepCell_181 (by decide) (fun q5 => ?_) (fun q5 => ?_)
      · rw [if_pos q5] at h
        refine v_iconst C (v := (0 : Int32)) dX6_stepCell_188 (by decide) ?_
        refine V.sub (lv' := [(0, .ref _), (1, .int _), (2, .int _), (3, .int _), (4, .int _), (6, .int _)]) [0, 1, 2, 3, 4, 6] rfl ?_
        exact b_X6_stepCell_189 C _ _ _ _ _ _  _ _ _ h
      · rw [if_neg q5] at h
        refine V.sub (lv' := [(0, .ref _), (1, .int _), (2, .int _), (3, .int _), (4, .int _), (6, .int _)]) [0, 1, 2, 3, 4, 6] rfl ?_
        exact b_X6_stepCell_184 C _ _ _ _ _  _ _ _ h
def f_X6_stepCell_148 (x1 : Int32) (x2 : Int32) (x3 : Int32) (x4 : Int32) (x6 : Int32) (x7 : Int32) (s0 : Int32) (σ : St) : Option (Int32 × St) :=
  f_X6_stepCell_150 x1 x2 x3 x4 s0 x6 x7 σ
set_option maxRecDepth 100000 in
set_option maxHeartbeats 4000000 in
theorem b_X6_stepCell_148 {g : Geo} {x : Cx} (C : Ok g x cX6_stepCell RX6 8 (some .boolean) rm_X6_stepCell) : ∀ (x1 : Int32) (x2 : Int32) (x3 : Int32) (x4 : Int32) (x6 : Int32) (x7 : Int32) (s0 : Int32) (σ : St) (r : Int32) (σ' : St), f_X6_stepCell_148 x1 x2 x3 x4 x6 x7 s0 σ = some (r, σ') → V g x (qm g x (some (.int r)) σ') 8 σ [(0, .ref (g.1 26)), (1, .int x1), (2, .int x2), (3, .int x3), (4, .int x4), (6, .int x6), (7, .int x7)] [.int s0] 148 := by
  intro x1 x2 x3 x4 x6 x7 s0 σ r σ' h
  unfold f_X6_stepCell_148 at h
  refine v_istore C (lv' := [(5, .int _), (0, .ref _), (1, .int _), (2, .int _), (3, .int _), (4, .int _), (6, .int _), (7, .int _)]) dX6_stepCell_148 (by decide) rfl ?_
  refine V.sub (lv' := [(0, .ref _), (1, .int _), (2, .int _), (3, .int _), (4, .int _), (5, .int _), (6, .int _), (7, .int _)]) [1, 2, 3, 4, 5, 0, 6, 7] rfl ?_
  exact b_X6_stepCell_150 C _ _ _ _ _ _ _  _ _ _ h
def f_X6_stepCell_143 (x1 : Int32) (x2 : Int32) (x3 : Int32) (x4 : Int32) (x6 : Int32) (x7 : Int32) (σ : St) : Option (Int32 × St) :=
  f_X6_stepCell_148 x1 x2 x3 x4 x6 x7 (1 : Int32) σ
set_option maxRecDepth 100000 in
set_option maxHeartbeats 4000000 in
theorem b_X6_stepCell_143 {g : Geo} {x : Cx} (C : Ok g x cX6_stepCell RX6 8 (some .boolean) rm_X6_stepCell) : ∀ (x1 : Int32) (x2 : Int32) (x3 : Int32) (x4 : Int32) (x6 : Int32) (x7 : Int32) (σ : St) (r : Int32) (σ' : St), f_X6_stepCell_143 x1 x2 x3 x4 x6 x7 σ = some (r, σ') → V g x (qm g x (some (.int r)) σ') 8 σ [(0, .ref (g.1 26)), (1, .int x1), (2, .int x2), (3, .int x3), (4, .int x4), (6, .int x6), (7, .int x7)] [] 143 := by
  intro x1 x2 x3 x4 x6 x7 σ r σ' h
  unfold f_X6_stepCell_143 at h
  refine v_iconst C (v := (1 : Int32)) dX6_stepCell_143 (by decide) ?_
  refine v_goto C (tgt := 148) dX6_stepCell_144 (by decide) ?_
  refine V.sub (lv' := [(0, .ref _), (1, .int _), (2, .int _), (3, .int _), (4, .int _), (6, .int _), (7, .int _)]) [0, 1, 2, 3, 4, 5, 6] rfl ?_
  exact b_X6_stepCell_148 C _ _ _ _ _ _ _  _ _ _ h
def f_X6_stepCell_103 (x1 : Int32) (x2 : Int32) (x3 : Int32) (x4 : Int32) (x6 : Int32) (x7 : Int32) (s0 : Int32) (σ : St) : Option (Int32 × St) :=
  bd (f_X6_crossed x2 x3 x4 (1 : Int32) σ) fun v1 σ2 =>
  bd (f_X6_crossed x1 x3 x4 (1 : Int32) σ2) fun v3 σ4 =>
  bd (f_X6_step (x6 + (9 : Int32)) x6 (v1 - v3) σ4) fun v5 σ6 =>
  if v5 = 0 then
    if s0 = 0 then
      f_X6_stepCell_148 x1 x2 x3 x4 x6 x7 (0 : Int32) σ6
    else
      f_X6_stepCell_143 x1 x2 x3 x4 x6 x7 σ6
  else
    f_X6_stepCell_143 x1 x2 x3 x4 x6 x7 σ6
set_option maxRecDepth 100000 in
set_option maxHeartbeats 4000000 in
theorem b_X6_stepCell_103 {g : Geo} {x : Cx} (C : Ok g x cX6_stepCell RX6 8 (some .boolean) rm_X6_stepCell) : ∀ (x1 : Int32) (x2 : Int32) (x3 : Int32) (x4 : Int32) (x6 : Int32) (x7 : Int32) (s0 : Int32) (σ : St) (r : Int32) (σ' : St), f_X6_stepCell_103 x1 x2 x3 x4 x6 x7 s0 σ = some (r, σ') → V g x (qm g x (some (.int r)) σ') 8 σ [(0, .ref (g.1 26)), (1, .int x1), (2, .int x2), (3, .int x3), (4, .int x4), (6, .int x6), (7, .int x7)] [.int s0] 103 := by
  intro x1 x2 x3 x4 x6 x7 s0 σ r σ' h
  unfold f_X6_stepCell_103 at h
  refine v_istore C (lv' := [(5, .int _), (0, .ref _), (1, .int _), (2, .int _), (3, .int _), (4, .int _), (6, .int _), (7, .int _)]) dX6_stepCell_103 (by decide) rfl ?_
  refine v_aload_n C dX6_stepCell_105 rfl 1 rfl ?_
  refine v_iload C dX6_stepCell_106 6 rfl ?_
  refine v_bipush C (v := (9 : Int32)) dX6_stepCell_108 (by decide) ?_
  refine v_iadd C dX6_stepCell_110 ?_
  refine v_iload C dX6_stepCell_111 6 rfl ?_
  refine v_aload_n C dX6_stepCell_113 rfl 1 rfl ?_
  refine v_iload_n C dX6_stepCell_114 rfl 3 rfl ?_
  refine v_iload_n C dX6_stepCell_115 rfl 4 rfl ?_
  refine v_iload C dX6_stepCell_116 5 rfl ?_
  refine v_iconst C (v := (1 : Int32)) dX6_stepCell_118 (by decide) ?_
  obtain ⟨v1, σ2, cσ2, h⟩ := bd_some h
  refine callVi C (c_X6_crossed cσ2) km_X6_crossed kv_X6_crossed rfl ml_RX6_182 rfl rfl (by decide) (Nat.le_of_ble_eq_true rfl) dX6_stepCell_119 ?_
  refine v_aload_n C dX6_stepCell_122 rfl 1 rfl ?_
  refine v_iload_n C dX6_stepCell_123 rfl 2 rfl ?_
  refine v_iload_n C dX6_stepCell_124 rfl 4 rfl ?_
  refine v_iload C dX6_stepCell_125 5 rfl ?_
  refine v_iconst C (v := (1 : Int32)) dX6_stepCell_127 (by decide) ?_
  obtain ⟨v3, σ4, cσ4, h⟩ := bd_some h
  refine callVi C (c_X6_crossed cσ4) km_X6_crossed kv_X6_crossed rfl ml_RX6_182 rfl rfl (by decide) (Nat.le_of_ble_eq_true rfl) dX6_stepCell_128 ?_
  refine v_isub C dX6_stepCell_131 ?_
  obtain ⟨v5, σ6, cσ6, h⟩ := bd_some h
  refine callVi C (c_X6_step cσ6) km_X6_step kv_X6_step rfl ml_RX6_186 rfl rfl (by decide) (Nat.le_of_ble_eq_true rfl) dX6_stepCell_132 ?_
  refine v_if_ne C (tgt := 143) dX6_stepCell_135 (by decide) (fun q8 => ?_) (fun q8 => ?_)
  · rw [if_neg q8] at h
    refine V.sub (lv' := [(0, .ref _), (1, .int _), (2, .int _), (3, .int _), (4, .int _), (6, .int _), (7, .int _)]) [1, 2, 3, 4, 5, 6, 7] rfl ?_
    exact b_X6_stepCell_143 C _ _ _ _ _ _  _ _ _ h
  · rw [if_pos q8] at h
    refine v_iload C dX6_stepCell_138 0 rfl ?_
    refine v_if_eq C (tgt := 147) dX6_stepCell_140 (by decide) (fun q7 => ?_) (fun q7 => ?_)
    · rw [if_pos q7] at h
      refine v_iconst C (v := (0 : Int32)) dX6_stepCell_147 (by decide) ?_
      refine V.sub (lv' := [(0, .ref _), (1, .int _), (2, .int _), (3, .int _), (4, .int _), (6, .int _), (7, .int _)]) [1, 2, 3, 4, 5, 6, 7] rfl ?_
      exact b_X6_stepCell_148 C _ _ _ _ _ _ _  _ _ _ h
    · rw [if_neg q7] at h
      refine V.sub (lv' := [(0, .ref _), (1, .int _), (2, .int _), (3, .int _), (4, .int _), (6, .int _), (7, .int _)]) [1, 2, 3, 4, 5, 6, 7] rfl ?_
      exact b_X6_stepCell_143 C _ _ _ _ _ _  _ _ _ h
def f_X6_stepCell_98 (x1 : Int32) (x2 : Int32) (x3 : Int32) (x4 : Int32) (x6 : Int32) (x7 : Int32) (σ : St) : Option (Int32 × St) :=
  f_X6_stepCell_103 x1 x2 x3 x4 x6 x7 (1 : Int32) σ
set_option maxRecDepth 100000 in
set_option maxHeartbeats 4000000 in
theorem b_X6_stepCell_98 {g : Geo} {x : Cx} (C : Ok g x cX6_stepCell RX6 8 (some .boolean) rm_X6_stepCell) : ∀ (x1 : Int32) (x2 : Int32) (x3 : Int32) (x4 : Int32) (x6 : Int32) (x7 : Int32) (σ : St) (r : Int32) (σ' : St), f_X6_stepCell_98 x1 x2 x3 x4 x6 x7 σ = some (r, σ') → V g x (qm g x (some (.int r)) σ') 8 σ [(0, .ref (g.1 26)), (1, .int x1), (2, .int x2), (3, .int x3), (4, .int x4), (6, .int x6), (7, .int x7)] [] 98 := by
  intro x1 x2 x3 x4 x6 x7 σ r σ' h
  unfold f_X6_stepCell_98 at h
  refine v_iconst C (v := (1 : Int32)) dX6_stepCell_98 (by decide) ?_
  refine v_goto C (tgt := 103) dX6_stepCell_99 (by decide) ?_
  refine V.sub (lv' := [(0, .ref _), (1, .int _), (2, .int _), (3, .int _), (4, .int _), (6, .int _), (7, .int _)]) [0, 1, 2, 3, 4, 5, 6] rfl ?_
  exact b_X6_stepCell_103 C _ _ _ _ _ _ _  _ _ _ h
def f_X6_stepCell (a1 : Int32) (a2 : Int32) (a3 : Int32) (a4 : Int32) (σ : St) : Option (Int32 × St) :=
  bd (f_X6_crossed a2 a3 a4 (0 : Int32) σ) fun v1 σ2 =>
  bd (f_X6_crossed a1 a3 a4 (0 : Int32) σ2) fun v3 σ4 =>
  bd (f_X6_isThere a3 a4 (1 : Int32) σ4) fun v5 σ6 =>
  if v5 = 0 then
    f_X6_stepCell_150 a1 a2 a3 a4 (0 : Int32) (((9 : Int32) * a4) + a3) (v1 - v3) σ6
  else
    bd (f_X6_crossed a2 a3 a4 (2 : Int32) σ6) fun v7 σ8 =>
    bd (f_X6_crossed a1 a3 a4 (2 : Int32) σ8) fun v9 σ10 =>
    bd (f_X6_step (((9 : Int32) * a4) + a3) ((((9 : Int32) * a4) + a3) + (1 : Int32)) (v7 - v9) σ10) fun v11 σ12 =>
    bd (f_X6_step ((((9 : Int32) * a4) + a3) + (1 : Int32)) ((((9 : Int32) * a4) + a3) + (9 : Int32)) (v1 - v3) σ12) fun v13 σ14 =>
    if v13 = 0 then
      if v11 = 0 then
        f_X6_stepCell_103 a1 a2 a3 a4 (((9 : Int32) * a4) + a3) (v1 - v3) (0 : Int32) σ14
      else
        f_X6_stepCell_98 a1 a2 a3 a4 (((9 : Int32) * a4) + a3) (v1 - v3) σ14
    else
      f_X6_stepCell_98 a1 a2 a3 a4 (((9 : Int32) * a4) + a3) (v1 - v3) σ14
set_option maxRecDepth 100000 in
set_option maxHeartbeats 4000000 in
theorem c_X6_stepCell {g : Geo} {a1 : Int32} {a2 : Int32} {a3 : Int32} {a4 : Int32} {σ : St} {r : Int32} {σ' : St} (h : f_X6_stepCell a1 a2 a3 a4 σ = some (r, σ')) : Ct g yX6_stepCell cX6_stepCell 8 (some .boolean) rm_X6_stepCell [.ref (g.1 26), .int a1, .int a2, .int a3, .int a4] σ (some (.int r)) σ' := by
  refine ct_of (own := RX6) (by decide) rfl (Nat.le_of_ble_eq_true rfl) (fun x C => ?_) ⟨rfl, rfl⟩
  show V g x _ 8 σ [(0, .ref (g.1 26)), (1, .int a1), (2, .int a2), (3, .int a3), (4, .int a4)] [] 0
  unfold f_X6_stepCell at h
  refine v_iconst C (v := (0 : Int32)) dX6_stepCell_0 (by decide) ?_
  refine v_istore C (lv' := [(5, .int _), (0, .ref _), (1, .int _), (2, .int _), (3, .int _), (4, .int _)]) dX6_stepCell_1 (by decide) rfl ?_
  refine v_bipush C (v := (9 : Int32)) dX6_stepCell_3 (by decide) ?_
  refine v_iload C dX6_stepCell_5 5 rfl ?_
  refine v_imul C dX6_stepCell_7 ?_
  refine v_iload_n C dX6_stepCell_8 rfl 4 rfl ?_
  refine v_iadd C dX6_stepCell_9 ?_
  refine v_istore C (lv' := [(6, .int _), (5, .int _), (0, .ref _), (1, .int _), (2, .int _), (3, .int _), (4, .int _)]) dX6_stepCell_10 (by decide) rfl ?_
  refine v_aload_n C dX6_stepCell_12 rfl 2 rfl ?_
  refine v_iload_n C dX6_stepCell_13 rfl 4 rfl ?_
  refine v_iload_n C dX6_stepCell_14 rfl 5 rfl ?_
  refine v_iload C dX6_stepCell_15 6 rfl ?_
  refine v_iconst C (v := (0 : Int32)) dX6_stepCell_17 (by decide) ?_
  obtain ⟨v1, σ2, cσ2, h⟩ := bd_some h
  refine callVi C (c_X6_crossed cσ2) km_X6_crossed kv_X6_crossed rfl ml_RX6_182 rfl rfl (by decide) (Nat.le_of_ble_eq_true rfl) dX6_stepCell_18 ?_
  refine v_aload_n C dX6_stepCell_21 rfl 2 rfl ?_
  refine v_iload_n C dX6_stepCell_22 rfl 3 rfl ?_
  refine v_iload_n C dX6_stepCell_23 rfl 5 rfl ?_
  refine v_iload C dX6_stepCell_24 6 rfl ?_
  refine v_iconst C (v := (0 : Int32)) dX6_stepCell_26 (by decide) ?_
  obtain ⟨v3, σ4, cσ4, h⟩ := bd_some h
  refine callVi C (c_X6_crossed cσ4) km_X6_crossed kv_X6_crossed rfl ml_RX6_182 rfl rfl (by decide) (Nat.le_of_ble_eq_true rfl) dX6_stepCell_27 ?_
  refine v_isub C dX6_stepCell_30 ?_
  refine v_istore C (lv' := [(7, .int _), (6, .int _), (5, .int _), (0, .ref _), (1, .int _), (2, .int _), (3, .int _), (4, .int _)]) dX6_stepCell_31 (by decide) rfl ?_
  refine v_aload_n C dX6_stepCell_33 rfl 3 rfl ?_
  refine v_iload_n C dX6_stepCell_34 rfl 6 rfl ?_
  refine v_iload C dX6_stepCell_35 7 rfl ?_
  refine v_iconst C (v := (1 : Int32)) dX6_stepCell_37 (by decide) ?_
  obtain ⟨v5, σ6, cσ6, h⟩ := bd_some h
  refine callVi C (c_X6_isThere cσ6) km_X6_isThere kv_X6_isThere rfl ml_RX6_164 rfl rfl (by decide) (Nat.le_of_ble_eq_true rfl) dX6_stepCell_38 ?_
  refine v_if_eq C (tgt := 150) dX6_stepCell_41 (by decide) (fun q17 => ?_) (fun q17 => ?_)
  · rw [if_pos q17] at h
    refine V.sub (lv' := [(0, .ref _), (1, .int _), (2, .int _), (3, .int _), (4, .int _), (5, .int _), (6, .int _), (7, .int _)]) [3, 4, 5, 6, 7, 2, 1, 0] rfl ?_
    exact b_X6_stepCell_150 C _ _ _ _ _ _ _  _ _ _ h
  · rw [if_neg q17] at h
    refine v_aload_n C dX6_stepCell_44 rfl 3 rfl ?_
    refine v_iload C dX6_stepCell_45 1 rfl ?_
    refine v_iload C dX6_stepCell_47 1 rfl ?_
    refine v_iconst C (v := (1 : Int32)) dX6_stepCell_49 (by decide) ?_
    refine v_iadd C dX6_stepCell_50 ?_
    refine v_aload_n C dX6_stepCell_51 rfl 3 rfl ?_
    refine v_iload_n C dX6_stepCell_52 rfl 5 rfl ?_
    refine v_iload_n C dX6_stepCell_53 rfl 6 rfl ?_
    refine v_iload C dX6_stepCell_54 7 rfl ?_
    refine v_iconst C (v := (2 : Int32)) dX6_stepCell_56 (by decide) ?_
    obtain ⟨v7, σ8, cσ8, h⟩ := bd_some h
    refine callVi C (c_X6_crossed cσ8) km_X6_crossed kv_X6_crossed rfl ml_RX6_182 rfl rfl (by decide) (Nat.le_of_ble_eq_true rfl) dX6_stepCell_57 ?_
    refine v_aload_n C dX6_stepCell_60 rfl 3 rfl ?_
    refine v_iload_n C dX6_stepCell_61 rfl 4 rfl ?_
    refine v_iload_n C dX6_stepCell_62 rfl 6 rfl ?_
    refine v_iload C dX6_stepCell_63 7 rfl ?_
    refine v_iconst C (v := (2 : Int32)) dX6_stepCell_65 (by decide) ?_
    obtain ⟨v9, σ10, cσ10, h⟩ := bd_some h
    refine callVi C (c_X6_crossed cσ10) km_X6_crossed kv_X6_crossed rfl ml_RX6_182 rfl rfl (by decide) (Nat.le_of_ble_eq_true rfl) dX6_stepCell_66 ?_
    refine v_isub C dX6_stepCell_69 ?_
    obtain ⟨v11, σ12, cσ12, h⟩ := bd_some h
    refine callVi C (c_X6_step cσ12) km_X6_step kv_X6_step rfl ml_RX6_186 rfl rfl (by decide) (Nat.le_of_ble_eq_true rfl) dX6_stepCell_70 ?_
    refine v_istore C (lv' := [(5, .int _), (7, .int _), (6, .int _), (0, .ref _), (1, .int _), (2, .int _), (3, .int _), (4, .int _)]) dX6_stepCell_73 (by decide) rfl ?_
    refine v_aload_n C dX6_stepCell_75 rfl 3 rfl ?_
    refine v_iload C dX6_stepCell_76 2 rfl ?_
    refine v_iconst C (v := (1 : Int32)) dX6_stepCell_78 (by decide) ?_
    refine v_iadd C dX6_stepCell_79 ?_
    refine v_iload C dX6_stepCell_80 2 rfl ?_
    refine v_bipush C (v := (9 : Int32)) dX6_stepCell_82 (by decide) ?_
    refine v_iadd C dX6_stepCell_84 ?_
    refine v_iload C dX6_stepCell_85 1 rfl ?_
    obtain ⟨v13, σ14, cσ14, h⟩ := bd_some h
    refine callVi C (c_X6_step cσ14) km_X6_step kv_X6_step rfl ml_RX6_186 rfl rfl (by decide) (Nat.le_of_ble_eq_true rfl) dX6_stepCell_87 ?_
    refine v_if_ne C (tgt := 98) dX6_stepCell_90 (by decide) (fun q16 => ?_) (fun q16 => ?_)
    · rw [if_neg q16] at h
      refine V.sub (lv' := [(0, .ref _), (1, .int _), (2, .int _), (3, .int _), (4, .int _), (6, .int _), (7, .int _)]) [3, 4, 5, 6, 7, 2, 1] rfl ?_
      exact b_X6_stepCell_98 C _ _ _ _ _ _  _ _ _ h
    · rw [if_pos q16] at h
      refine v_iload C dX6_stepCell_93 0 rfl ?_
      refine v_if_eq C (tgt := 102) dX6_stepCell_95 (by decide) (fun q15 => ?_) (fun q15 => ?_)
      · rw [if_pos q15] at h
        refine v_iconst C (v := (0 : Int32)) dX6_stepCell_102 (by decide) ?_
        refine V.sub (lv' := [(0, .ref _), (1, .int _), (2, .int _), (3, .int _), (4, .int _), (6, .int _), (7, .int _)]) [3, 4, 5, 6, 7, 2, 1] rfl ?_
        exact b_X6_stepCell_103 C _ _ _ _ _ _ _  _ _ _ h
      · rw [if_neg q15] at h
        refine V.sub (lv' := [(0, .ref _), (1, .int _), (2, .int _), (3, .int _), (4, .int _), (6, .int _), (7, .int _)]) [3, 4, 5, 6, 7, 2, 1] rfl ?_
        exact b_X6_stepCell_98 C _ _ _ _ _ _  _ _ _ h
