/-! ===== printed: X6_spread, X6_apart, X6_end, X6_packed, X6_unpack, X6_meet, X6_meetAll, X6_reach ===== -/
theorem dX6_spread_0 : decode cX6_spread 0 = .ok (.iconst 1, 1) := by decide +kernel
theorem dX6_spread_1 : decode cX6_spread 1 = .ok (.istore_n 3, 1) := by decide +kernel
theorem dX6_spread_2 : decode cX6_spread 2 = .ok (.iload_n 3, 1) := by decide +kernel
theorem dX6_spread_3 : decode cX6_spread 3 = .ok (.ifCond .eq 51, 3) := by decide +kernel
theorem dX6_spread_6 : decode cX6_spread 6 = .ok (.iconst 0, 1) := by decide +kernel
theorem dX6_spread_7 : decode cX6_spread 7 = .ok (.istore_n 3, 1) := by decide +kernel
theorem dX6_spread_8 : decode cX6_spread 8 = .ok (.iconst 0, 1) := by decide +kernel
theorem dX6_spread_9 : decode cX6_spread 9 = .ok (.istore 4, 2) := by decide +kernel
theorem dX6_spread_11 : decode cX6_spread 11 = .ok (.iload 4, 2) := by decide +kernel
theorem dX6_spread_13 : decode cX6_spread 13 = .ok (.aload_n 0, 1) := by decide +kernel
theorem dX6_spread_14 : decode cX6_spread 14 = .ok (.invokevirtual 80, 3) := by decide +kernel
theorem dX6_spread_17 : decode cX6_spread 17 = .ok (.if_icmp .ge 34, 3) := by decide +kernel
theorem dX6_spread_20 : decode cX6_spread 20 = .ok (.aload_n 0, 1) := by decide +kernel
theorem dX6_spread_21 : decode cX6_spread 21 = .ok (.iload_n 1, 1) := by decide +kernel
theorem dX6_spread_22 : decode cX6_spread 22 = .ok (.iload_n 2, 1) := by decide +kernel
theorem dX6_spread_23 : decode cX6_spread 23 = .ok (.iload 4, 2) := by decide +kernel
theorem dX6_spread_25 : decode cX6_spread 25 = .ok (.aload_n 0, 1) := by decide +kernel
theorem dX6_spread_26 : decode cX6_spread 26 = .ok (.getfield 70, 3) := by decide +kernel
theorem dX6_spread_29 : decode cX6_spread 29 = .ok (.irem, 1) := by decide +kernel
theorem dX6_spread_30 : decode cX6_spread 30 = .ok (.iload 4, 2) := by decide +kernel
theorem dX6_spread_32 : decode cX6_spread 32 = .ok (.aload_n 0, 1) := by decide +kernel
theorem dX6_spread_33 : decode cX6_spread 33 = .ok (.getfield 70, 3) := by decide +kernel
theorem dX6_spread_36 : decode cX6_spread 36 = .ok (.idiv, 1) := by decide +kernel
theorem dX6_spread_37 : decode cX6_spread 37 = .ok (.invokevirtual 189, 3) := by decide +kernel
theorem dX6_spread_40 : decode cX6_spread 40 = .ok (.ifCond .eq 5, 3) := by decide +kernel
theorem dX6_spread_43 : decode cX6_spread 43 = .ok (.iconst 1, 1) := by decide +kernel
theorem dX6_spread_44 : decode cX6_spread 44 = .ok (.istore_n 3, 1) := by decide +kernel
theorem dX6_spread_45 : decode cX6_spread 45 = .ok (.iinc 4 1, 3) := by decide +kernel
theorem dX6_spread_48 : decode cX6_spread 48 = .ok (.goto (-37), 3) := by decide +kernel
theorem dX6_spread_51 : decode cX6_spread 51 = .ok (.goto (-49), 3) := by decide +kernel
theorem dX6_spread_54 : decode cX6_spread 54 = .ok (.return_, 1) := by decide +kernel
def f_X6_spread_45 (k11 : Int32 → Int32 → Int32 → Int32 → St → Option (Unit × St)) (x1 : Int32) (x2 : Int32) (x3 : Int32) (x4 : Int32) (σ : St) : Option (Unit × St) :=
  k11 x1 x2 x3 (x4 + 1) σ
set_option maxRecDepth 100000 in
set_option maxHeartbeats 4000000 in
theorem b_X6_spread_45 {g : Geo} {x : Cx} (C : Ok g x cX6_spread RX6 5 none rm_X6_spread) (k11 : Int32 → Int32 → Int32 → Int32 → St → Option (Unit × St)) (hk11 : ∀ (x1 : Int32) (x2 : Int32) (x3 : Int32) (x4 : Int32) (τ : St) (r : Unit) (τ' : St), k11 x1 x2 x3 x4 τ = some (r, τ') → V g x (qm g x none τ') 5 τ [(0, .ref (g.1 26)), (1, .int x1), (2, .int x2), (3, .int x3), (4, .int x4)] [] 11) : ∀ (x1 : Int32) (x2 : Int32) (x3 : Int32) (x4 : Int32) (σ : St) (r : Unit) (σ' : St), f_X6_spread_45 k11 x1 x2 x3 x4 σ = some (r, σ') → V g x (qm g x none σ') 5 σ [(0, .ref (g.1 26)), (1, .int x1), (2, .int x2), (3, .int x3), (4, .int x4)] [] 45 := by
  intro x1 x2 x3 x4 σ r σ' h
  unfold f_X6_spread_45 at h
  refine v_iinc C (v := (x4 + 1)) (lv' := [(4, .int _), (0, .ref _), (1, .int _), (2, .int _), (3, .int _)]) dX6_spread_45 4 rfl rfl (by decide) rfl ?_
  refine v_goto C (tgt := 11) dX6_spread_48 (by decide) ?_
  refine V.sub (lv' := [(0, .ref _), (1, .int _), (2, .int _), (3, .int _), (4, .int _)]) [1, 2, 3, 4, 0] rfl ?_
  exact hk11 _ _ _ _  _ _ _ h
def f_X6_spread_11 (k2 : Int32 → Int32 → Int32 → St → Option (Unit × St)) : Nat → Int32 → Int32 → Int32 → Int32 → St → Option (Unit × St)
  | 0, _, _, _, _, _ => none
  | n + 1, x1, x2, x3, x4, σ =>
    bd (f_X6_cells σ) fun v1 σ2 =>
    if v1 ≤ x4 then
      k2 x1 x2 x3 σ2
    else
      rmI x4 (gi σ2 26 0) fun v3 =>
      dvI x4 (gi σ2 26 0) fun v4 =>
      bd (f_X6_stepCell x1 x2 v3 v4 σ2) fun v5 σ6 =>
      if v5 = 0 then
        f_X6_spread_45 (f_X6_spread_11 k2 n) x1 x2 x3 x4 σ6
      else
        f_X6_spread_45 (f_X6_spread_11 k2 n) x1 x2 (1 : Int32) x4 σ6
set_option maxRecDepth 100000 in
set_option maxHeartbeats 4000000 in
theorem b_X6_spread_11 {g : Geo} {x : Cx} (C : Ok g x cX6_spread RX6 5 none rm_X6_spread) (k2 : Int32 → Int32 → Int32 → St → Option (Unit × St)) (hk2 : ∀ (x1 : Int32) (x2 : Int32) (x3 : Int32) (τ : St) (r : Unit) (τ' : St), k2 x1 x2 x3 τ = some (r, τ') → V g x (qm g x none τ') 5 τ [(0, .ref (g.1 26)), (1, .int x1), (2, .int x2), (3, .int x3)] [] 2) : ∀ (n : Nat) (x1 : Int32) (x2 : Int32) (x3 : Int32) (x4 : Int32) (σ : St) (r : Unit) (σ' : St), f_X6_spread_11 k2 n x1 x2 x3 x4 σ = some (r, σ') → V g x (qm g x none σ') 5 σ [(0, .ref (g.1 26)), (1, .int x1), (2, .int x2), (3, .int x3), (4, .int x4)] [] 11 := by
  intro n
  induction n with
  | zero =>
    intro x1 x2 x3 x4 σ r σ' h
    rw [f_X6_spread_11] at h
    cases h
  | succ n ih =>
    intro x1 x2 x3 x4 σ r σ' h
    rw [f_X6_spread_11] at h
    refine v_iload C dX6_spread_11 4 rfl ?_
    refine v_aload_n C dX6_spread_13 rfl 0 rfl ?_
    obtain ⟨v1, σ2, cσ2, h⟩ := bd_some h
    refine callVi C (c_X6_cells cσ2) km_X6_cells kv_X6_cells rfl ml_RX6_80 rfl rfl (by decide) (Nat.le_of_ble_eq_true rfl) dX6_spread_14 ?_
    refine v_icmp_ge C (tgt := 51) dX6_spread_17 (by decide) (fun q8 => ?_) (fun q8 => ?_)
    · rw [if_pos q8] at h
      refine v_goto C (tgt := 2) dX6_spread_51 (by decide) ?_
      refine V.sub (lv' := [(0, .ref _), (1, .int _), (2, .int _), (3, .int _)]) [0, 1, 2, 3] rfl ?_
      exact hk2 _ _ _  _ _ _ h
    · rw [if_neg q8] at h
      refine v_aload_n C dX6_spread_20 rfl 0 rfl ?_
      refine v_iload_n C dX6_spread_21 rfl 1 rfl ?_
      refine v_iload_n C dX6_spread_22 rfl 2 rfl ?_
      refine v_iload C dX6_spread_23 4 rfl ?_
      refine v_aload_n C dX6_spread_25 rfl 0 rfl ?_
      refine v_getI C fl_RX6_70 rfl dX6_spread_26 ?_
      obtain ⟨nv3, v3, ev3, h⟩ := rmI_ex h
      refine x_irem C nv3 ev3 dX6_spread_29 ?_
      refine v_iload C dX6_spread_30 4 rfl ?_
      refine v_aload_n C dX6_spread_32 rfl 0 rfl ?_
      refine v_getI C fl_RX6_70 rfl dX6_spread_33 ?_
      obtain ⟨nv4, v4, ev4, h⟩ := dvI_ex h
      refine x_idiv C nv4 ev4 dX6_spread_36 ?_
      obtain ⟨v5, σ6, cσ6, h⟩ := bd_some h
      refine callVi C (c_X6_stepCell cσ6) km_X6_stepCell kv_X6_stepCell rfl ml_RX6_189 rfl rfl (by decide) (Nat.le_of_ble_eq_true rfl) dX6_spread_37 ?_
      refine v_if_eq C (tgt := 45) dX6_spread_40 (by decide) (fun q7 => ?_) (fun q7 => ?_)
      · rw [if_pos q7] at h
        refine V.sub (lv' := [(0, .ref _), (1, .int _), (2, .int _), (3, .int _), (4, .int _)]) [0, 1, 2, 3, 4] rfl ?_
        exact b_X6_spread_45 C _ ih _ _ _ _  _ _ _ h
      · rw [if_neg q7] at h
        refine v_iconst C (v := (1 : Int32)) dX6_spread_43 (by decide) ?_
        refine v_istore_n C (lv' := [(3, .int _), (0, .ref _), (1, .int _), (2, .int _), (4, .int _)]) dX6_spread_44 rfl (by decide) rfl ?_
        refine V.sub (lv' := [(0, .ref _), (1, .int _), (2, .int _), (3, .int _), (4, .int _)]) [1, 2, 3, 0, 4] rfl ?_
        exact b_X6_spread_45 C _ ih _ _ _ _  _ _ _ h
def f_X6_spread_2 : Nat → Int32 → Int32 → Int32 → St → Option (Unit × St)
  | 0, _, _, _, _ => none
  | n + 1, x1, x2, x3, σ =>
    if x3 = 0 then
      some ((), σ)
    else
      f_X6_spread_11 (f_X6_spread_2 n) FU x1 x2 (0 : Int32) (0 : Int32) σ
set_option maxRecDepth 100000 in
set_option maxHeartbeats 4000000 in
theorem b_X6_spread_2 {g : Geo} {x : Cx} (C : Ok g x cX6_spread RX6 5 none rm_X6_spread) : ∀ (n : Nat) (x1 : Int32) (x2 : Int32) (x3 : Int32) (σ : St) (r : Unit) (σ' : St), f_X6_spread_2 n x1 x2 x3 σ = some (r, σ') → V g x (qm g x none σ') 5 σ [(0, .ref (g.1 26)), (1, .int x1), (2, .int x2), (3, .int x3)] [] 2 := by
  intro n
  induction n with
  | zero =>
    intro x1 x2 x3 σ r σ' h
    rw [f_X6_spread_2] at h
    cases h
  | succ n ih =>
    intro x1 x2 x3 σ r σ' h
    rw [f_X6_spread_2] at h
    refine v_iload_n C dX6_spread_2 rfl 3 rfl ?_
    refine v_if_eq C (tgt := 54) dX6_spread_3 (by decide) (fun q1 => ?_) (fun q1 => ?_)
    · rw [if_pos q1] at h
      cases h
      exact v_vret C dX6_spread_54
    · rw [if_neg q1] at h
      refine v_iconst C (v := (0 : Int32)) dX6_spread_6 (by decide) ?_
      refine v_istore_n C (lv' := [(3, .int _), (0, .ref _), (1, .int _), (2, .int _)]) dX6_spread_7 rfl (by decide) rfl ?_
      refine v_iconst C (v := (0 : Int32)) dX6_spread_8 (by decide) ?_
      refine v_istore C (lv' := [(4, .int _), (3, .int _), (0, .ref _), (1, .int _), (2, .int _)]) dX6_spread_9 (by decide) rfl ?_
      refine V.sub (lv' := [(0, .ref _), (1, .int _), (2, .int _), (3, .int _), (4, .int _)]) [2, 3, 4, 1, 0] rfl ?_
      exact b_X6_spread_11 C _ ih FU _ _ _ _  _ _ _ h
def f_X6_spread (a1 : Int32) (a2 : Int32) (σ : St) : Option (Unit × St) :=
  f_X6_spread_2 FU a1 a2 (1 : Int32) σ
set_option maxRecDepth 100000 in
set_option maxHeartbeats 4000000 in
theorem c_X6_spread {g : Geo} {a1 : Int32} {a2 : Int32} {σ : St} {r : Unit} {σ' : St} (h : f_X6_spread a1 a2 σ = some (r, σ')) : Ct g yX6_spread cX6_spread 5 none rm_X6_spread [.ref (g.1 26), .int a1, .int a2] σ none σ' := by
  refine ct_of (own := RX6) (by decide) rfl (Nat.le_of_ble_eq_true rfl) (fun x C => ?_) ⟨rfl, rfl⟩
  show V g x _ 5 σ [(0, .ref (g.1 26)), (1, .int a1), (2, .int a2)] [] 0
  unfold f_X6_spread at h
  refine v_iconst C (v := (1 : Int32)) dX6_spread_0 (by decide) ?_
  refine v_istore_n C (lv' := [(3, .int _), (0, .ref _), (1, .int _), (2, .int _)]) dX6_spread_1 rfl (by decide) rfl ?_
  refine V.sub (lv' := [(0, .ref _), (1, .int _), (2, .int _), (3, .int _)]) [1, 2, 3, 0] rfl ?_
  exact b_X6_spread_2 C FU _ _ _  _ _ _ h
theorem dX6_apart_0 : decode cX6_apart 0 = .ok (.iload_n 1, 1) := by decide +kernel
theorem dX6_apart_1 : decode cX6_apart 1 = .ok (.invokestatic 155, 3) := by decide +kernel
theorem dX6_apart_4 : decode cX6_apart 4 = .ok (.ifCond .eq 10, 3) := by decide +kernel
theorem dX6_apart_7 : decode cX6_apart 7 = .ok (.iload_n 2, 1) := by decide +kernel
theorem dX6_apart_8 : decode cX6_apart 8 = .ok (.invokestatic 155, 3) := by decide +kernel
theorem dX6_apart_11 : decode cX6_apart 11 = .ok (.ifCond .ne 6, 3) := by decide +kernel
theorem dX6_apart_14 : decode cX6_apart 14 = .ok (.ldc 97, 2) := by decide +kernel
theorem dX6_apart_16 : decode cX6_apart 16 = .ok (.ireturn, 1) := by decide +kernel
theorem dX6_apart_17 : decode cX6_apart 17 = .ok (.aload_n 0, 1) := by decide +kernel
theorem dX6_apart_18 : decode cX6_apart 18 = .ok (.getfield 17, 3) := by decide +kernel
theorem dX6_apart_21 : decode cX6_apart 21 = .ok (.iload_n 1, 1) := by decide +kernel
theorem dX6_apart_22 : decode cX6_apart 22 = .ok (.baload, 1) := by decide +kernel
theorem dX6_apart_23 : decode cX6_apart 23 = .ok (.ifCond .eq 12, 3) := by decide +kernel
theorem dX6_apart_26 : decode cX6_apart 26 = .ok (.aload_n 0, 1) := by decide +kernel
theorem dX6_apart_27 : decode cX6_apart 27 = .ok (.getfield 17, 3) := by decide +kernel
theorem dX6_apart_30 : decode cX6_apart 30 = .ok (.iload_n 2, 1) := by decide +kernel
theorem dX6_apart_31 : decode cX6_apart 31 = .ok (.baload, 1) := by decide +kernel
theorem dX6_apart_32 : decode cX6_apart 32 = .ok (.ifCond .ne 6, 3) := by decide +kernel
theorem dX6_apart_35 : decode cX6_apart 35 = .ok (.ldc 158, 2) := by decide +kernel
theorem dX6_apart_37 : decode cX6_apart 37 = .ok (.ireturn, 1) := by decide +kernel
theorem dX6_apart_38 : decode cX6_apart 38 = .ok (.iconst 0, 1) := by decide +kernel
theorem dX6_apart_39 : decode cX6_apart 39 = .ok (.istore_n 3, 1) := by decide +kernel
theorem dX6_apart_40 : decode cX6_apart 40 = .ok (.iload_n 3, 1) := by decide +kernel
theorem dX6_apart_41 : decode cX6_apart 41 = .ok (.bipush 81, 2) := by decide +kernel
theorem dX6_apart_43 : decode cX6_apart 43 = .ok (.if_icmp .ge 16, 3) := by decide +kernel
theorem dX6_apart_46 : decode cX6_apart 46 = .ok (.aload_n 0, 1) := by decide +kernel
theorem dX6_apart_47 : decode cX6_apart 47 = .ok (.getfield 36, 3) := by decide +kernel
theorem dX6_apart_50 : decode cX6_apart 50 = .ok (.iload_n 3, 1) := by decide +kernel
theorem dX6_apart_51 : decode cX6_apart 51 = .ok (.iconst 0, 1) := by decide +kernel
theorem dX6_apart_52 : decode cX6_apart 52 = .ok (.bastore, 1) := by decide +kernel
theorem dX6_apart_53 : decode cX6_apart 53 = .ok (.iinc 3 1, 3) := by decide +kernel
theorem dX6_apart_56 : decode cX6_apart 56 = .ok (.goto (-16), 3) := by decide +kernel
theorem dX6_apart_59 : decode cX6_apart 59 = .ok (.iconst 0, 1) := by decide +kernel
theorem dX6_apart_60 : decode cX6_apart 60 = .ok (.istore_n 3, 1) := by decide +kernel
theorem dX6_apart_61 : decode cX6_apart 61 = .ok (.iconst 1, 1) := by decide +kernel
theorem dX6_apart_62 : decode cX6_apart 62 = .ok (.istore 4, 2) := by decide +kernel
theorem dX6_apart_64 : decode cX6_apart 64 = .ok (.iconst 0, 1) := by decide +kernel
theorem dX6_apart_65 : decode cX6_apart 65 = .ok (.istore 5, 2) := by decide +kernel
theorem dX6_apart_67 : decode cX6_apart 67 = .ok (.iload 5, 2) := by decide +kernel
theorem dX6_apart_69 : decode cX6_apart 69 = .ok (.bipush 81, 2) := by decide +kernel
theorem dX6_apart_71 : decode cX6_apart 71 = .ok (.if_icmp .ge 109, 3) := by decide +kernel
theorem dX6_apart_74 : decode cX6_apart 74 = .ok (.iload 5, 2) := by decide +kernel
theorem dX6_apart_76 : decode cX6_apart 76 = .ok (.bipush 9, 2) := by decide +kernel
theorem dX6_apart_78 : decode cX6_apart 78 = .ok (.irem, 1) := by decide +kernel
theorem dX6_apart_79 : decode cX6_apart 79 = .ok (.istore 6, 2) := by decide +kernel
theorem dX6_apart_81 : decode cX6_apart 81 = .ok (.iload 5, 2) := by decide +kernel
theorem dX6_apart_83 : decode cX6_apart 83 = .ok (.bipush 9, 2) := by decide +kernel
theorem dX6_apart_85 : decode cX6_apart 85 = .ok (.idiv, 1) := by decide +kernel
theorem dX6_apart_86 : decode cX6_apart 86 = .ok (.istore 7, 2) := by decide +kernel
theorem dX6_apart_88 : decode cX6_apart 88 = .ok (.aload_n 0, 1) := by decide +kernel
theorem dX6_apart_89 : decode cX6_apart 89 = .ok (.iload 6, 2) := by decide +kernel
theorem dX6_apart_91 : decode cX6_apart 91 = .ok (.iload 7, 2) := by decide +kernel
theorem dX6_apart_93 : decode cX6_apart 93 = .ok (.invokevirtual 172, 3) := by decide +kernel
theorem dX6_apart_96 : decode cX6_apart 96 = .ok (.ifCond .eq 78, 3) := by decide +kernel
theorem dX6_apart_99 : decode cX6_apart 99 = .ok (.aload_n 0, 1) := by decide +kernel
theorem dX6_apart_100 : decode cX6_apart 100 = .ok (.iload 6, 2) := by decide +kernel
theorem dX6_apart_102 : decode cX6_apart 102 = .ok (.iload 7, 2) := by decide +kernel
theorem dX6_apart_104 : decode cX6_apart 104 = .ok (.invokevirtual 168, 3) := by decide +kernel
theorem dX6_apart_107 : decode cX6_apart 107 = .ok (.ifCond .ne 67, 3) := by decide +kernel
theorem dX6_apart_110 : decode cX6_apart 110 = .ok (.iload 4, 2) := by decide +kernel
theorem dX6_apart_112 : decode cX6_apart 112 = .ok (.ifCond .eq 27, 3) := by decide +kernel
theorem dX6_apart_115 : decode cX6_apart 115 = .ok (.aload_n 0, 1) := by decide +kernel
theorem dX6_apart_116 : decode cX6_apart 116 = .ok (.getfield 36, 3) := by decide +kernel
theorem dX6_apart_119 : decode cX6_apart 119 = .ok (.iload 5, 2) := by decide +kernel
theorem dX6_apart_121 : decode cX6_apart 121 = .ok (.baload, 1) := by decide +kernel
theorem dX6_apart_122 : decode cX6_apart 122 = .ok (.ifCond .eq 13, 3) := by decide +kernel
theorem dX6_apart_125 : decode cX6_apart 125 = .ok (.aload_n 0, 1) := by decide +kernel
theorem dX6_apart_126 : decode cX6_apart 126 = .ok (.getfield 33, 3) := by decide +kernel
theorem dX6_apart_129 : decode cX6_apart 129 = .ok (.iload 5, 2) := by decide +kernel
theorem dX6_apart_131 : decode cX6_apart 131 = .ok (.iaload, 1) := by decide +kernel
theorem dX6_apart_132 : decode cX6_apart 132 = .ok (.ifCond .ne 7, 3) := by decide +kernel
theorem dX6_apart_135 : decode cX6_apart 135 = .ok (.iconst 1, 1) := by decide +kernel
theorem dX6_apart_136 : decode cX6_apart 136 = .ok (.goto 4, 3) := by decide +kernel
theorem dX6_apart_139 : decode cX6_apart 139 = .ok (.iconst 0, 1) := by decide +kernel
theorem dX6_apart_140 : decode cX6_apart 140 = .ok (.istore 4, 2) := by decide +kernel
theorem dX6_apart_142 : decode cX6_apart 142 = .ok (.aload_n 0, 1) := by decide +kernel
theorem dX6_apart_143 : decode cX6_apart 143 = .ok (.getfield 36, 3) := by decide +kernel
theorem dX6_apart_146 : decode cX6_apart 146 = .ok (.iload 5, 2) := by decide +kernel
theorem dX6_apart_148 : decode cX6_apart 148 = .ok (.baload, 1) := by decide +kernel
theorem dX6_apart_149 : decode cX6_apart 149 = .ok (.ifCond .ne 25, 3) := by decide +kernel
theorem dX6_apart_152 : decode cX6_apart 152 = .ok (.aload_n 0, 1) := by decide +kernel
theorem dX6_apart_153 : decode cX6_apart 153 = .ok (.getfield 36, 3) := by decide +kernel
theorem dX6_apart_156 : decode cX6_apart 156 = .ok (.iload 5, 2) := by decide +kernel
theorem dX6_apart_158 : decode cX6_apart 158 = .ok (.iconst 1, 1) := by decide +kernel
theorem dX6_apart_159 : decode cX6_apart 159 = .ok (.bastore, 1) := by decide +kernel
theorem dX6_apart_160 : decode cX6_apart 160 = .ok (.aload_n 0, 1) := by decide +kernel
theorem dX6_apart_161 : decode cX6_apart 161 = .ok (.getfield 33, 3) := by decide +kernel
theorem dX6_apart_164 : decode cX6_apart 164 = .ok (.iload 5, 2) := by decide +kernel
theorem dX6_apart_166 : decode cX6_apart 166 = .ok (.iconst 0, 1) := by decide +kernel
theorem dX6_apart_167 : decode cX6_apart 167 = .ok (.iastore, 1) := by decide +kernel
theorem dX6_apart_168 : decode cX6_apart 168 = .ok (.aload_n 0, 1) := by decide +kernel
theorem dX6_apart_169 : decode cX6_apart 169 = .ok (.iload_n 1, 1) := by decide +kernel
theorem dX6_apart_170 : decode cX6_apart 170 = .ok (.iload_n 2, 1) := by decide +kernel
theorem dX6_apart_171 : decode cX6_apart 171 = .ok (.invokevirtual 193, 3) := by decide +kernel
theorem dX6_apart_174 : decode cX6_apart 174 = .ok (.iinc 5 1, 3) := by decide +kernel
theorem dX6_apart_177 : decode cX6_apart 177 = .ok (.goto (-110), 3) := by decide +kernel
theorem dX6_apart_180 : decode cX6_apart 180 = .ok (.iconst 0, 1) := by decide +kernel
theorem dX6_apart_181 : decode cX6_apart 181 = .ok (.istore 5, 2) := by decide +kernel
theorem dX6_apart_183 : decode cX6_apart 183 = .ok (.iload 5, 2) := by decide +kernel
theorem dX6_apart_185 : decode cX6_apart 185 = .ok (.bipush 81, 2) := by decide +kernel
theorem dX6_apart_187 : decode cX6_apart 187 = .ok (.if_icmp .ge 76, 3) := by decide +kernel
theorem dX6_apart_190 : decode cX6_apart 190 = .ok (.iload 5, 2) := by decide +kernel
theorem dX6_apart_192 : decode cX6_apart 192 = .ok (.bipush 9, 2) := by decide +kernel
theorem dX6_apart_194 : decode cX6_apart 194 = .ok (.irem, 1) := by decide +kernel
theorem dX6_apart_195 : decode cX6_apart 195 = .ok (.istore 6, 2) := by decide +kernel
theorem dX6_apart_197 : decode cX6_apart 197 = .ok (.iload 5, 2) := by decide +kernel
theorem dX6_apart_199 : decode cX6_apart 199 = .ok (.bipush 9, 2) := by decide +kernel
theorem dX6_apart_201 : decode cX6_apart 201 = .ok (.idiv, 1) := by decide +kernel
theorem dX6_apart_202 : decode cX6_apart 202 = .ok (.istore 7, 2) := by decide +kernel
theorem dX6_apart_204 : decode cX6_apart 204 = .ok (.aload_n 0, 1) := by decide +kernel
theorem dX6_apart_205 : decode cX6_apart 205 = .ok (.iload 6, 2) := by decide +kernel
theorem dX6_apart_207 : decode cX6_apart 207 = .ok (.iload 7, 2) := by decide +kernel
theorem dX6_apart_209 : decode cX6_apart 209 = .ok (.invokevirtual 172, 3) := by decide +kernel
theorem dX6_apart_212 : decode cX6_apart 212 = .ok (.ifCond .eq 45, 3) := by decide +kernel
theorem dX6_apart_215 : decode cX6_apart 215 = .ok (.aload_n 0, 1) := by decide +kernel
theorem dX6_apart_216 : decode cX6_apart 216 = .ok (.iload 6, 2) := by decide +kernel
theorem dX6_apart_218 : decode cX6_apart 218 = .ok (.iload 7, 2) := by decide +kernel
theorem dX6_apart_220 : decode cX6_apart 220 = .ok (.invokevirtual 168, 3) := by decide +kernel
theorem dX6_apart_223 : decode cX6_apart 223 = .ok (.ifCond .eq 34, 3) := by decide +kernel
theorem dX6_apart_226 : decode cX6_apart 226 = .ok (.iload_n 3, 1) := by decide +kernel
theorem dX6_apart_227 : decode cX6_apart 227 = .ok (.aload_n 0, 1) := by decide +kernel
theorem dX6_apart_228 : decode cX6_apart 228 = .ok (.getfield 33, 3) := by decide +kernel
theorem dX6_apart_231 : decode cX6_apart 231 = .ok (.iload 5, 2) := by decide +kernel
theorem dX6_apart_233 : decode cX6_apart 233 = .ok (.iaload, 1) := by decide +kernel
theorem dX6_apart_234 : decode cX6_apart 234 = .ok (.ifCond .ge 14, 3) := by decide +kernel
theorem dX6_apart_237 : decode cX6_apart 237 = .ok (.aload_n 0, 1) := by decide +kernel
theorem dX6_apart_238 : decode cX6_apart 238 = .ok (.getfield 33, 3) := by decide +kernel
theorem dX6_apart_241 : decode cX6_apart 241 = .ok (.iload 5, 2) := by decide +kernel
theorem dX6_apart_243 : decode cX6_apart 243 = .ok (.iaload, 1) := by decide +kernel
theorem dX6_apart_244 : decode cX6_apart 244 = .ok (.ineg, 1) := by decide +kernel
theorem dX6_apart_245 : decode cX6_apart 245 = .ok (.goto 10, 3) := by decide +kernel
theorem dX6_apart_248 : decode cX6_apart 248 = .ok (.aload_n 0, 1) := by decide +kernel
theorem dX6_apart_249 : decode cX6_apart 249 = .ok (.getfield 33, 3) := by decide +kernel
theorem dX6_apart_252 : decode cX6_apart 252 = .ok (.iload 5, 2) := by decide +kernel
theorem dX6_apart_254 : decode cX6_apart 254 = .ok (.iaload, 1) := by decide +kernel
theorem dX6_apart_255 : decode cX6_apart 255 = .ok (.iadd, 1) := by decide +kernel
theorem dX6_apart_256 : decode cX6_apart 256 = .ok (.istore_n 3, 1) := by decide +kernel
theorem dX6_apart_257 : decode cX6_apart 257 = .ok (.iinc 5 1, 3) := by decide +kernel
theorem dX6_apart_260 : decode cX6_apart 260 = .ok (.goto (-77), 3) := by decide +kernel
theorem dX6_apart_263 : decode cX6_apart 263 = .ok (.iload 4, 2) := by decide +kernel
theorem dX6_apart_265 : decode cX6_apart 265 = .ok (.ifCond .eq 7, 3) := by decide +kernel
theorem dX6_apart_268 : decode cX6_apart 268 = .ok (.iload_n 3, 1) := by decide +kernel
theorem dX6_apart_269 : decode cX6_apart 269 = .ok (.goto 5, 3) := by decide +kernel
theorem dX6_apart_272 : decode cX6_apart 272 = .ok (.ldc 112, 2) := by decide +kernel
theorem dX6_apart_274 : decode cX6_apart 274 = .ok (.ireturn, 1) := by decide +kernel
def f_X6_apart_274 (s0 : Int32) (σ : St) : Option (Int32 × St) :=
  some (s0, σ)
set_option maxRecDepth 100000 in
set_option maxHeartbeats 4000000 in
theorem b_X6_apart_274 {g : Geo} {x : Cx} (C : Ok g x cX6_apart RX6 8 (some .int) rm_X6_apart) : ∀ (s0 : Int32) (σ : St) (r : Int32) (σ' : St), f_X6_apart_274 s0 σ = some (r, σ') → V g x (qm g x (some (.int r)) σ') 8 σ [] [.int s0] 274 := by
  intro s0 σ r σ' h
  unfold f_X6_apart_274 at h
  cases h
  exact v_iret C dX6_apart_274
def f_X6_apart_257 (k183 : Int32 → Int32 → Int32 → St → Option (Int32 × St)) (x3 : Int32) (x4 : Int32) (x5 : Int32) (σ : St) : Option (Int32 × St) :=
  k183 x3 x4 (x5 + 1) σ
set_option maxRecDepth 100000 in
set_option maxHeartbeats 4000000 in
theorem b_X6_apart_257 {g : Geo} {x : Cx} (C : Ok g x cX6_apart RX6 8 (some .int) rm_X6_apart) (k183 : Int32 → Int32 → Int32 → St → Option (Int32 × St)) (hk183 : ∀ (x3 : Int32) (x4 : Int32) (x5 : Int32) (τ : St) (r : Int32) (τ' : St), k183 x3 x4 x5 τ = some (r, τ') → V g x (qm g x (some (.int r)) τ') 8 τ [(0, .ref (g.1 26)), (3, .int x3), (4, .int x4), (5, .int x5)] [] 183) : ∀ (x3 : Int32) (x4 : Int32) (x5 : Int32) (σ : St) (r : Int32) (σ' : St), f_X6_apart_257 k183 x3 x4 x5 σ = some (r, σ') → V g x (qm g x (some (.int r)) σ') 8 σ [(0, .ref (g.1 26)), (3, .int x3), (4, .int x4), (5, .int x5)] [] 257 := by
  intro x3 x4 x5 σ r σ' h
  unfold f_X6_apart_257 at h
  refine v_iinc C (v := (x5 + 1)) (lv' := [(5, .int _), (0, .ref _), (3, .int _), (4, .int _)]) dX6_apart_257 3 rfl rfl (by decide) rfl ?_
  refine v_goto C (tgt := 183) dX6_apart_260 (by decide) ?_
  refine V.sub (lv' := [(0, .ref _), (3, .int _), (4, .int _), (5, .int _)]) [1, 2, 3, 0] rfl ?_
  exact hk183 _ _ _  _ _ _ h
def f_X6_apart_255 (k183 : Int32 → Int32 → Int32 → St → Option (Int32 × St)) (x4 : Int32) (x5 : Int32) (s0 : Int32) (s1 : Int32) (σ : St) : Option (Int32 × St) :=
  f_X6_apart_257 k183 (s0 + s1) x4 x5 σ
set_option maxRecDepth 100000 in
set_option maxHeartbeats 4000000 in
theorem b_X6_apart_255 {g : Geo} {x : Cx} (C : Ok g x cX6_apart RX6 8 (some .int) rm_X6_apart) (k183 : Int32 → Int32 → Int32 → St → Option (Int32 × St)) (hk183 : ∀ (x3 : Int32) (x4 : Int32) (x5 : Int32) (τ : St) (r : Int32) (τ' : St), k183 x3 x4 x5 τ = some (r, τ') → V g x (qm g x (some (.int r)) τ') 8 τ [(0, .ref (g.1 26)), (3, .int x3), (4, .int x4), (5, .int x5)] [] 183) : ∀ (x4 : Int32) (x5 : Int32) (s0 : Int32) (s1 : Int32) (σ : St) (r : Int32) (σ' : St), f_X6_apart_255 k183 x4 x5 s0 s1 σ = some (r, σ') → V g x (qm g x (some (.int r)) σ') 8 σ [(0, .ref (g.1 26)), (4, .int x4), (5, .int x5)] [.int s1, .int s0] 255 := by
  intro x4 x5 s0 s1 σ r σ' h
  unfold f_X6_apart_255 at h
  refine v_iadd C dX6_apart_255 ?_
  refine v_istore_n C (lv' := [(3, .int _), (0, .ref _), (4, .int _), (5, .int _)]) dX6_apart_256 rfl (by decide) rfl ?_
  refine V.sub (lv' := [(0, .ref _), (3, .int _), (4, .int _), (5, .int _)]) [1, 0, 2, 3] rfl ?_
  exact b_X6_apart_257 C _ hk183 _ _ _  _ _ _ h
def f_X6_apart_183 : Nat → Int32 → Int32 → Int32 → St → Option (Int32 × St)
  | 0, _, _, _, _ => none
  | n + 1, x3, x4, x5, σ =>
    if (81 : Int32) ≤ x5 then
      if x4 = 0 then
        f_X6_apart_274 (-900009 : Int32) σ
      else
        f_X6_apart_274 x3 σ
    else
      rmI x5 (9 : Int32) fun v2 =>
      dvI x5 (9 : Int32) fun v3 =>
      bd (f_X6_isPoint v2 v3 σ) fun v4 σ5 =>
      if v4 = 0 then
        f_X6_apart_257 (f_X6_apart_183 n) x3 x4 x5 σ5
      else
        bd (f_X6_isInner v2 v3 σ5) fun v6 σ7 =>
        if v6 = 0 then
          f_X6_apart_257 (f_X6_apart_183 n) x3 x4 x5 σ7
        else
          rdI σ7 34 x5 fun v8 =>
          if 0 ≤ v8 then
            rdI σ7 34 x5 fun v9 =>
            f_X6_apart_255 (f_X6_apart_183 n) x4 x5 x3 v9 σ7
          else
            rdI σ7 34 x5 fun v10 =>
            f_X6_apart_255 (f_X6_apart_183 n) x4 x5 x3 (-v10) σ7
set_option maxRecDepth 100000 in
set_option maxHeartbeats 4000000 in
theorem b_X6_apart_183 {g : Geo} {x : Cx} (C : Ok g x cX6_apart RX6 8 (some .int) rm_X6_apart) : ∀ (n : Nat) (x3 : Int32) (x4 : Int32) (x5 : Int32) (σ : St) (r : Int32) (σ' : St), f_X6_apart_183 n x3 x4 x5 σ = some (r, σ') → V g x (qm g x (some (.int r)) σ') 8 σ [(0, .ref (g.1 26)), (3, .int x3), (4, .int x4), (5, .int x5)] [] 183 := by
  intro n
  induction n with
  | zero =>
    intro x3 x4 x5 σ r σ' h
    rw [f_X6_apart_183] at h
    cases h
  | succ n ih =>
    intro x3 x4 x5 σ r σ' h
    rw [f_X6_apart_183] at h
    refine v_iload C dX6_apart_183 3 rfl ?_
    refine v_bipush C (v := (81 : Int32)) dX6_apart_185 (by decide) ?_
    refine v_icmp_ge C (tgt := 263) dX6_apart_187 (by decide) (fun q14 => ?_) (fun q14 => ?_)
    · rw [if_pos q14] at h
      refine v_iload C dX6_apart_263 2 rfl ?_
      refine v_if_eq C (tgt := 272) dX6_apart_265 (by decide) (fun q1 => ?_) (fun q1 => ?_)
      · rw [if_pos q1] at h
        refine v_ldc C (v := (-900009 : Int32)) con_RX6_112 dX6_apart_272 ?_
        refine V.sub (lv' := []) [] rfl ?_
        exact b_X6_apart_274 C _  _ _ _ h
      · rw [if_neg q1] at h
        refine v_iload_n C dX6_apart_268 rfl 1 rfl ?_
        refine v_goto C (tgt := 274) dX6_apart_269 (by decide) ?_
        refine V.sub (lv' := []) [] rfl ?_
        exact b_X6_apart_274 C _  _ _ _ h
    · rw [if_neg q14] at h
      refine v_iload C dX6_apart_190 3 rfl ?_
      refine v_bipush C (v := (9 : Int32)) dX6_apart_192 (by decide) ?_
      obtain ⟨nv2, v2, ev2, h⟩ := rmI_ex h
      refine x_irem C nv2 ev2 dX6_apart_194 ?_
      refine v_istore C (lv' := [(6, .int _), (0, .ref _), (3, .int _), (4, .int _), (5, .int _)]) dX6_apart_195 (by decide) rfl ?_
      refine v_iload C dX6_apart_197 4 rfl ?_
      refine v_bipush C (v := (9 : Int32)) dX6_apart_199 (by decide) ?_
      obtain ⟨nv3, v3, ev3, h⟩ := dvI_ex h
      refine x_idiv C nv3 ev3 dX6_apart_201 ?_
      refine v_istore C (lv' := [(7, .int _), (6, .int _), (0, .ref _), (3, .int _), (4, .int _), (5, .int _)]) dX6_apart_202 (by decide) rfl ?_
      refine v_aload_n C dX6_apart_204 rfl 2 rfl ?_
      refine v_iload C dX6_apart_205 1 rfl ?_
      refine v_iload C dX6_apart_207 0 rfl ?_
      obtain ⟨v4, σ5, cσ5, h⟩ := bd_some h
      refine callVi C (c_X6_isPoint cσ5) km_X6_isPoint kv_X6_isPoint rfl ml_RX6_172 rfl rfl (by decide) (Nat.le_of_ble_eq_true rfl) dX6_apart_209 ?_
      refine v_if_eq C (tgt := 257) dX6_apart_212 (by decide) (fun q13 => ?_) (fun q13 => ?_)
      · rw [if_pos q13] at h
        refine V.sub (lv' := [(0, .ref _), (3, .int _), (4, .int _), (5, .int _)]) [2, 3, 4, 5] rfl ?_
        exact b_X6_apart_257 C _ ih _ _ _  _ _ _ h
      · rw [if_neg q13] at h
        refine v_aload_n C dX6_apart_215 rfl 2 rfl ?_
        refine v_iload C dX6_apart_216 1 rfl ?_
        refine v_iload C dX6_apart_218 0 rfl ?_
        obtain ⟨v6, σ7, cσ7, h⟩ := bd_some h
        refine callVi C (c_X6_isInner cσ7) km_X6_isInner kv_X6_isInner rfl ml_RX6_168 rfl rfl (by decide) (Nat.le_of_ble_eq_true rfl) dX6_apart_220 ?_
        refine v_if_eq C (tgt := 257) dX6_apart_223 (by decide) (fun q12 => ?_) (fun q12 => ?_)
        · rw [if_pos q12] at h
          refine V.sub (lv' := [(0, .ref _), (3, .int _), (4, .int _), (5, .int _)]) [2, 3, 4, 5] rfl ?_
          exact b_X6_apart_257 C _ ih _ _ _  _ _ _ h
        · rw [if_neg q12] at h
          refine v_iload_n C dX6_apart_226 rfl 3 rfl ?_
          refine v_aload_n C dX6_apart_227 rfl 2 rfl ?_
          refine v_getR C (p' := 34) fl_RX6_33 rfl rfl dX6_apart_228 ?_
          refine v_iload C dX6_apart_231 5 rfl ?_
          obtain ⟨nv8, v8, ev8, h⟩ := rdI_ex h
          refine x_iald C rfl nv8 ev8 dX6_apart_233 ?_
          refine v_if_ge C (tgt := 248) dX6_apart_234 (by decide) (fun q11 => ?_) (fun q11 => ?_)
          · rw [if_pos q11] at h
            refine v_aload_n C dX6_apart_248 rfl 2 rfl ?_
            refine v_getR C (p' := 34) fl_RX6_33 rfl rfl dX6_apart_249 ?_
            refine v_iload C dX6_apart_252 5 rfl ?_
            obtain ⟨nv9, v9, ev9, h⟩ := rdI_ex h
            refine x_iald C rfl nv9 ev9 dX6_apart_254 ?_
            refine V.sub (lv' := [(0, .ref _), (4, .int _), (5, .int _)]) [2, 4, 5] rfl ?_
            exact b_X6_apart_255 C _ ih _ _ _ _  _ _ _ h
          · rw [if_neg q11] at h
            refine v_aload_n C dX6_apart_237 rfl 2 rfl ?_
            refine v_getR C (p' := 34) fl_RX6_33 rfl rfl dX6_apart_238 ?_
            refine v_iload C dX6_apart_241 5 rfl ?_
            obtain ⟨nv10, v10, ev10, h⟩ := rdI_ex h
            refine x_iald C rfl nv10 ev10 dX6_apart_243 ?_
            refine v_ineg C dX6_apart_244 ?_
            refine v_goto C (tgt := 255) dX6_apart_245 (by decide) ?_
            refine V.sub (lv' := [(0, .ref _), (4, .int _), (5, .int _)]) [2, 4, 5] rfl ?_
            exact b_X6_apart_255 C _ ih _ _ _ _  _ _ _ h
def f_X6_apart_174 (k67 : Int32 → Int32 → Int32 → Int32 → Int32 → St → Option (Int32 × St)) (x1 : Int32) (x2 : Int32) (x3 : Int32) (x4 : Int32) (x5 : Int32) (σ : St) : Option (Int32 × St) :=
  k67 x1 x2 x3 x4 (x5 + 1) σ
set_option maxRecDepth 100000 in
set_option maxHeartbeats 4000000 in
theorem b_X6_apart_174 {g : Geo} {x : Cx} (C : Ok g x cX6_apart RX6 8 (some .int) rm_X6_apart) (k67 : Int32 → Int32 → Int32 → Int32 → Int32 → St → Option (Int32 × St)) (hk67 : ∀ (x1 : Int32) (x2 : Int32) (x3 : Int32) (x4 : Int32) (x5 : Int32) (τ : St) (r : Int32) (τ' : St), k67 x1 x2 x3 x4 x5 τ = some (r, τ') → V g x (qm g x (some (.int r)) τ') 8 τ [(0, .ref (g.1 26)), (1, .int x1), (2, .int x2), (3, .int x3), (4, .int x4), (5, .int x5)] [] 67) : ∀ (x1 : Int32) (x2 : Int32) (x3 : Int32) (x4 : Int32) (x5 : Int32) (σ : St) (r : Int32) (σ' : St), f_X6_apart_174 k67 x1 x2 x3 x4 x5 σ = some (r, σ') → V g x (qm g x (some (.int r)) σ') 8 σ [(0, .ref (g.1 26)), (1, .int x1), (2, .int x2), (3, .int x3), (4, .int x4), (5, .int x5)] [] 174 := by
  intro x1 x2 x3 x4 x5 σ r σ' h
  unfold f_X6_apart_174 at h
  refine v_iinc C (v := (x5 + 1)) (lv' := [(5, .int _), (0, .ref _), (1, .int _), (2, .int _), (3, .int _), (4, .int _)]) dX6_apart_174 5 rfl rfl (by decide) rfl ?_
  refine v_goto C (tgt := 67) dX6_apart_177 (by decide) ?_
  refine V.sub (lv' := [(0, .ref _), (1, .int _), (2, .int _), (3, .int _), (4, .int _), (5, .int _)]) [1, 2, 3, 4, 5, 0] rfl ?_
  exact hk67 _ _ _ _ _  _ _ _ h
def f_X6_apart_140 (k67 : Int32 → Int32 → Int32 → Int32 → Int32 → St → Option (Int32 × St)) (x1 : Int32) (x2 : Int32) (x3 : Int32) (x5 : Int32) (s0 : Int32) (σ : St) : Option (Int32 × St) :=
  rdI σ 35 x5 fun v1 =>
  if v1 = 0 then
    wrZ σ 35 x5 (1 : Int32) fun σ2 =>
    wrI σ2 34 x5 (0 : Int32) fun σ3 =>
    bd (f_X6_spread x1 x2 σ3) fun _ σ5 =>
    f_X6_apart_174 k67 x1 x2 x3 s0 x5 σ5
  else
    f_X6_apart_174 k67 x1 x2 x3 s0 x5 σ
set_option maxRecDepth 100000 in
set_option maxHeartbeats 4000000 in
theorem b_X6_apart_140 {g : Geo} {x : Cx} (C : Ok g x cX6_apart RX6 8 (some .int) rm_X6_apart) (k67 : Int32 → Int32 → Int32 → Int32 → Int32 → St → Option (Int32 × St)) (hk67 : ∀ (x1 : Int32) (x2 : Int32) (x3 : Int32) (x4 : Int32) (x5 : Int32) (τ : St) (r : Int32) (τ' : St), k67 x1 x2 x3 x4 x5 τ = some (r, τ') → V g x (qm g x (some (.int r)) τ') 8 τ [(0, .ref (g.1 26)), (1, .int x1), (2, .int x2), (3, .int x3), (4, .int x4), (5, .int x5)] [] 67) : ∀ (x1 : Int32) (x2 : Int32) (x3 : Int32) (x5 : Int32) (s0 : Int32) (σ : St) (r : Int32) (σ' : St), f_X6_apart_140 k67 x1 x2 x3 x5 s0 σ = some (r, σ') → V g x (qm g x (some (.int r)) σ') 8 σ [(0, .ref (g.1 26)), (1, .int x1), (2, .int x2), (3, .int x3), (5, .int x5)] [.int s0] 140 := by
  intro x1 x2 x3 x5 s0 σ r σ' h
  unfold f_X6_apart_140 at h
  refine v_istore C (lv' := [(4, .int _), (0, .ref _), (1, .int _), (2, .int _), (3, .int _), (5, .int _)]) dX6_apart_140 (by decide) rfl ?_
  refine v_aload_n C dX6_apart_142 rfl 1 rfl ?_
  refine v_getR C (p' := 35) fl_RX6_36 rfl rfl dX6_apart_143 ?_
  refine v_iload C dX6_apart_146 5 rfl ?_
  obtain ⟨nv1, v1, ev1, h⟩ := rdI_ex h
  refine x_zald C rfl nv1 ev1 dX6_apart_148 ?_
  refine v_if_ne C (tgt := 174) dX6_apart_149 (by decide) (fun q6 => ?_) (fun q6 => ?_)
  · rw [if_neg q6] at h
    refine V.sub (lv' := [(0, .ref _), (1, .int _), (2, .int _), (3, .int _), (4, .int _), (5, .int _)]) [1, 2, 3, 4, 0, 5] rfl ?_
    exact b_X6_apart_174 C _ hk67 _ _ _ _ _  _ _ _ h
  · rw [if_pos q6] at h
    refine v_aload_n C dX6_apart_152 rfl 1 rfl ?_
    refine v_getR C (p' := 35) fl_RX6_36 rfl rfl dX6_apart_153 ?_
    refine v_iload C dX6_apart_156 5 rfl ?_
    refine v_iconst C (v := (1 : Int32)) dX6_apart_158 (by decide) ?_
    obtain ⟨nσ2, σ2, eσ2, h⟩ := wrZ_ex h
    refine x_zast C rfl nσ2 eσ2 dX6_apart_159 ?_
    refine v_aload_n C dX6_apart_160 rfl 1 rfl ?_
    refine v_getR C (p' := 34) fl_RX6_33 rfl rfl dX6_apart_161 ?_
    refine v_iload C dX6_apart_164 5 rfl ?_
    refine v_iconst C (v := (0 : Int32)) dX6_apart_166 (by decide) ?_
    obtain ⟨nσ3, σ3, eσ3, h⟩ := wrI_ex h
    refine x_iast C rfl nσ3 eσ3 dX6_apart_167 ?_
    refine v_aload_n C dX6_apart_168 rfl 1 rfl ?_
    refine v_iload_n C dX6_apart_169 rfl 2 rfl ?_
    refine v_iload_n C dX6_apart_170 rfl 3 rfl ?_
    obtain ⟨v4, σ5, cσ5, h⟩ := bd_some h
    refine callVv C (c_X6_spread cσ5) km_X6_spread kv_X6_spread rfl ml_RX6_193 rfl rfl (by decide) (Nat.le_of_ble_eq_true rfl) dX6_apart_171 ?_
    refine V.sub (lv' := [(0, .ref _), (1, .int _), (2, .int _), (3, .int _), (4, .int _), (5, .int _)]) [1, 2, 3, 4, 0, 5] rfl ?_
    exact b_X6_apart_174 C _ hk67 _ _ _ _ _  _ _ _ h
def f_X6_apart_139 (k67 : Int32 → Int32 → Int32 → Int32 → Int32 → St → Option (Int32 × St)) (x1 : Int32) (x2 : Int32) (x3 : Int32) (x5 : Int32) (σ : St) : Option (Int32 × St) :=
  f_X6_apart_140 k67 x1 x2 x3 x5 (0 : Int32) σ
set_option maxRecDepth 100000 in
set_option maxHeartbeats 4000000 in
theorem b_X6_apart_139 {g : Geo} {x : Cx} (C : Ok g x cX6_apart RX6 8 (some .int) rm_X6_apart) (k67 : Int32 → Int32 → Int32 → Int32 → Int32 → St → Option (Int32 × St)) (hk67 : ∀ (x1 : Int32) (x2 : Int32) (x3 : Int32) (x4 : Int32) (x5 : Int32) (τ : St) (r : Int32) (τ' : St), k67 x1 x2 x3 x4 x5 τ = some (r, τ') → V g x (qm g x (some (.int r)) τ') 8 τ [(0, .ref (g.1 26)), (1, .int x1), (2, .int x2), (3, .int x3), (4, .int x4), (5, .int x5)] [] 67) : ∀ (x1 : Int32) (x2 : Int32) (x3 : Int32) (x5 : Int32) (σ : St) (r : Int32) (σ' : St), f_X6_apart_139 k67 x1 x2 x3 x5 σ = some (r, σ') → V g x (qm g x (some (.int r)) σ') 8 σ [(0, .ref (g.1 26)), (1, .int x1), (2, .int x2), (3, .int x3), (5, .int x5)] [] 139 := by
  intro x1 x2 x3 x5 σ r σ' h
  unfold f_X6_apart_139 at h
  refine v_iconst C (v := (0 : Int32)) dX6_apart_139 (by decide) ?_
  refine V.sub (lv' := [(0, .ref _), (1, .int _), (2, .int _), (3, .int _), (5, .int _)]) [0, 1, 2, 3, 4] rfl ?_
  exact b_X6_apart_140 C _ hk67 _ _ _ _ _  _ _ _ h
def f_X6_apart_135 (k67 : Int32 → Int32 → Int32 → Int32 → Int32 → St → Option (Int32 × St)) (x1 : Int32) (x2 : Int32) (x3 : Int32) (x5 : Int32) (σ : St) : Option (Int32 × St) :=
  f_X6_apart_140 k67 x1 x2 x3 x5 (1 : Int32) σ
set_option maxRecDepth 100000 in
set_option maxHeartbeats 4000000 in
theorem b_X6_apart_135 {g : Geo} {x : Cx} (C : Ok g x cX6_apart RX6 8 (some .int) rm_X6_apart) (k67 : Int32 → Int32 → Int32 → Int32 → Int32 → St → Option (Int32 × St)) (hk67 : ∀ (x1 : Int32) (x2 : Int32) (x3 : Int32) (x4 : Int32) (x5 : Int32) (τ : St) (r : Int32) (τ' : St), k67 x1 x2 x3 x4 x5 τ = some (r, τ') → V g x (qm g x (some (.int r)) τ') 8 τ [(0, .ref (g.1 26)), (1, .int x1), (2, .int x2), (3, .int x3), (4, .int x4), (5, .int x5)] [] 67) : ∀ (x1 : Int32) (x2 : Int32) (x3 : Int32) (x5 : Int32) (σ : St) (r : Int32) (σ' : St), f_X6_apart_135 k67 x1 x2 x3 x5 σ = some (r, σ') → V g x (qm g x (some (.int r)) σ') 8 σ [(0, .ref (g.1 26)), (1, .int x1), (2, .int x2), (3, .int x3), (5, .int x5)] [] 135 := by
  intro x1 x2 x3 x5 σ r σ' h
  unfold f_X6_apart_135 at h
  refine v_iconst C (v := (1 : Int32)) dX6_apart_135 (by decide) ?_
  refine v_goto C (tgt := 140) dX6_apart_136 (by decide) ?_
  refine V.sub (lv' := [(0, .ref _), (1, .int _), (2, .int _), (3, .int _), (5, .int _)]) [0, 1, 2, 3, 4] rfl ?_
  exact b_X6_apart_140 C _ hk67 _ _ _ _ _  _ _ _ h
def f_X6_apart_67 : Nat → Int32 → Int32 → Int32 → Int32 → Int32 → St → Option (Int32 × St)
  | 0, _, _, _, _, _, _ => none
  | n + 1, x1, x2, x3, x4, x5, σ =>
    if (81 : Int32) ≤ x5 then
      f_X6_apart_183 FU x3 x4 (0 : Int32) σ
    else
      rmI x5 (9 : Int32) fun v1 =>
      dvI x5 (9 : Int32) fun v2 =>
      bd (f_X6_isPoint v1 v2 σ) fun v3 σ4 =>
      if v3 = 0 then
        f_X6_apart_174 (f_X6_apart_67 n) x1 x2 x3 x4 x5 σ4
      else
        bd (f_X6_isInner v1 v2 σ4) fun v5 σ6 =>
        if v5 = 0 then
          if x4 = 0 then
            f_X6_apart_139 (f_X6_apart_67 n) x1 x2 x3 x5 σ6
          else
            rdI σ6 35 x5 fun v7 =>
            if v7 = 0 then
              f_X6_apart_135 (f_X6_apart_67 n) x1 x2 x3 x5 σ6
            else
              rdI σ6 34 x5 fun v8 =>
              if v8 = 0 then
                f_X6_apart_135 (f_X6_apart_67 n) x1 x2 x3 x5 σ6
              else
                f_X6_apart_139 (f_X6_apart_67 n) x1 x2 x3 x5 σ6
        else
          f_X6_apart_174 (f_X6_apart_67 n) x1 x2 x3 x4 x5 σ6
set_option maxRecDepth 100000 in
set_option maxHeartbeats 4000000 in
theorem b_X6_apart_67 {g : Geo} {x : Cx} (C : Ok g x cX6_apart RX6 8 (some .int) rm_X6_apart) : ∀ (n : Nat) (x1 : Int32) (x2 : Int32) (x3 : Int32) (x4 : Int32) (x5 : Int32) (σ : St) (r : Int32) (σ' : St), f_X6_apart_67 n x1 x2 x3 x4 x5 σ = some (r, σ') → V g x (qm g x (some (.int r)) σ') 8 σ [(0, .ref (g.1 26)), (1, .int x1), (2, .int x2), (3, .int x3), (4, .int x4), (5, .int x5)] [] 67 := by
  intro n
  induction n with
  | zero =>
    intro x1 x2 x3 x4 x5 σ r σ' h
    rw [f_X6_apart_67] at h
    cases h
  | succ n ih =>
    intro x1 x2 x3 x4 x5 σ r σ' h
    rw [f_X6_apart_67] at h
    refine v_iload C dX6_apart_67 5 rfl ?_
    refine v_bipush C (v := (81 : Int32)) dX6_apart_69 (by decide) ?_
    refine v_icmp_ge C (tgt := 180) dX6_apart_71 (by decide) (fun q14 => ?_) (fun q14 => ?_)
    · rw [if_pos q14] at h
      refine v_iconst C (v := (0 : Int32)) dX6_apart_180 (by decide) ?_
      refine v_istore C (lv' := [(5, .int _), (0, .ref _), (1, .int _), (2, .int _), (3, .int _), (4, .int _)]) dX6_apart_181 (by decide) rfl ?_
      refine V.sub (lv' := [(0, .ref _), (3, .int _), (4, .int _), (5, .int _)]) [1, 4, 5, 0] rfl ?_
      exact b_X6_apart_183 C FU _ _ _  _ _ _ h
    · rw [if_neg q14] at h
      refine v_iload C dX6_apart_74 5 rfl ?_
      refine v_bipush C (v := (9 : Int32)) dX6_apart_76 (by decide) ?_
      obtain ⟨nv1, v1, ev1, h⟩ := rmI_ex h
      refine x_irem C nv1 ev1 dX6_apart_78 ?_
      refine v_istore C (lv' := [(6, .int _), (0, .ref _), (1, .int _), (2, .int _), (3, .int _), (4, .int _), (5, .int _)]) dX6_apart_79 (by decide) rfl ?_
      refine v_iload C dX6_apart_81 6 rfl ?_
      refine v_bipush C (v := (9 : Int32)) dX6_apart_83 (by decide) ?_
      obtain ⟨nv2, v2, ev2, h⟩ := dvI_ex h
      refine x_idiv C nv2 ev2 dX6_apart_85 ?_
      refine v_istore C (lv' := [(7, .int _), (6, .int _), (0, .ref _), (1, .int _), (2, .int _), (3, .int _), (4, .int _), (5, .int _)]) dX6_apart_86 (by decide) rfl ?_
      refine v_aload_n C dX6_apart_88 rfl 2 rfl ?_
      refine v_iload C dX6_apart_89 1 rfl ?_
      refine v_iload C dX6_apart_91 0 rfl ?_
      obtain ⟨v3, σ4, cσ4, h⟩ := bd_some h
      refine callVi C (c_X6_isPoint cσ4) km_X6_isPoint kv_X6_isPoint rfl ml_RX6_172 rfl rfl (by decide) (Nat.le_of_ble_eq_true rfl) dX6_apart_93 ?_
      refine v_if_eq C (tgt := 174) dX6_apart_96 (by decide) (fun q13 => ?_) (fun q13 => ?_)
      · rw [if_pos q13] at h
        refine V.sub (lv' := [(0, .ref _), (1, .int _), (2, .int _), (3, .int _), (4, .int _), (5, .int _)]) [2, 3, 4, 5, 6, 7] rfl ?_
        exact b_X6_apart_174 C _ ih _ _ _ _ _  _ _ _ h
      · rw [if_neg q13] at h
        refine v_aload_n C dX6_apart_99 rfl 2 rfl ?_
        refine v_iload C dX6_apart_100 1 rfl ?_
        refine v_iload C dX6_apart_102 0 rfl ?_
        obtain ⟨v5, σ6, cσ6, h⟩ := bd_some h
        refine callVi C (c_X6_isInner cσ6) km_X6_isInner kv_X6_isInner rfl ml_RX6_168 rfl rfl (by decide) (Nat.le_of_ble_eq_true rfl) dX6_apart_104 ?_
        refine v_if_ne C (tgt := 174) dX6_apart_107 (by decide) (fun q12 => ?_) (fun q12 => ?_)
        · rw [if_neg q12] at h
          refine V.sub (lv' := [(0, .ref _), (1, .int _), (2, .int _), (3, .int _), (4, .int _), (5, .int _)]) [2, 3, 4, 5, 6, 7] rfl ?_
          exact b_X6_apart_174 C _ ih _ _ _ _ _  _ _ _ h
        · rw [if_pos q12] at h
          refine v_iload C dX6_apart_110 6 rfl ?_
          refine v_if_eq C (tgt := 139) dX6_apart_112 (by decide) (fun q11 => ?_) (fun q11 => ?_)
          · rw [if_pos q11] at h
            refine V.sub (lv' := [(0, .ref _), (1, .int _), (2, .int _), (3, .int _), (5, .int _)]) [2, 3, 4, 5, 7] rfl ?_
            exact b_X6_apart_139 C _ ih _ _ _ _  _ _ _ h
          · rw [if_neg q11] at h
            refine v_aload_n C dX6_apart_115 rfl 2 rfl ?_
            refine v_getR C (p' := 35) fl_RX6_36 rfl rfl dX6_apart_116 ?_
            refine v_iload C dX6_apart_119 7 rfl ?_
            obtain ⟨nv7, v7, ev7, h⟩ := rdI_ex h
            refine x_zald C rfl nv7 ev7 dX6_apart_121 ?_
            refine v_if_eq C (tgt := 135) dX6_apart_122 (by decide) (fun q10 => ?_) (fun q10 => ?_)
            · rw [if_pos q10] at h
              refine V.sub (lv' := [(0, .ref _), (1, .int _), (2, .int _), (3, .int _), (5, .int _)]) [2, 3, 4, 5, 7] rfl ?_
              exact b_X6_apart_135 C _ ih _ _ _ _  _ _ _ h
            · rw [if_neg q10] at h
              refine v_aload_n C dX6_apart_125 rfl 2 rfl ?_
              refine v_getR C (p' := 34) fl_RX6_33 rfl rfl dX6_apart_126 ?_
              refine v_iload C dX6_apart_129 7 rfl ?_
              obtain ⟨nv8, v8, ev8, h⟩ := rdI_ex h
              refine x_iald C rfl nv8 ev8 dX6_apart_131 ?_
              refine v_if_ne C (tgt := 139) dX6_apart_132 (by decide) (fun q9 => ?_) (fun q9 => ?_)
              · rw [if_neg q9] at h
                refine V.sub (lv' := [(0, .ref _), (1, .int _), (2, .int _), (3, .int _), (5, .int _)]) [2, 3, 4, 5, 7] rfl ?_
                exact b_X6_apart_139 C _ ih _ _ _ _  _ _ _ h
              · rw [if_pos q9] at h
                refine V.sub (lv' := [(0, .ref _), (1, .int _), (2, .int _), (3, .int _), (5, .int _)]) [2, 3, 4, 5, 7] rfl ?_
                exact b_X6_apart_135 C _ ih _ _ _ _  _ _ _ h
def f_X6_apart_40 : Nat → Int32 → Int32 → Int32 → St → Option (Int32 × St)
  | 0, _, _, _, _ => none
  | n + 1, x1, x2, x3, σ =>
    if (81 : Int32) ≤ x3 then
      f_X6_apart_67 FU x1 x2 (0 : Int32) (1 : Int32) (0 : Int32) σ
    else
      wrZ σ 35 x3 (0 : Int32) fun σ1 =>
      f_X6_apart_40 n x1 x2 (x3 + 1) σ1
set_option maxRecDepth 100000 in
set_option maxHeartbeats 4000000 in
theorem b_X6_apart_40 {g : Geo} {x : Cx} (C : Ok g x cX6_apart RX6 8 (some .int) rm_X6_apart) : ∀ (n : Nat) (x1 : Int32) (x2 : Int32) (x3 : Int32) (σ : St) (r : Int32) (σ' : St), f_X6_apart_40 n x1 x2 x3 σ = some (r, σ') → V g x (qm g x (some (.int r)) σ') 8 σ [(0, .ref (g.1 26)), (1, .int x1), (2, .int x2), (3, .int x3)] [] 40 := by
  intro n
  induction n with
  | zero =>
    intro x1 x2 x3 σ r σ' h
    rw [f_X6_apart_40] at h
    cases h
  | succ n ih =>
    intro x1 x2 x3 σ r σ' h
    rw [f_X6_apart_40] at h
    refine v_iload_n C dX6_apart_40 rfl 3 rfl ?_
    refine v_bipush C (v := (81 : Int32)) dX6_apart_41 (by decide) ?_
    refine v_icmp_ge C (tgt := 59) dX6_apart_43 (by decide) (fun q2 => ?_) (fun q2 => ?_)
    · rw [if_pos q2] at h
      refine v_iconst C (v := (0 : Int32)) dX6_apart_59 (by decide) ?_
      refine v_istore_n C (lv' := [(3, .int _), (0, .ref _), (1, .int _), (2, .int _)]) dX6_apart_60 rfl (by decide) rfl ?_
      refine v_iconst C (v := (1 : Int32)) dX6_apart_61 (by decide) ?_
      refine v_istore C (lv' := [(4, .int _), (3, .int _), (0, .ref _), (1, .int _), (2, .int _)]) dX6_apart_62 (by decide) rfl ?_
      refine v_iconst C (v := (0 : Int32)) dX6_apart_64 (by decide) ?_
      refine v_istore C (lv' := [(5, .int _), (4, .int _), (3, .int _), (0, .ref _), (1, .int _), (2, .int _)]) dX6_apart_65 (by decide) rfl ?_
      refine V.sub (lv' := [(0, .ref _), (1, .int _), (2, .int _), (3, .int _), (4, .int _), (5, .int _)]) [3, 4, 5, 2, 1, 0] rfl ?_
      exact b_X6_apart_67 C FU _ _ _ _ _  _ _ _ h
    · rw [if_neg q2] at h
      refine v_aload_n C dX6_apart_46 rfl 0 rfl ?_
      refine v_getR C (p' := 35) fl_RX6_36 rfl rfl dX6_apart_47 ?_
      refine v_iload_n C dX6_apart_50 rfl 3 rfl ?_
      refine v_iconst C (v := (0 : Int32)) dX6_apart_51 (by decide) ?_
      obtain ⟨nσ1, σ1, eσ1, h⟩ := wrZ_ex h
      refine x_zast C rfl nσ1 eσ1 dX6_apart_52 ?_
      refine v_iinc C (v := (x3 + 1)) (lv' := [(3, .int _), (0, .ref _), (1, .int _), (2, .int _)]) dX6_apart_53 3 rfl rfl (by decide) rfl ?_
      refine v_goto C (tgt := 40) dX6_apart_56 (by decide) ?_
      refine V.sub (lv' := [(0, .ref _), (1, .int _), (2, .int _), (3, .int _)]) [1, 2, 3, 0] rfl ?_
      exact ih _ _ _  _ _ _ h
def f_X6_apart_35 (σ : St) : Option (Int32 × St) :=
  some ((-900003 : Int32), σ)
set_option maxRecDepth 100000 in
set_option maxHeartbeats 4000000 in
theorem b_X6_apart_35 {g : Geo} {x : Cx} (C : Ok g x cX6_apart RX6 8 (some .int) rm_X6_apart) : ∀ (σ : St) (r : Int32) (σ' : St), f_X6_apart_35 σ = some (r, σ') → V g x (qm g x (some (.int r)) σ') 8 σ [] [] 35 := by
  intro σ r σ' h
  unfold f_X6_apart_35 at h
  refine v_ldc C (v := (-900003 : Int32)) con_RX6_158 dX6_apart_35 ?_
  cases h
  exact v_iret C dX6_apart_37
def f_X6_apart_14 (σ : St) : Option (Int32 × St) :=
  some ((-900001 : Int32), σ)
set_option maxRecDepth 100000 in
set_option maxHeartbeats 4000000 in
theorem b_X6_apart_14 {g : Geo} {x : Cx} (C : Ok g x cX6_apart RX6 8 (some .int) rm_X6_apart) : ∀ (σ : St) (r : Int32) (σ' : St), f_X6_apart_14 σ = some (r, σ') → V g x (qm g x (some (.int r)) σ') 8 σ [] [] 14 := by
  intro σ r σ' h
  unfold f_X6_apart_14 at h
  refine v_ldc C (v := (-900001 : Int32)) con_RX6_97 dX6_apart_14 ?_
  cases h
  exact v_iret C dX6_apart_16
def f_X6_apart (a1 : Int32) (a2 : Int32) (σ : St) : Option (Int32 × St) :=
  bd (f_X6_isSlot a1 σ) fun v1 σ2 =>
  if v1 = 0 then
    f_X6_apart_14 σ2
  else
    bd (f_X6_isSlot a2 σ2) fun v3 σ4 =>
    if v3 = 0 then
      f_X6_apart_14 σ4
    else
      rdI σ4 29 a1 fun v5 =>
      if v5 = 0 then
        f_X6_apart_35 σ4
      else
        rdI σ4 29 a2 fun v6 =>
        if v6 = 0 then
          f_X6_apart_35 σ4
        else
          f_X6_apart_40 FU a1 a2 (0 : Int32) σ4
set_option maxRecDepth 100000 in
set_option maxHeartbeats 4000000 in
theorem c_X6_apart {g : Geo} {a1 : Int32} {a2 : Int32} {σ : St} {r : Int32} {σ' : St} (h : f_X6_apart a1 a2 σ = some (r, σ')) : Ct g yX6_apart cX6_apart 8 (some .int) rm_X6_apart [.ref (g.1 26), .int a1, .int a2] σ (some (.int r)) σ' := by
  refine ct_of (own := RX6) (by decide) rfl (Nat.le_of_ble_eq_true rfl) (fun x C => ?_) ⟨rfl, rfl⟩
  show V g x _ 8 σ [(0, .ref (g.1 26)), (1, .int a1), (2, .int a2)] [] 0
  unfold f_X6_apart at h
  refine v_iload_n C dX6_apart_0 rfl 1 rfl ?_
  obtain ⟨v1, σ2, cσ2, h⟩ := bd_some h
  refine callSi C (c_X6_isSlot cσ2) km_X6_isSlot ks_X6_isSlot ml_RX6_155 rfl rfl (by decide) (Nat.le_of_ble_eq_true rfl) dX6_apart_1 ?_
  refine v_if_eq C (tgt := 14) dX6_apart_4 (by decide) (fun q10 => ?_) (fun q10 => ?_)
  · rw [if_pos q10] at h
    refine V.sub (lv' := []) [] rfl ?_
    exact b_X6_apart_14 C  _ _ _ h
  · rw [if_neg q10] at h
    refine v_iload_n C dX6_apart_7 rfl 2 rfl ?_
    obtain ⟨v3, σ4, cσ4, h⟩ := bd_some h
    refine callSi C (c_X6_isSlot cσ4) km_X6_isSlot ks_X6_isSlot ml_RX6_155 rfl rfl (by decide) (Nat.le_of_ble_eq_true rfl) dX6_apart_8 ?_
    refine v_if_ne C (tgt := 17) dX6_apart_11 (by decide) (fun q9 => ?_) (fun q9 => ?_)
    · rw [if_neg q9] at h
      refine v_aload_n C dX6_apart_17 rfl 0 rfl ?_
      refine v_getR C (p' := 29) fl_RX6_17 rfl rfl dX6_apart_18 ?_
      refine v_iload_n C dX6_apart_21 rfl 1 rfl ?_
      obtain ⟨nv5, v5, ev5, h⟩ := rdI_ex h
      refine x_zald C rfl nv5 ev5 dX6_apart_22 ?_
      refine v_if_eq C (tgt := 35) dX6_apart_23 (by decide) (fun q8 => ?_) (fun q8 => ?_)
      · rw [if_pos q8] at h
        refine V.sub (lv' := []) [] rfl ?_
        exact b_X6_apart_35 C  _ _ _ h
      · rw [if_neg q8] at h
        refine v_aload_n C dX6_apart_26 rfl 0 rfl ?_
        refine v_getR C (p' := 29) fl_RX6_17 rfl rfl dX6_apart_27 ?_
        refine v_iload_n C dX6_apart_30 rfl 2 rfl ?_
        obtain ⟨nv6, v6, ev6, h⟩ := rdI_ex h
        refine x_zald C rfl nv6 ev6 dX6_apart_31 ?_
        refine v_if_ne C (tgt := 38) dX6_apart_32 (by decide) (fun q7 => ?_) (fun q7 => ?_)
        · rw [if_neg q7] at h
          refine v_iconst C (v := (0 : Int32)) dX6_apart_38 (by decide) ?_
          refine v_istore_n C (lv' := [(3, .int _), (0, .ref _), (1, .int _), (2, .int _)]) dX6_apart_39 rfl (by decide) rfl ?_
          refine V.sub (lv' := [(0, .ref _), (1, .int _), (2, .int _), (3, .int _)]) [1, 2, 3, 0] rfl ?_
          exact b_X6_apart_40 C FU _ _ _  _ _ _ h
        · rw [if_pos q7] at h
          refine V.sub (lv' := []) [] rfl ?_
          exact b_X6_apart_35 C  _ _ _ h
    · rw [if_pos q9] at h
      refine V.sub (lv' := []) [] rfl ?_
      exact b_X6_apart_14 C  _ _ _ h
theorem dX6_end_0 : decode cX6_end 0 = .ok (.iload_n 1, 1) := by decide +kernel
theorem dX6_end_1 : decode cX6_end 1 = .ok (.invokestatic 155, 3) := by decide +kernel
theorem dX6_end_4 : decode cX6_end 4 = .ok (.ifCond .ne 6, 3) := by decide +kernel
theorem dX6_end_7 : decode cX6_end 7 = .ok (.ldc 97, 2) := by decide +kernel
theorem dX6_end_9 : decode cX6_end 9 = .ok (.ireturn, 1) := by decide +kernel
theorem dX6_end_10 : decode cX6_end 10 = .ok (.aload_n 0, 1) := by decide +kernel
theorem dX6_end_11 : decode cX6_end 11 = .ok (.getfield 17, 3) := by decide +kernel
theorem dX6_end_14 : decode cX6_end 14 = .ok (.iload_n 1, 1) := by decide +kernel
theorem dX6_end_15 : decode cX6_end 15 = .ok (.baload, 1) := by decide +kernel
theorem dX6_end_16 : decode cX6_end 16 = .ok (.ifCond .ne 6, 3) := by decide +kernel
theorem dX6_end_19 : decode cX6_end 19 = .ok (.ldc 158, 2) := by decide +kernel
theorem dX6_end_21 : decode cX6_end 21 = .ok (.ireturn, 1) := by decide +kernel
theorem dX6_end_22 : decode cX6_end 22 = .ok (.iconst 0, 1) := by decide +kernel
theorem dX6_end_23 : decode cX6_end 23 = .ok (.istore_n 3, 1) := by decide +kernel
theorem dX6_end_24 : decode cX6_end 24 = .ok (.iconst 1, 1) := by decide +kernel
theorem dX6_end_25 : decode cX6_end 25 = .ok (.istore 4, 2) := by decide +kernel
theorem dX6_end_27 : decode cX6_end 27 = .ok (.iload 4, 2) := by decide +kernel
theorem dX6_end_29 : decode cX6_end 29 = .ok (.ifCond .eq 94, 3) := by decide +kernel
theorem dX6_end_32 : decode cX6_end 32 = .ok (.iconst 0, 1) := by decide +kernel
theorem dX6_end_33 : decode cX6_end 33 = .ok (.istore 4, 2) := by decide +kernel
theorem dX6_end_35 : decode cX6_end 35 = .ok (.iconst 0, 1) := by decide +kernel
theorem dX6_end_36 : decode cX6_end 36 = .ok (.istore 5, 2) := by decide +kernel
theorem dX6_end_38 : decode cX6_end 38 = .ok (.iload 5, 2) := by decide +kernel
theorem dX6_end_40 : decode cX6_end 40 = .ok (.aload_n 0, 1) := by decide +kernel
theorem dX6_end_41 : decode cX6_end 41 = .ok (.getfield 70, 3) := by decide +kernel
theorem dX6_end_44 : decode cX6_end 44 = .ok (.iconst 1, 1) := by decide +kernel
theorem dX6_end_45 : decode cX6_end 45 = .ok (.iadd, 1) := by decide +kernel
theorem dX6_end_46 : decode cX6_end 46 = .ok (.aload_n 0, 1) := by decide +kernel
theorem dX6_end_47 : decode cX6_end 47 = .ok (.getfield 74, 3) := by decide +kernel
theorem dX6_end_50 : decode cX6_end 50 = .ok (.iconst 1, 1) := by decide +kernel
theorem dX6_end_51 : decode cX6_end 51 = .ok (.iadd, 1) := by decide +kernel
theorem dX6_end_52 : decode cX6_end 52 = .ok (.imul, 1) := by decide +kernel
theorem dX6_end_53 : decode cX6_end 53 = .ok (.if_icmp .ge 67, 3) := by decide +kernel
theorem dX6_end_56 : decode cX6_end 56 = .ok (.iload 5, 2) := by decide +kernel
theorem dX6_end_58 : decode cX6_end 58 = .ok (.aload_n 0, 1) := by decide +kernel
theorem dX6_end_59 : decode cX6_end 59 = .ok (.getfield 70, 3) := by decide +kernel
theorem dX6_end_62 : decode cX6_end 62 = .ok (.iconst 1, 1) := by decide +kernel
theorem dX6_end_63 : decode cX6_end 63 = .ok (.iadd, 1) := by decide +kernel
theorem dX6_end_64 : decode cX6_end 64 = .ok (.irem, 1) := by decide +kernel
theorem dX6_end_65 : decode cX6_end 65 = .ok (.istore 6, 2) := by decide +kernel
theorem dX6_end_67 : decode cX6_end 67 = .ok (.iload 5, 2) := by decide +kernel
theorem dX6_end_69 : decode cX6_end 69 = .ok (.aload_n 0, 1) := by decide +kernel
theorem dX6_end_70 : decode cX6_end 70 = .ok (.getfield 70, 3) := by decide +kernel
theorem dX6_end_73 : decode cX6_end 73 = .ok (.iconst 1, 1) := by decide +kernel
theorem dX6_end_74 : decode cX6_end 74 = .ok (.iadd, 1) := by decide +kernel
theorem dX6_end_75 : decode cX6_end 75 = .ok (.idiv, 1) := by decide +kernel
theorem dX6_end_76 : decode cX6_end 76 = .ok (.istore 7, 2) := by decide +kernel
theorem dX6_end_78 : decode cX6_end 78 = .ok (.aload_n 0, 1) := by decide +kernel
theorem dX6_end_79 : decode cX6_end 79 = .ok (.iload_n 1, 1) := by decide +kernel
theorem dX6_end_80 : decode cX6_end 80 = .ok (.iload 6, 2) := by decide +kernel
theorem dX6_end_82 : decode cX6_end 82 = .ok (.iload 7, 2) := by decide +kernel
theorem dX6_end_84 : decode cX6_end 84 = .ok (.invokevirtual 175, 3) := by decide +kernel
theorem dX6_end_87 : decode cX6_end 87 = .ok (.iload_n 2, 1) := by decide +kernel
theorem dX6_end_88 : decode cX6_end 88 = .ok (.ifCond .eq 7, 3) := by decide +kernel
theorem dX6_end_91 : decode cX6_end 91 = .ok (.iconst 2, 1) := by decide +kernel
theorem dX6_end_92 : decode cX6_end 92 = .ok (.goto 4, 3) := by decide +kernel
theorem dX6_end_95 : decode cX6_end 95 = .ok (.iconst 3, 1) := by decide +kernel
theorem dX6_end_96 : decode cX6_end 96 = .ok (.if_icmp .ne 18, 3) := by decide +kernel
theorem dX6_end_99 : decode cX6_end 99 = .ok (.aload_n 0, 1) := by decide +kernel
theorem dX6_end_100 : decode cX6_end 100 = .ok (.iload_n 1, 1) := by decide +kernel
theorem dX6_end_101 : decode cX6_end 101 = .ok (.iload 6, 2) := by decide +kernel
theorem dX6_end_103 : decode cX6_end 103 = .ok (.iload 7, 2) := by decide +kernel
theorem dX6_end_105 : decode cX6_end 105 = .ok (.invokevirtual 178, 3) := by decide +kernel
theorem dX6_end_108 : decode cX6_end 108 = .ok (.iinc 3 1, 3) := by decide +kernel
theorem dX6_end_111 : decode cX6_end 111 = .ok (.iconst 1, 1) := by decide +kernel
theorem dX6_end_112 : decode cX6_end 112 = .ok (.istore 4, 2) := by decide +kernel
theorem dX6_end_114 : decode cX6_end 114 = .ok (.iinc 5 1, 3) := by decide +kernel
theorem dX6_end_117 : decode cX6_end 117 = .ok (.goto (-79), 3) := by decide +kernel
theorem dX6_end_120 : decode cX6_end 120 = .ok (.goto (-93), 3) := by decide +kernel
theorem dX6_end_123 : decode cX6_end 123 = .ok (.iload_n 3, 1) := by decide +kernel
theorem dX6_end_124 : decode cX6_end 124 = .ok (.ireturn, 1) := by decide +kernel
def f_X6_end_114 (k38 : Int32 → Int32 → Int32 → Int32 → Int32 → St → Option (Int32 × St)) (x1 : Int32) (x2 : Int32) (x3 : Int32) (x4 : Int32) (x5 : Int32) (σ : St) : Option (Int32 × St) :=
  k38 x1 x2 x3 x4 (x5 + 1) σ
set_option maxRecDepth 100000 in
set_option maxHeartbeats 4000000 in
theorem b_X6_end_114 {g : Geo} {x : Cx} (C : Ok g x cX6_end RX6 8 (some .int) rm_X6_end) (k38 : Int32 → Int32 → Int32 → Int32 → Int32 → St → Option (Int32 × St)) (hk38 : ∀ (x1 : Int32) (x2 : Int32) (x3 : Int32) (x4 : Int32) (x5 : Int32) (τ : St) (r : Int32) (τ' : St), k38 x1 x2 x3 x4 x5 τ = some (r, τ') → V g x (qm g x (some (.int r)) τ') 8 τ [(0, .ref (g.1 26)), (1, .int x1), (2, .int x2), (3, .int x3), (4, .int x4), (5, .int x5)] [] 38) : ∀ (x1 : Int32) (x2 : Int32) (x3 : Int32) (x4 : Int32) (x5 : Int32) (σ : St) (r : Int32) (σ' : St), f_X6_end_114 k38 x1 x2 x3 x4 x5 σ = some (r, σ') → V g x (qm g x (some (.int r)) σ') 8 σ [(0, .ref (g.1 26)), (1, .int x1), (2, .int x2), (3, .int x3), (4, .int x4), (5, .int x5)] [] 114 := by
  intro x1 x2 x3 x4 x5 σ r σ' h
  unfold f_X6_end_114 at h
  refine v_iinc C (v := (x5 + 1)) (lv' := [(5, .int _), (0, .ref _), (1, .int _), (2, .int _), (3, .int _), (4, .int _)]) dX6_end_114 5 rfl rfl (by decide) rfl ?_
  refine v_goto C (tgt := 38) dX6_end_117 (by decide) ?_
  refine V.sub (lv' := [(0, .ref _), (1, .int _), (2, .int _), (3, .int _), (4, .int _), (5, .int _)]) [1, 2, 3, 4, 5, 0] rfl ?_
  exact hk38 _ _ _ _ _  _ _ _ h
def f_X6_end_96 (k38 : Int32 → Int32 → Int32 → Int32 → Int32 → St → Option (Int32 × St)) (x1 : Int32) (x2 : Int32) (x3 : Int32) (x4 : Int32) (x5 : Int32) (x6 : Int32) (x7 : Int32) (s0 : Int32) (s1 : Int32) (σ : St) : Option (Int32 × St) :=
  if s0 = s1 then
    bd (f_X6_turnOver x1 x6 x7 σ) fun _ σ2 =>
    f_X6_end_114 k38 x1 x2 (x3 + 1) (1 : Int32) x5 σ2
  else
    f_X6_end_114 k38 x1 x2 x3 x4 x5 σ
set_option maxRecDepth 100000 in
set_option maxHeartbeats 4000000 in
theorem b_X6_end_96 {g : Geo} {x : Cx} (C : Ok g x cX6_end RX6 8 (some .int) rm_X6_end) (k38 : Int32 → Int32 → Int32 → Int32 → Int32 → St → Option (Int32 × St)) (hk38 : ∀ (x1 : Int32) (x2 : Int32) (x3 : Int32) (x4 : Int32) (x5 : Int32) (τ : St) (r : Int32) (τ' : St), k38 x1 x2 x3 x4 x5 τ = some (r, τ') → V g x (qm g x (some (.int r)) τ') 8 τ [(0, .ref (g.1 26)), (1, .int x1), (2, .int x2), (3, .int x3), (4, .int x4), (5, .int x5)] [] 38) : ∀ (x1 : Int32) (x2 : Int32) (x3 : Int32) (x4 : Int32) (x5 : Int32) (x6 : Int32) (x7 : Int32) (s0 : Int32) (s1 : Int32) (σ : St) (r : Int32) (σ' : St), f_X6_end_96 k38 x1 x2 x3 x4 x5 x6 x7 s0 s1 σ = some (r, σ') → V g x (qm g x (some (.int r)) σ') 8 σ [(0, .ref (g.1 26)), (1, .int x1), (2, .int x2), (3, .int x3), (4, .int x4), (5, .int x5), (6, .int x6), (7, .int x7)] [.int s1, .int s0] 96 := by
  intro x1 x2 x3 x4 x5 x6 x7 s0 s1 σ r σ' h
  unfold f_X6_end_96 at h
  refine v_icmp_ne C (tgt := 114) dX6_end_96 (by decide) (fun q3 => ?_) (fun q3 => ?_)
  · rw [if_neg q3] at h
    refine V.sub (lv' := [(0, .ref _), (1, .int _), (2, .int _), (3, .int _), (4, .int _), (5, .int _)]) [0, 1, 2, 3, 4, 5] rfl ?_
    exact b_X6_end_114 C _ hk38 _ _ _ _ _  _ _ _ h
  · rw [if_pos q3] at h
    refine v_aload_n C dX6_end_99 rfl 0 rfl ?_
    refine v_iload_n C dX6_end_100 rfl 1 rfl ?_
    refine v_iload C dX6_end_101 6 rfl ?_
    refine v_iload C dX6_end_103 7 rfl ?_
    obtain ⟨v1, σ2, cσ2, h⟩ := bd_some h
    refine callVv C (c_X6_turnOver cσ2) km_X6_turnOver kv_X6_turnOver rfl ml_RX6_178 rfl rfl (by decide) (Nat.le_of_ble_eq_true rfl) dX6_end_105 ?_
    refine v_iinc C (v := (x3 + 1)) (lv' := [(3, .int _), (0, .ref _), (1, .int _), (2, .int _), (4, .int _), (5, .int _), (6, .int _), (7, .int _)]) dX6_end_108 3 rfl rfl (by decide) rfl ?_
    refine v_iconst C (v := (1 : Int32)) dX6_end_111 (by decide) ?_
    refine v_istore C (lv' := [(4, .int _), (3, .int _), (0, .ref _), (1, .int _), (2, .int _), (5, .int _), (6, .int _), (7, .int _)]) dX6_end_112 (by decide) rfl ?_
    refine V.sub (lv' := [(0, .ref _), (1, .int _), (2, .int _), (3, .int _), (4, .int _), (5, .int _)]) [2, 3, 4, 1, 0, 5] rfl ?_
    exact b_X6_end_114 C _ hk38 _ _ _ _ _  _ _ _ h
def f_X6_end_38 (k27 : Int32 → Int32 → Int32 → Int32 → St → Option (Int32 × St)) : Nat → Int32 → Int32 → Int32 → Int32 → Int32 → St → Option (Int32 × St)
  | 0, _, _, _, _, _, _ => none
  | n + 1, x1, x2, x3, x4, x5, σ =>
    if (((gi σ 26 0) + (1 : Int32)) * ((gi σ 26 1) + (1 : Int32))) ≤ x5 then
      k27 x1 x2 x3 x4 σ
    else
      rmI x5 ((gi σ 26 0) + (1 : Int32)) fun v1 =>
      dvI x5 ((gi σ 26 0) + (1 : Int32)) fun v2 =>
      bd (f_X6_pointOf x1 v1 v2 σ) fun v3 σ4 =>
      if x2 = 0 then
        f_X6_end_96 (f_X6_end_38 k27 n) x1 x2 x3 x4 x5 v1 v2 v3 (3 : Int32) σ4
      else
        f_X6_end_96 (f_X6_end_38 k27 n) x1 x2 x3 x4 x5 v1 v2 v3 (2 : Int32) σ4
set_option maxRecDepth 100000 in
set_option maxHeartbeats 4000000 in
theorem b_X6_end_38 {g : Geo} {x : Cx} (C : Ok g x cX6_end RX6 8 (some .int) rm_X6_end) (k27 : Int32 → Int32 → Int32 → Int32 → St → Option (Int32 × St)) (hk27 : ∀ (x1 : Int32) (x2 : Int32) (x3 : Int32) (x4 : Int32) (τ : St) (r : Int32) (τ' : St), k27 x1 x2 x3 x4 τ = some (r, τ') → V g x (qm g x (some (.int r)) τ') 8 τ [(0, .ref (g.1 26)), (1, .int x1), (2, .int x2), (3, .int x3), (4, .int x4)] [] 27) : ∀ (n : Nat) (x1 : Int32) (x2 : Int32) (x3 : Int32) (x4 : Int32) (x5 : Int32) (σ : St) (r : Int32) (σ' : St), f_X6_end_38 k27 n x1 x2 x3 x4 x5 σ = some (r, σ') → V g x (qm g x (some (.int r)) σ') 8 σ [(0, .ref (g.1 26)), (1, .int x1), (2, .int x2), (3, .int x3), (4, .int x4), (5, .int x5)] [] 38 := by
  intro n
  induction n with
  | zero =>
    intro x1 x2 x3 x4 x5 σ r σ' h
    rw [f_X6_end_38] at h
    cases h
  | succ n ih =>
    intro x1 x2 x3 x4 x5 σ r σ' h
    rw [f_X6_end_38] at h
    refine v_iload C dX6_end_38 5 rfl ?_
    refine v_aload_n C dX6_end_40 rfl 0 rfl ?_
    refine v_getI C fl_RX6_70 rfl dX6_end_41 ?_
    refine v_iconst C (v := (1 : Int32)) dX6_end_44 (by decide) ?_
    refine v_iadd C dX6_end_45 ?_
    refine v_aload_n C dX6_end_46 rfl 0 rfl ?_
    refine v_getI C fl_RX6_74 rfl dX6_end_47 ?_
    refine v_iconst C (v := (1 : Int32)) dX6_end_50 (by decide) ?_
    refine v_iadd C dX6_end_51 ?_
    refine v_imul C dX6_end_52 ?_
    refine v_icmp_ge C (tgt := 120) dX6_end_53 (by decide) (fun q6 => ?_) (fun q6 => ?_)
    · rw [if_pos q6] at h
      refine v_goto C (tgt := 27) dX6_end_120 (by decide) ?_
      refine V.sub (lv' := [(0, .ref _), (1, .int _), (2, .int _), (3, .int _), (4, .int _)]) [0, 1, 2, 3, 4] rfl ?_
      exact hk27 _ _ _ _  _ _ _ h
    · rw [if_neg q6] at h
      refine v_iload C dX6_end_56 5 rfl ?_
      refine v_aload_n C dX6_end_58 rfl 0 rfl ?_
      refine v_getI C fl_RX6_70 rfl dX6_end_59 ?_
      refine v_iconst C (v := (1 : Int32)) dX6_end_62 (by decide) ?_
      refine v_iadd C dX6_end_63 ?_
      obtain ⟨nv1, v1, ev1, h⟩ := rmI_ex h
      refine x_irem C nv1 ev1 dX6_end_64 ?_
      refine v_istore C (lv' := [(6, .int _), (0, .ref _), (1, .int _), (2, .int _), (3, .int _), (4, .int _), (5, .int _)]) dX6_end_65 (by decide) rfl ?_
      refine v_iload C dX6_end_67 6 rfl ?_
      refine v_aload_n C dX6_end_69 rfl 1 rfl ?_
      refine v_getI C fl_RX6_70 rfl dX6_end_70 ?_
      refine v_iconst C (v := (1 : Int32)) dX6_end_73 (by decide) ?_
      refine v_iadd C dX6_end_74 ?_
      obtain ⟨nv2, v2, ev2, h⟩ := dvI_ex h
      refine x_idiv C nv2 ev2 dX6_end_75 ?_
      refine v_istore C (lv' := [(7, .int _), (6, .int _), (0, .ref _), (1, .int _), (2, .int _), (3, .int _), (4, .int _), (5, .int _)]) dX6_end_76 (by decide) rfl ?_
      refine v_aload_n C dX6_end_78 rfl 2 rfl ?_
      refine v_iload_n C dX6_end_79 rfl 3 rfl ?_
      refine v_iload C dX6_end_80 1 rfl ?_
      refine v_iload C dX6_end_82 0 rfl ?_
      obtain ⟨v3, σ4, cσ4, h⟩ := bd_some h
      refine callVi C (c_X6_pointOf cσ4) km_X6_pointOf kv_X6_pointOf rfl ml_RX6_175 rfl rfl (by decide) (Nat.le_of_ble_eq_true rfl) dX6_end_84 ?_
      refine v_iload_n C dX6_end_87 rfl 4 rfl ?_
      refine v_if_eq C (tgt := 95) dX6_end_88 (by decide) (fun q5 => ?_) (fun q5 => ?_)
      · rw [if_pos q5] at h
        refine v_iconst C (v := (3 : Int32)) dX6_end_95 (by decide) ?_
        refine V.sub (lv' := [(0, .ref _), (1, .int _), (2, .int _), (3, .int _), (4, .int _), (5, .int _), (6, .int _), (7, .int _)]) [2, 3, 4, 5, 6, 7, 1, 0] rfl ?_
        exact b_X6_end_96 C _ ih _ _ _ _ _ _ _ _ _  _ _ _ h
      · rw [if_neg q5] at h
        refine v_iconst C (v := (2 : Int32)) dX6_end_91 (by decide) ?_
        refine v_goto C (tgt := 96) dX6_end_92 (by decide) ?_
        refine V.sub (lv' := [(0, .ref _), (1, .int _), (2, .int _), (3, .int _), (4, .int _), (5, .int _), (6, .int _), (7, .int _)]) [2, 3, 4, 5, 6, 7, 1, 0] rfl ?_
        exact b_X6_end_96 C _ ih _ _ _ _ _ _ _ _ _  _ _ _ h
def f_X6_end_27 : Nat → Int32 → Int32 → Int32 → Int32 → St → Option (Int32 × St)
  | 0, _, _, _, _, _ => none
  | n + 1, x1, x2, x3, x4, σ =>
    if x4 = 0 then
      some (x3, σ)
    else
      f_X6_end_38 (f_X6_end_27 n) FU x1 x2 x3 (0 : Int32) (0 : Int32) σ
set_option maxRecDepth 100000 in
set_option maxHeartbeats 4000000 in
theorem b_X6_end_27 {g : Geo} {x : Cx} (C : Ok g x cX6_end RX6 8 (some .int) rm_X6_end) : ∀ (n : Nat) (x1 : Int32) (x2 : Int32) (x3 : Int32) (x4 : Int32) (σ : St) (r : Int32) (σ' : St), f_X6_end_27 n x1 x2 x3 x4 σ = some (r, σ') → V g x (qm g x (some (.int r)) σ') 8 σ [(0, .ref (g.1 26)), (1, .int x1), (2, .int x2), (3, .int x3), (4, .int x4)] [] 27 := by
  intro n
  induction n with
  | zero =>
    intro x1 x2 x3 x4 σ r σ' h
    rw [f_X6_end_27] at h
    cases h
  | succ n ih =>
    intro x1 x2 x3 x4 σ r σ' h
    rw [f_X6_end_27] at h
    refine v_iload C dX6_end_27 4 rfl ?_
    refine v_if_eq C (tgt := 123) dX6_end_29 (by decide) (fun q1 => ?_) (fun q1 => ?_)
    · rw [if_pos q1] at h
      refine v_iload_n C dX6_end_123 rfl 3 rfl ?_
      cases h
      exact v_iret C dX6_end_124
    · rw [if_neg q1] at h
      refine v_iconst C (v := (0 : Int32)) dX6_end_32 (by decide) ?_
      refine v_istore C (lv' := [(4, .int _), (0, .ref _), (1, .int _), (2, .int _), (3, .int _)]) dX6_end_33 (by decide) rfl ?_
      refine v_iconst C (v := (0 : Int32)) dX6_end_35 (by decide) ?_
      refine v_istore C (lv' := [(5, .int _), (4, .int _), (0, .ref _), (1, .int _), (2, .int _), (3, .int _)]) dX6_end_36 (by decide) rfl ?_
      refine V.sub (lv' := [(0, .ref _), (1, .int _), (2, .int _), (3, .int _), (4, .int _), (5, .int _)]) [2, 3, 4, 5, 1, 0] rfl ?_
      exact b_X6_end_38 C _ ih FU _ _ _ _ _  _ _ _ h
def f_X6_end (a1 : Int32) (a2 : Int32) (σ : St) : Option (Int32 × St) :=
  bd (f_X6_isSlot a1 σ) fun v1 σ2 =>
  if v1 = 0 then
    some ((-900001 : Int32), σ2)
  else
    rdI σ2 29 a1 fun v3 =>
    if v3 = 0 then
      some ((-900003 : Int32), σ2)
    else
      f_X6_end_27 FU a1 a2 (0 : Int32) (1 : Int32) σ2
set_option maxRecDepth 100000 in
set_option maxHeartbeats 4000000 in
theorem c_X6_end {g : Geo} {a1 : Int32} {a2 : Int32} {σ : St} {r : Int32} {σ' : St} (h : f_X6_end a1 a2 σ = some (r, σ')) : Ct g yX6_end cX6_end 8 (some .int) rm_X6_end [.ref (g.1 26), .int a1, .int a2] σ (some (.int r)) σ' := by
  refine ct_of (own := RX6) (by decide) rfl (Nat.le_of_ble_eq_true rfl) (fun x C => ?_) ⟨rfl, rfl⟩
  show V g x _ 8 σ [(0, .ref (g.1 26)), (1, .int a1), (2, .int a2)] [] 0
  unfold f_X6_end at h
  refine v_iload_n C dX6_end_0 rfl 1 rfl ?_
  obtain ⟨v1, σ2, cσ2, h⟩ := bd_some h
  refine callSi C (c_X6_isSlot cσ2) km_X6_isSlot ks_X6_isSlot ml_RX6_155 rfl rfl (by decide) (Nat.le_of_ble_eq_true rfl) dX6_end_1 ?_
  refine v_if_ne C (tgt := 10) dX6_end_4 (by decide) (fun q5 => ?_) (fun q5 => ?_)
  · rw [if_neg q5] at h
    refine v_aload_n C dX6_end_10 rfl 0 rfl ?_
    refine v_getR C (p' := 29) fl_RX6_17 rfl rfl dX6_end_11 ?_
    refine v_iload_n C dX6_end_14 rfl 1 rfl ?_
    obtain ⟨nv3, v3, ev3, h⟩ := rdI_ex h
    refine x_zald C rfl nv3 ev3 dX6_end_15 ?_
    refine v_if_ne C (tgt := 22) dX6_end_16 (by decide) (fun q4 => ?_) (fun q4 => ?_)
    · rw [if_neg q4] at h
      refine v_iconst C (v := (0 : Int32)) dX6_end_22 (by decide) ?_
      refine v_istore_n C (lv' := [(3, .int _), (0, .ref _), (1, .int _), (2, .int _)]) dX6_end_23 rfl (by decide) rfl ?_
      refine v_iconst C (v := (1 : Int32)) dX6_end_24 (by decide) ?_
      refine v_istore C (lv' := [(4, .int _), (3, .int _), (0, .ref _), (1, .int _), (2, .int _)]) dX6_end_25 (by decide) rfl ?_
      refine V.sub (lv' := [(0, .ref _), (1, .int _), (2, .int _), (3, .int _), (4, .int _)]) [2, 3, 4, 1, 0] rfl ?_
      exact b_X6_end_27 C FU _ _ _ _  _ _ _ h
    · rw [if_pos q4] at h
      refine v_ldc C (v := (-900003 : Int32)) con_RX6_158 dX6_end_19 ?_
      cases h
      exact v_iret C dX6_end_21
  · rw [if_pos q5] at h
    refine v_ldc C (v := (-900001 : Int32)) con_RX6_97 dX6_end_7 ?_
    cases h
    exact v_iret C dX6_end_9
theorem dX6_packed_0 : decode cX6_packed 0 = .ok (.lconst 0, 1) := by decide +kernel
theorem dX6_packed_1 : decode cX6_packed 1 = .ok (.lstore_n 3, 1) := by decide +kernel
theorem dX6_packed_2 : decode cX6_packed 2 = .ok (.iconst 0, 1) := by decide +kernel
theorem dX6_packed_3 : decode cX6_packed 3 = .ok (.istore 5, 2) := by decide +kernel
theorem dX6_packed_5 : decode cX6_packed 5 = .ok (.iload 5, 2) := by decide +kernel
theorem dX6_packed_7 : decode cX6_packed 7 = .ok (.bipush 32, 2) := by decide +kernel
theorem dX6_packed_9 : decode cX6_packed 9 = .ok (.if_icmp .ge 51, 3) := by decide +kernel
theorem dX6_packed_12 : decode cX6_packed 12 = .ok (.iload_n 2, 1) := by decide +kernel
theorem dX6_packed_13 : decode cX6_packed 13 = .ok (.iload 5, 2) := by decide +kernel
theorem dX6_packed_15 : decode cX6_packed 15 = .ok (.iadd, 1) := by decide +kernel
theorem dX6_packed_16 : decode cX6_packed 16 = .ok (.aload_n 0, 1) := by decide +kernel
theorem dX6_packed_17 : decode cX6_packed 17 = .ok (.invokevirtual 80, 3) := by decide +kernel
theorem dX6_packed_20 : decode cX6_packed 20 = .ok (.if_icmp .ge 20, 3) := by decide +kernel
theorem dX6_packed_23 : decode cX6_packed 23 = .ok (.aload_n 0, 1) := by decide +kernel
theorem dX6_packed_24 : decode cX6_packed 24 = .ok (.getfield 20, 3) := by decide +kernel
theorem dX6_packed_27 : decode cX6_packed 27 = .ok (.bipush 64, 2) := by decide +kernel
theorem dX6_packed_29 : decode cX6_packed 29 = .ok (.iload_n 1, 1) := by decide +kernel
theorem dX6_packed_30 : decode cX6_packed 30 = .ok (.imul, 1) := by decide +kernel
theorem dX6_packed_31 : decode cX6_packed 31 = .ok (.iload_n 2, 1) := by decide +kernel
theorem dX6_packed_32 : decode cX6_packed 32 = .ok (.iadd, 1) := by decide +kernel
theorem dX6_packed_33 : decode cX6_packed 33 = .ok (.iload 5, 2) := by decide +kernel
theorem dX6_packed_35 : decode cX6_packed 35 = .ok (.iadd, 1) := by decide +kernel
theorem dX6_packed_36 : decode cX6_packed 36 = .ok (.iaload, 1) := by decide +kernel
theorem dX6_packed_37 : decode cX6_packed 37 = .ok (.goto 4, 3) := by decide +kernel
theorem dX6_packed_40 : decode cX6_packed 40 = .ok (.iconst 0, 1) := by decide +kernel
theorem dX6_packed_41 : decode cX6_packed 41 = .ok (.istore 6, 2) := by decide +kernel
theorem dX6_packed_43 : decode cX6_packed 43 = .ok (.lload_n 3, 1) := by decide +kernel
theorem dX6_packed_44 : decode cX6_packed 44 = .ok (.iload 6, 2) := by decide +kernel
theorem dX6_packed_46 : decode cX6_packed 46 = .ok (.i2l, 1) := by decide +kernel
theorem dX6_packed_47 : decode cX6_packed 47 = .ok (.iconst 2, 1) := by decide +kernel
theorem dX6_packed_48 : decode cX6_packed 48 = .ok (.iload 5, 2) := by decide +kernel
theorem dX6_packed_50 : decode cX6_packed 50 = .ok (.imul, 1) := by decide +kernel
theorem dX6_packed_51 : decode cX6_packed 51 = .ok (.lshl, 1) := by decide +kernel
theorem dX6_packed_52 : decode cX6_packed 52 = .ok (.lor, 1) := by decide +kernel
theorem dX6_packed_53 : decode cX6_packed 53 = .ok (.lstore_n 3, 1) := by decide +kernel
theorem dX6_packed_54 : decode cX6_packed 54 = .ok (.iinc 5 1, 3) := by decide +kernel
theorem dX6_packed_57 : decode cX6_packed 57 = .ok (.goto (-52), 3) := by decide +kernel
theorem dX6_packed_60 : decode cX6_packed 60 = .ok (.lload_n 3, 1) := by decide +kernel
theorem dX6_packed_61 : decode cX6_packed 61 = .ok (.lreturn, 1) := by decide +kernel
def f_X6_packed_41 (k5 : Int32 → Int32 → Int64 → Int32 → St → Option (Int64 × St)) (x1 : Int32) (x2 : Int32) (x3 : Int64) (x5 : Int32) (s0 : Int32) (σ : St) : Option (Int64 × St) :=
  k5 x1 x2 (x3 ||| (lshl ((s0).toInt64) ((2 : Int32) * x5))) (x5 + 1) σ
set_option maxRecDepth 100000 in
set_option maxHeartbeats 4000000 in
theorem b_X6_packed_41 {g : Geo} {x : Cx} (C : Ok g x cX6_packed RX6 7 (some .long) rm_X6_packed) (k5 : Int32 → Int32 → Int64 → Int32 → St → Option (Int64 × St)) (hk5 : ∀ (x1 : Int32) (x2 : Int32) (x3 : Int64) (x5 : Int32) (τ : St) (r : Int64) (τ' : St), k5 x1 x2 x3 x5 τ = some (r, τ') → V g x (qm g x (some (.long r)) τ') 7 τ [(0, .ref (g.1 26)), (1, .int x1), (2, .int x2), (3, .long x3), (5, .int x5)] [] 5) : ∀ (x1 : Int32) (x2 : Int32) (x3 : Int64) (x5 : Int32) (s0 : Int32) (σ : St) (r : Int64) (σ' : St), f_X6_packed_41 k5 x1 x2 x3 x5 s0 σ = some (r, σ') → V g x (qm g x (some (.long r)) σ') 7 σ [(0, .ref (g.1 26)), (1, .int x1), (2, .int x2), (3, .long x3), (5, .int x5)] [.int s0] 41 := by
  intro x1 x2 x3 x5 s0 σ r σ' h
  unfold f_X6_packed_41 at h
  refine v_istore C (lv' := [(6, .int _), (0, .ref _), (1, .int _), (2, .int _), (3, .long _), (5, .int _)]) dX6_packed_41 (by decide) rfl ?_
  refine v_lload_n C dX6_packed_43 rfl 4 rfl ?_
  refine v_iload C dX6_packed_44 0 rfl ?_
  refine v_i2l C dX6_packed_46 ?_
  refine v_iconst C (v := (2 : Int32)) dX6_packed_47 (by decide) ?_
  refine v_iload C dX6_packed_48 5 rfl ?_
  refine v_imul C dX6_packed_50 ?_
  refine v_lshl C dX6_packed_51 ?_
  refine v_lor C dX6_packed_52 ?_
  refine v_lstore_n C (lv' := [(3, .long _), (6, .int _), (0, .ref _), (1, .int _), (2, .int _), (5, .int _)]) dX6_packed_53 rfl (by decide) rfl ?_
  refine v_iinc C (v := (x5 + 1)) (lv' := [(5, .int _), (3, .long _), (6, .int _), (0, .ref _), (1, .int _), (2, .int _)]) dX6_packed_54 5 rfl rfl (by decide) rfl ?_
  refine v_goto C (tgt := 5) dX6_packed_57 (by decide) ?_
  refine V.sub (lv' := [(0, .ref _), (1, .int _), (2, .int _), (3, .long _), (5, .int _)]) [3, 4, 5, 1, 0] rfl ?_
  exact hk5 _ _ _ _  _ _ _ h
def f_X6_packed_5 : Nat → Int32 → Int32 → Int64 → Int32 → St → Option (Int64 × St)
  | 0, _, _, _, _, _ => none
  | n + 1, x1, x2, x3, x5, σ =>
    if (32 : Int32) ≤ x5 then
      some (x3, σ)
    else
      bd (f_X6_cells σ) fun v1 σ2 =>
      if v1 ≤ (x2 + x5) then
        f_X6_packed_41 (f_X6_packed_5 n) x1 x2 x3 x5 (0 : Int32) σ2
      else
        rdI σ2 30 ((((64 : Int32) * x1) + x2) + x5) fun v3 =>
        f_X6_packed_41 (f_X6_packed_5 n) x1 x2 x3 x5 v3 σ2
set_option maxRecDepth 100000 in
set_option maxHeartbeats 4000000 in
theorem b_X6_packed_5 {g : Geo} {x : Cx} (C : Ok g x cX6_packed RX6 7 (some .long) rm_X6_packed) : ∀ (n : Nat) (x1 : Int32) (x2 : Int32) (x3 : Int64) (x5 : Int32) (σ : St) (r : Int64) (σ' : St), f_X6_packed_5 n x1 x2 x3 x5 σ = some (r, σ') → V g x (qm g x (some (.long r)) σ') 7 σ [(0, .ref (g.1 26)), (1, .int x1), (2, .int x2), (3, .long x3), (5, .int x5)] [] 5 := by
  intro n
  induction n with
  | zero =>
    intro x1 x2 x3 x5 σ r σ' h
    rw [f_X6_packed_5] at h
    cases h
  | succ n ih =>
    intro x1 x2 x3 x5 σ r σ' h
    rw [f_X6_packed_5] at h
    refine v_iload C dX6_packed_5 4 rfl ?_
    refine v_bipush C (v := (32 : Int32)) dX6_packed_7 (by decide) ?_
    refine v_icmp_ge C (tgt := 60) dX6_packed_9 (by decide) (fun q5 => ?_) (fun q5 => ?_)
    · rw [if_pos q5] at h
      refine v_lload_n C dX6_packed_60 rfl 3 rfl ?_
      cases h
      exact v_lret C dX6_packed_61
    · rw [if_neg q5] at h
      refine v_iload_n C dX6_packed_12 rfl 2 rfl ?_
      refine v_iload C dX6_packed_13 4 rfl ?_
      refine v_iadd C dX6_packed_15 ?_
      refine v_aload_n C dX6_packed_16 rfl 0 rfl ?_
      obtain ⟨v1, σ2, cσ2, h⟩ := bd_some h
      refine callVi C (c_X6_cells cσ2) km_X6_cells kv_X6_cells rfl ml_RX6_80 rfl rfl (by decide) (Nat.le_of_ble_eq_true rfl) dX6_packed_17 ?_
      refine v_icmp_ge C (tgt := 40) dX6_packed_20 (by decide) (fun q4 => ?_) (fun q4 => ?_)
      · rw [if_pos q4] at h
        refine v_iconst C (v := (0 : Int32)) dX6_packed_40 (by decide) ?_
        refine V.sub (lv' := [(0, .ref _), (1, .int _), (2, .int _), (3, .long _), (5, .int _)]) [0, 1, 2, 3, 4] rfl ?_
        exact b_X6_packed_41 C _ ih _ _ _ _ _  _ _ _ h
      · rw [if_neg q4] at h
        refine v_aload_n C dX6_packed_23 rfl 0 rfl ?_
        refine v_getR C (p' := 30) fl_RX6_20 rfl rfl dX6_packed_24 ?_
        refine v_bipush C (v := (64 : Int32)) dX6_packed_27 (by decide) ?_
        refine v_iload_n C dX6_packed_29 rfl 1 rfl ?_
        refine v_imul C dX6_packed_30 ?_
        refine v_iload_n C dX6_packed_31 rfl 2 rfl ?_
        refine v_iadd C dX6_packed_32 ?_
        refine v_iload C dX6_packed_33 4 rfl ?_
        refine v_iadd C dX6_packed_35 ?_
        obtain ⟨nv3, v3, ev3, h⟩ := rdI_ex h
        refine x_iald C rfl nv3 ev3 dX6_packed_36 ?_
        refine v_goto C (tgt := 41) dX6_packed_37 (by decide) ?_
        refine V.sub (lv' := [(0, .ref _), (1, .int _), (2, .int _), (3, .long _), (5, .int _)]) [0, 1, 2, 3, 4] rfl ?_
        exact b_X6_packed_41 C _ ih _ _ _ _ _  _ _ _ h
def f_X6_packed (a1 : Int32) (a2 : Int32) (σ : St) : Option (Int64 × St) :=
  f_X6_packed_5 FU a1 a2 (0 : Int64) (0 : Int32) σ
set_option maxRecDepth 100000 in
set_option maxHeartbeats 4000000 in
theorem c_X6_packed {g : Geo} {a1 : Int32} {a2 : Int32} {σ : St} {r : Int64} {σ' : St} (h : f_X6_packed a1 a2 σ = some (r, σ')) : Ct g yX6_packed cX6_packed 7 (some .long) rm_X6_packed [.ref (g.1 26), .int a1, .int a2] σ (some (.long r)) σ' := by
  refine ct_of (own := RX6) (by decide) rfl (Nat.le_of_ble_eq_true rfl) (fun x C => ?_) ⟨rfl, rfl⟩
  show V g x _ 7 σ [(0, .ref (g.1 26)), (1, .int a1), (2, .int a2)] [] 0
  unfold f_X6_packed at h
  refine v_lconst C (v := (0 : Int64)) dX6_packed_0 (by decide) ?_
  refine v_lstore_n C (lv' := [(3, .long _), (0, .ref _), (1, .int _), (2, .int _)]) dX6_packed_1 rfl (by decide) rfl ?_
  refine v_iconst C (v := (0 : Int32)) dX6_packed_2 (by decide) ?_
  refine v_istore C (lv' := [(5, .int _), (3, .long _), (0, .ref _), (1, .int _), (2, .int _)]) dX6_packed_3 (by decide) rfl ?_
  refine V.sub (lv' := [(0, .ref _), (1, .int _), (2, .int _), (3, .long _), (5, .int _)]) [2, 3, 4, 1, 0] rfl ?_
  exact b_X6_packed_5 C FU _ _ _ _  _ _ _ h
theorem dX6_unpack_0 : decode cX6_unpack 0 = .ok (.iconst 0, 1) := by decide +kernel
theorem dX6_unpack_1 : decode cX6_unpack 1 = .ok (.istore_n 3, 1) := by decide +kernel
theorem dX6_unpack_2 : decode cX6_unpack 2 = .ok (.iload_n 3, 1) := by decide +kernel
theorem dX6_unpack_3 : decode cX6_unpack 3 = .ok (.aload_n 0, 1) := by decide +kernel
theorem dX6_unpack_4 : decode cX6_unpack 4 = .ok (.invokevirtual 80, 3) := by decide +kernel
theorem dX6_unpack_7 : decode cX6_unpack 7 = .ok (.if_icmp .ge 61, 3) := by decide +kernel
theorem dX6_unpack_10 : decode cX6_unpack 10 = .ok (.iload_n 3, 1) := by decide +kernel
theorem dX6_unpack_11 : decode cX6_unpack 11 = .ok (.bipush 32, 2) := by decide +kernel
theorem dX6_unpack_13 : decode cX6_unpack 13 = .ok (.if_icmp .ge 16, 3) := by decide +kernel
theorem dX6_unpack_16 : decode cX6_unpack 16 = .ok (.aload_n 0, 1) := by decide +kernel
theorem dX6_unpack_17 : decode cX6_unpack 17 = .ok (.getfield 39, 3) := by decide +kernel
theorem dX6_unpack_20 : decode cX6_unpack 20 = .ok (.iload_n 2, 1) := by decide +kernel
theorem dX6_unpack_21 : decode cX6_unpack 21 = .ok (.laload, 1) := by decide +kernel
theorem dX6_unpack_22 : decode cX6_unpack 22 = .ok (.iconst 2, 1) := by decide +kernel
theorem dX6_unpack_23 : decode cX6_unpack 23 = .ok (.iload_n 3, 1) := by decide +kernel
theorem dX6_unpack_24 : decode cX6_unpack 24 = .ok (.imul, 1) := by decide +kernel
theorem dX6_unpack_25 : decode cX6_unpack 25 = .ok (.lshr, 1) := by decide +kernel
theorem dX6_unpack_26 : decode cX6_unpack 26 = .ok (.goto 16, 3) := by decide +kernel
theorem dX6_unpack_29 : decode cX6_unpack 29 = .ok (.aload_n 0, 1) := by decide +kernel
theorem dX6_unpack_30 : decode cX6_unpack 30 = .ok (.getfield 42, 3) := by decide +kernel
theorem dX6_unpack_33 : decode cX6_unpack 33 = .ok (.iload_n 2, 1) := by decide +kernel
theorem dX6_unpack_34 : decode cX6_unpack 34 = .ok (.laload, 1) := by decide +kernel
theorem dX6_unpack_35 : decode cX6_unpack 35 = .ok (.iconst 2, 1) := by decide +kernel
theorem dX6_unpack_36 : decode cX6_unpack 36 = .ok (.iload_n 3, 1) := by decide +kernel
theorem dX6_unpack_37 : decode cX6_unpack 37 = .ok (.bipush 32, 2) := by decide +kernel
theorem dX6_unpack_39 : decode cX6_unpack 39 = .ok (.isub, 1) := by decide +kernel
theorem dX6_unpack_40 : decode cX6_unpack 40 = .ok (.imul, 1) := by decide +kernel
theorem dX6_unpack_41 : decode cX6_unpack 41 = .ok (.lshr, 1) := by decide +kernel
theorem dX6_unpack_42 : decode cX6_unpack 42 = .ok (.lstore 4, 2) := by decide +kernel
theorem dX6_unpack_44 : decode cX6_unpack 44 = .ok (.aload_n 0, 1) := by decide +kernel
theorem dX6_unpack_45 : decode cX6_unpack 45 = .ok (.getfield 20, 3) := by decide +kernel
theorem dX6_unpack_48 : decode cX6_unpack 48 = .ok (.bipush 64, 2) := by decide +kernel
theorem dX6_unpack_50 : decode cX6_unpack 50 = .ok (.iload_n 1, 1) := by decide +kernel
theorem dX6_unpack_51 : decode cX6_unpack 51 = .ok (.imul, 1) := by decide +kernel
theorem dX6_unpack_52 : decode cX6_unpack 52 = .ok (.iload_n 3, 1) := by decide +kernel
theorem dX6_unpack_53 : decode cX6_unpack 53 = .ok (.iadd, 1) := by decide +kernel
theorem dX6_unpack_54 : decode cX6_unpack 54 = .ok (.lload 4, 2) := by decide +kernel
theorem dX6_unpack_56 : decode cX6_unpack 56 = .ok (.ldc2_w 153, 3) := by decide +kernel
theorem dX6_unpack_59 : decode cX6_unpack 59 = .ok (.land, 1) := by decide +kernel
theorem dX6_unpack_60 : decode cX6_unpack 60 = .ok (.l2i, 1) := by decide +kernel
theorem dX6_unpack_61 : decode cX6_unpack 61 = .ok (.iastore, 1) := by decide +kernel
theorem dX6_unpack_62 : decode cX6_unpack 62 = .ok (.iinc 3 1, 3) := by decide +kernel
theorem dX6_unpack_65 : decode cX6_unpack 65 = .ok (.goto (-63), 3) := by decide +kernel
theorem dX6_unpack_68 : decode cX6_unpack 68 = .ok (.return_, 1) := by decide +kernel
def f_X6_unpack_42 (k2 : Int32 → Int32 → Int32 → St → Option (Unit × St)) (x1 : Int32) (x2 : Int32) (x3 : Int32) (s0 : Int64) (σ : St) : Option (Unit × St) :=
  wrI σ 30 (((64 : Int32) * x1) + x3) (((s0 &&& (3 : Int64))).toInt32) fun σ1 =>
  k2 x1 x2 (x3 + 1) σ1
set_option maxRecDepth 100000 in
set_option maxHeartbeats 4000000 in
theorem b_X6_unpack_42 {g : Geo} {x : Cx} (C : Ok g x cX6_unpack RX6 6 none rm_X6_unpack) (k2 : Int32 → Int32 → Int32 → St → Option (Unit × St)) (hk2 : ∀ (x1 : Int32) (x2 : Int32) (x3 : Int32) (τ : St) (r : Unit) (τ' : St), k2 x1 x2 x3 τ = some (r, τ') → V g x (qm g x none τ') 6 τ [(0, .ref (g.1 26)), (1, .int x1), (2, .int x2), (3, .int x3)] [] 2) : ∀ (x1 : Int32) (x2 : Int32) (x3 : Int32) (s0 : Int64) (σ : St) (r : Unit) (σ' : St), f_X6_unpack_42 k2 x1 x2 x3 s0 σ = some (r, σ') → V g x (qm g x none σ') 6 σ [(0, .ref (g.1 26)), (1, .int x1), (2, .int x2), (3, .int x3)] [.long s0] 42 := by
  intro x1 x2 x3 s0 σ r σ' h
  unfold f_X6_unpack_42 at h
  refine v_lstore C (lv' := [(4, .long _), (0, .ref _), (1, .int _), (2, .int _), (3, .int _)]) dX6_unpack_42 (by decide) rfl ?_
  refine v_aload_n C dX6_unpack_44 rfl 1 rfl ?_
  refine v_getR C (p' := 30) fl_RX6_20 rfl rfl dX6_unpack_45 ?_
  refine v_bipush C (v := (64 : Int32)) dX6_unpack_48 (by decide) ?_
  refine v_iload_n C dX6_unpack_50 rfl 2 rfl ?_
  refine v_imul C dX6_unpack_51 ?_
  refine v_iload_n C dX6_unpack_52 rfl 4 rfl ?_
  refine v_iadd C dX6_unpack_53 ?_
  refine v_lload C dX6_unpack_54 0 rfl ?_
  refine v_ldc2_w C (v := (3 : Int64)) conl_RX6_153 dX6_unpack_56 ?_
  refine v_land C dX6_unpack_59 ?_
  refine v_l2i C dX6_unpack_60 ?_
  obtain ⟨nσ1, σ1, eσ1, h⟩ := wrI_ex h
  refine x_iast C rfl nσ1 eσ1 dX6_unpack_61 ?_
  refine v_iinc C (v := (x3 + 1)) (lv' := [(3, .int _), (4, .long _), (0, .ref _), (1, .int _), (2, .int _)]) dX6_unpack_62 4 rfl rfl (by decide) rfl ?_
  refine v_goto C (tgt := 2) dX6_unpack_65 (by decide) ?_
  refine V.sub (lv' := [(0, .ref _), (1, .int _), (2, .int _), (3, .int _)]) [2, 3, 4, 0] rfl ?_
  exact hk2 _ _ _  _ _ _ h
def f_X6_unpack_2 : Nat → Int32 → Int32 → Int32 → St → Option (Unit × St)
  | 0, _, _, _, _ => none
  | n + 1, x1, x2, x3, σ =>
    bd (f_X6_cells σ) fun v1 σ2 =>
    if v1 ≤ x3 then
      some ((), σ2)
    else
      if (32 : Int32) ≤ x3 then
        rdL σ2 37 x2 fun v3 =>
        f_X6_unpack_42 (f_X6_unpack_2 n) x1 x2 x3 (lshr v3 ((2 : Int32) * (x3 - (32 : Int32)))) σ2
      else
        rdL σ2 36 x2 fun v4 =>
        f_X6_unpack_42 (f_X6_unpack_2 n) x1 x2 x3 (lshr v4 ((2 : Int32) * x3)) σ2
set_option maxRecDepth 100000 in
set_option maxHeartbeats 4000000 in
theorem b_X6_unpack_2 {g : Geo} {x : Cx} (C : Ok g x cX6_unpack RX6 6 none rm_X6_unpack) : ∀ (n : Nat) (x1 : Int32) (x2 : Int32) (x3 : Int32) (σ : St) (r : Unit) (σ' : St), f_X6_unpack_2 n x1 x2 x3 σ = some (r, σ') → V g x (qm g x none σ') 6 σ [(0, .ref (g.1 26)), (1, .int x1), (2, .int x2), (3, .int x3)] [] 2 := by
  intro n
  induction n with
  | zero =>
    intro x1 x2 x3 σ r σ' h
    rw [f_X6_unpack_2] at h
    cases h
  | succ n ih =>
    intro x1 x2 x3 σ r σ' h
    rw [f_X6_unpack_2] at h
    refine v_iload_n C dX6_unpack_2 rfl 3 rfl ?_
    refine v_aload_n C dX6_unpack_3 rfl 0 rfl ?_
    obtain ⟨v1, σ2, cσ2, h⟩ := bd_some h
    refine callVi C (c_X6_cells cσ2) km_X6_cells kv_X6_cells rfl ml_RX6_80 rfl rfl (by decide) (Nat.le_of_ble_eq_true rfl) dX6_unpack_4 ?_
    refine v_icmp_ge C (tgt := 68) dX6_unpack_7 (by decide) (fun q6 => ?_) (fun q6 => ?_)
    · rw [if_pos q6] at h
      cases h
      exact v_vret C dX6_unpack_68
    · rw [if_neg q6] at h
      refine v_iload_n C dX6_unpack_10 rfl 3 rfl ?_
      refine v_bipush C (v := (32 : Int32)) dX6_unpack_11 (by decide) ?_
      refine v_icmp_ge C (tgt := 29) dX6_unpack_13 (by decide) (fun q5 => ?_) (fun q5 => ?_)
      · rw [if_pos q5] at h
        refine v_aload_n C dX6_unpack_29 rfl 0 rfl ?_
        refine v_getR C (p' := 37) fl_RX6_42 rfl rfl dX6_unpack_30 ?_
        refine v_iload_n C dX6_unpack_33 rfl 2 rfl ?_
        obtain ⟨nv3, v3, ev3, h⟩ := rdL_ex h
        refine x_lald C rfl nv3 ev3 dX6_unpack_34 ?_
        refine v_iconst C (v := (2 : Int32)) dX6_unpack_35 (by decide) ?_
        refine v_iload_n C dX6_unpack_36 rfl 3 rfl ?_
        refine v_bipush C (v := (32 : Int32)) dX6_unpack_37 (by decide) ?_
        refine v_isub C dX6_unpack_39 ?_
        refine v_imul C dX6_unpack_40 ?_
        refine v_lshr C dX6_unpack_41 ?_
        refine V.sub (lv' := [(0, .ref _), (1, .int _), (2, .int _), (3, .int _)]) [0, 1, 2, 3] rfl ?_
        exact b_X6_unpack_42 C _ ih _ _ _ _  _ _ _ h
      · rw [if_neg q5] at h
        refine v_aload_n C dX6_unpack_16 rfl 0 rfl ?_
        refine v_getR C (p' := 36) fl_RX6_39 rfl rfl dX6_unpack_17 ?_
        refine v_iload_n C dX6_unpack_20 rfl 2 rfl ?_
        obtain ⟨nv4, v4, ev4, h⟩ := rdL_ex h
        refine x_lald C rfl nv4 ev4 dX6_unpack_21 ?_
        refine v_iconst C (v := (2 : Int32)) dX6_unpack_22 (by decide) ?_
        refine v_iload_n C dX6_unpack_23 rfl 3 rfl ?_
        refine v_imul C dX6_unpack_24 ?_
        refine v_lshr C dX6_unpack_25 ?_
        refine v_goto C (tgt := 42) dX6_unpack_26 (by decide) ?_
        refine V.sub (lv' := [(0, .ref _), (1, .int _), (2, .int _), (3, .int _)]) [0, 1, 2, 3] rfl ?_
        exact b_X6_unpack_42 C _ ih _ _ _ _  _ _ _ h
def f_X6_unpack (a1 : Int32) (a2 : Int32) (σ : St) : Option (Unit × St) :=
  f_X6_unpack_2 FU a1 a2 (0 : Int32) σ
set_option maxRecDepth 100000 in
set_option maxHeartbeats 4000000 in
theorem c_X6_unpack {g : Geo} {a1 : Int32} {a2 : Int32} {σ : St} {r : Unit} {σ' : St} (h : f_X6_unpack a1 a2 σ = some (r, σ')) : Ct g yX6_unpack cX6_unpack 6 none rm_X6_unpack [.ref (g.1 26), .int a1, .int a2] σ none σ' := by
  refine ct_of (own := RX6) (by decide) rfl (Nat.le_of_ble_eq_true rfl) (fun x C => ?_) ⟨rfl, rfl⟩
  show V g x _ 6 σ [(0, .ref (g.1 26)), (1, .int a1), (2, .int a2)] [] 0
  unfold f_X6_unpack at h
  refine v_iconst C (v := (0 : Int32)) dX6_unpack_0 (by decide) ?_
  refine v_istore_n C (lv' := [(3, .int _), (0, .ref _), (1, .int _), (2, .int _)]) dX6_unpack_1 rfl (by decide) rfl ?_
  refine V.sub (lv' := [(0, .ref _), (1, .int _), (2, .int _), (3, .int _)]) [1, 2, 3, 0] rfl ?_
  exact b_X6_unpack_2 C FU _ _ _  _ _ _ h
theorem dX6_meet_0 : decode cX6_meet 0 = .ok (.aload_n 0, 1) := by decide +kernel
theorem dX6_meet_1 : decode cX6_meet 1 = .ok (.iload_n 1, 1) := by decide +kernel
theorem dX6_meet_2 : decode cX6_meet 2 = .ok (.iconst 0, 1) := by decide +kernel
theorem dX6_meet_3 : decode cX6_meet 3 = .ok (.invokevirtual 196, 3) := by decide +kernel
theorem dX6_meet_6 : decode cX6_meet 6 = .ok (.lstore_n 2, 1) := by decide +kernel
theorem dX6_meet_7 : decode cX6_meet 7 = .ok (.aload_n 0, 1) := by decide +kernel
theorem dX6_meet_8 : decode cX6_meet 8 = .ok (.iload_n 1, 1) := by decide +kernel
theorem dX6_meet_9 : decode cX6_meet 9 = .ok (.bipush 32, 2) := by decide +kernel
theorem dX6_meet_11 : decode cX6_meet 11 = .ok (.invokevirtual 196, 3) := by decide +kernel
theorem dX6_meet_14 : decode cX6_meet 14 = .ok (.lstore 4, 2) := by decide +kernel
theorem dX6_meet_16 : decode cX6_meet 16 = .ok (.lload_n 2, 1) := by decide +kernel
theorem dX6_meet_17 : decode cX6_meet 17 = .ok (.ldc2_w 199, 3) := by decide +kernel
theorem dX6_meet_20 : decode cX6_meet 20 = .ok (.lmul, 1) := by decide +kernel
theorem dX6_meet_21 : decode cX6_meet 21 = .ok (.lload 4, 2) := by decide +kernel
theorem dX6_meet_23 : decode cX6_meet 23 = .ok (.ldc2_w 201, 3) := by decide +kernel
theorem dX6_meet_26 : decode cX6_meet 26 = .ok (.lmul, 1) := by decide +kernel
theorem dX6_meet_27 : decode cX6_meet 27 = .ok (.ladd, 1) := by decide +kernel
theorem dX6_meet_28 : decode cX6_meet 28 = .ok (.lload_n 2, 1) := by decide +kernel
theorem dX6_meet_29 : decode cX6_meet 29 = .ok (.bipush 29, 2) := by decide +kernel
theorem dX6_meet_31 : decode cX6_meet 31 = .ok (.lshr, 1) := by decide +kernel
theorem dX6_meet_32 : decode cX6_meet 32 = .ok (.ladd, 1) := by decide +kernel
theorem dX6_meet_33 : decode cX6_meet 33 = .ok (.lload 4, 2) := by decide +kernel
theorem dX6_meet_35 : decode cX6_meet 35 = .ok (.bipush 23, 2) := by decide +kernel
theorem dX6_meet_37 : decode cX6_meet 37 = .ok (.lshr, 1) := by decide +kernel
theorem dX6_meet_38 : decode cX6_meet 38 = .ok (.ladd, 1) := by decide +kernel
theorem dX6_meet_39 : decode cX6_meet 39 = .ok (.lload_n 2, 1) := by decide +kernel
theorem dX6_meet_40 : decode cX6_meet 40 = .ok (.bipush 11, 2) := by decide +kernel
theorem dX6_meet_42 : decode cX6_meet 42 = .ok (.lshr, 1) := by decide +kernel
theorem dX6_meet_43 : decode cX6_meet 43 = .ok (.ladd, 1) := by decide +kernel
theorem dX6_meet_44 : decode cX6_meet 44 = .ok (.lstore 6, 2) := by decide +kernel
theorem dX6_meet_46 : decode cX6_meet 46 = .ok (.lload 6, 2) := by decide +kernel
theorem dX6_meet_48 : decode cX6_meet 48 = .ok (.ldc2_w 203, 3) := by decide +kernel
theorem dX6_meet_51 : decode cX6_meet 51 = .ok (.land, 1) := by decide +kernel
theorem dX6_meet_52 : decode cX6_meet 52 = .ok (.l2i, 1) := by decide +kernel
theorem dX6_meet_53 : decode cX6_meet 53 = .ok (.istore 8, 2) := by decide +kernel
theorem dX6_meet_55 : decode cX6_meet 55 = .ok (.aload_n 0, 1) := by decide +kernel
theorem dX6_meet_56 : decode cX6_meet 56 = .ok (.getfield 45, 3) := by decide +kernel
theorem dX6_meet_59 : decode cX6_meet 59 = .ok (.iload 8, 2) := by decide +kernel
theorem dX6_meet_61 : decode cX6_meet 61 = .ok (.iaload, 1) := by decide +kernel
theorem dX6_meet_62 : decode cX6_meet 62 = .ok (.ifCond .eq 54, 3) := by decide +kernel
theorem dX6_meet_65 : decode cX6_meet 65 = .ok (.aload_n 0, 1) := by decide +kernel
theorem dX6_meet_66 : decode cX6_meet 66 = .ok (.getfield 45, 3) := by decide +kernel
theorem dX6_meet_69 : decode cX6_meet 69 = .ok (.iload 8, 2) := by decide +kernel
theorem dX6_meet_71 : decode cX6_meet 71 = .ok (.iaload, 1) := by decide +kernel
theorem dX6_meet_72 : decode cX6_meet 72 = .ok (.iconst 1, 1) := by decide +kernel
theorem dX6_meet_73 : decode cX6_meet 73 = .ok (.isub, 1) := by decide +kernel
theorem dX6_meet_74 : decode cX6_meet 74 = .ok (.istore 9, 2) := by decide +kernel
theorem dX6_meet_76 : decode cX6_meet 76 = .ok (.aload_n 0, 1) := by decide +kernel
theorem dX6_meet_77 : decode cX6_meet 77 = .ok (.getfield 39, 3) := by decide +kernel
theorem dX6_meet_80 : decode cX6_meet 80 = .ok (.iload 9, 2) := by decide +kernel
theorem dX6_meet_82 : decode cX6_meet 82 = .ok (.laload, 1) := by decide +kernel
theorem dX6_meet_83 : decode cX6_meet 83 = .ok (.lload_n 2, 1) := by decide +kernel
theorem dX6_meet_84 : decode cX6_meet 84 = .ok (.lcmp, 1) := by decide +kernel
theorem dX6_meet_85 : decode cX6_meet 85 = .ok (.ifCond .ne 18, 3) := by decide +kernel
theorem dX6_meet_88 : decode cX6_meet 88 = .ok (.aload_n 0, 1) := by decide +kernel
theorem dX6_meet_89 : decode cX6_meet 89 = .ok (.getfield 42, 3) := by decide +kernel
theorem dX6_meet_92 : decode cX6_meet 92 = .ok (.iload 9, 2) := by decide +kernel
theorem dX6_meet_94 : decode cX6_meet 94 = .ok (.laload, 1) := by decide +kernel
theorem dX6_meet_95 : decode cX6_meet 95 = .ok (.lload 4, 2) := by decide +kernel
theorem dX6_meet_97 : decode cX6_meet 97 = .ok (.lcmp, 1) := by decide +kernel
theorem dX6_meet_98 : decode cX6_meet 98 = .ok (.ifCond .ne 5, 3) := by decide +kernel
theorem dX6_meet_101 : decode cX6_meet 101 = .ok (.iconst 1, 1) := by decide +kernel
theorem dX6_meet_102 : decode cX6_meet 102 = .ok (.ireturn, 1) := by decide +kernel
theorem dX6_meet_103 : decode cX6_meet 103 = .ok (.iload 8, 2) := by decide +kernel
theorem dX6_meet_105 : decode cX6_meet 105 = .ok (.iconst 1, 1) := by decide +kernel
theorem dX6_meet_106 : decode cX6_meet 106 = .ok (.iadd, 1) := by decide +kernel
theorem dX6_meet_107 : decode cX6_meet 107 = .ok (.sipush 4096, 3) := by decide +kernel
theorem dX6_meet_110 : decode cX6_meet 110 = .ok (.irem, 1) := by decide +kernel
theorem dX6_meet_111 : decode cX6_meet 111 = .ok (.istore 8, 2) := by decide +kernel
theorem dX6_meet_113 : decode cX6_meet 113 = .ok (.goto (-58), 3) := by decide +kernel
theorem dX6_meet_116 : decode cX6_meet 116 = .ok (.aload_n 0, 1) := by decide +kernel
theorem dX6_meet_117 : decode cX6_meet 117 = .ok (.getfield 205, 3) := by decide +kernel
theorem dX6_meet_120 : decode cX6_meet 120 = .ok (.sipush 2000, 3) := by decide +kernel
theorem dX6_meet_123 : decode cX6_meet 123 = .ok (.if_icmp .ne 5, 3) := by decide +kernel
theorem dX6_meet_126 : decode cX6_meet 126 = .ok (.iconst 0, 1) := by decide +kernel
theorem dX6_meet_127 : decode cX6_meet 127 = .ok (.ireturn, 1) := by decide +kernel
theorem dX6_meet_128 : decode cX6_meet 128 = .ok (.aload_n 0, 1) := by decide +kernel
theorem dX6_meet_129 : decode cX6_meet 129 = .ok (.getfield 39, 3) := by decide +kernel
theorem dX6_meet_132 : decode cX6_meet 132 = .ok (.aload_n 0, 1) := by decide +kernel
theorem dX6_meet_133 : decode cX6_meet 133 = .ok (.getfield 205, 3) := by decide +kernel
theorem dX6_meet_136 : decode cX6_meet 136 = .ok (.lload_n 2, 1) := by decide +kernel
theorem dX6_meet_137 : decode cX6_meet 137 = .ok (.lastore, 1) := by decide +kernel
theorem dX6_meet_138 : decode cX6_meet 138 = .ok (.aload_n 0, 1) := by decide +kernel
theorem dX6_meet_139 : decode cX6_meet 139 = .ok (.getfield 42, 3) := by decide +kernel
theorem dX6_meet_142 : decode cX6_meet 142 = .ok (.aload_n 0, 1) := by decide +kernel
theorem dX6_meet_143 : decode cX6_meet 143 = .ok (.getfield 205, 3) := by decide +kernel
theorem dX6_meet_146 : decode cX6_meet 146 = .ok (.lload 4, 2) := by decide +kernel
theorem dX6_meet_148 : decode cX6_meet 148 = .ok (.lastore, 1) := by decide +kernel
theorem dX6_meet_149 : decode cX6_meet 149 = .ok (.aload_n 0, 1) := by decide +kernel
theorem dX6_meet_150 : decode cX6_meet 150 = .ok (.dup, 1) := by decide +kernel
theorem dX6_meet_151 : decode cX6_meet 151 = .ok (.getfield 205, 3) := by decide +kernel
theorem dX6_meet_154 : decode cX6_meet 154 = .ok (.iconst 1, 1) := by decide +kernel
theorem dX6_meet_155 : decode cX6_meet 155 = .ok (.iadd, 1) := by decide +kernel
theorem dX6_meet_156 : decode cX6_meet 156 = .ok (.putfield 205, 3) := by decide +kernel
theorem dX6_meet_159 : decode cX6_meet 159 = .ok (.aload_n 0, 1) := by decide +kernel
theorem dX6_meet_160 : decode cX6_meet 160 = .ok (.getfield 45, 3) := by decide +kernel
theorem dX6_meet_163 : decode cX6_meet 163 = .ok (.iload 8, 2) := by decide +kernel
theorem dX6_meet_165 : decode cX6_meet 165 = .ok (.aload_n 0, 1) := by decide +kernel
theorem dX6_meet_166 : decode cX6_meet 166 = .ok (.getfield 205, 3) := by decide +kernel
theorem dX6_meet_169 : decode cX6_meet 169 = .ok (.iastore, 1) := by decide +kernel
theorem dX6_meet_170 : decode cX6_meet 170 = .ok (.iconst 1, 1) := by decide +kernel
theorem dX6_meet_171 : decode cX6_meet 171 = .ok (.ireturn, 1) := by decide +kernel
def f_X6_meet_103 (k55 : Int64 → Int64 → Int32 → St → Option (Int32 × St)) (x2 : Int64) (x4 : Int64) (x8 : Int32) (σ : St) : Option (Int32 × St) :=
  rmI (x8 + (1 : Int32)) (4096 : Int32) fun v1 =>
  k55 x2 x4 v1 σ
set_option maxRecDepth 100000 in
set_option maxHeartbeats 4000000 in
theorem b_X6_meet_103 {g : Geo} {x : Cx} (C : Ok g x cX6_meet RX6 10 (some .boolean) rm_X6_meet) (k55 : Int64 → Int64 → Int32 → St → Option (Int32 × St)) (hk55 : ∀ (x2 : Int64) (x4 : Int64) (x8 : Int32) (τ : St) (r : Int32) (τ' : St), k55 x2 x4 x8 τ = some (r, τ') → V g x (qm g x (some (.int r)) τ') 10 τ [(0, .ref (g.1 26)), (2, .long x2), (4, .long x4), (8, .int x8)] [] 55) : ∀ (x2 : Int64) (x4 : Int64) (x8 : Int32) (σ : St) (r : Int32) (σ' : St), f_X6_meet_103 k55 x2 x4 x8 σ = some (r, σ') → V g x (qm g x (some (.int r)) σ') 10 σ [(0, .ref (g.1 26)), (2, .long x2), (4, .long x4), (8, .int x8)] [] 103 := by
  intro x2 x4 x8 σ r σ' h
  unfold f_X6_meet_103 at h
  refine v_iload C dX6_meet_103 3 rfl ?_
  refine v_iconst C (v := (1 : Int32)) dX6_meet_105 (by decide) ?_
  refine v_iadd C dX6_meet_106 ?_
  refine v_sipush C (v := (4096 : Int32)) dX6_meet_107 (by decide) ?_
  obtain ⟨nv1, v1, ev1, h⟩ := rmI_ex h
  refine x_irem C nv1 ev1 dX6_meet_110 ?_
  refine v_istore C (lv' := [(8, .int _), (0, .ref _), (2, .long _), (4, .long _)]) dX6_meet_111 (by decide) rfl ?_
  refine v_goto C (tgt := 55) dX6_meet_113 (by decide) ?_
  refine V.sub (lv' := [(0, .ref _), (2, .long _), (4, .long _), (8, .int _)]) [1, 2, 3, 0] rfl ?_
  exact hk55 _ _ _  _ _ _ h
def f_X6_meet_55 : Nat → Int64 → Int64 → Int32 → St → Option (Int32 × St)
  | 0, _, _, _, _ => none
  | n + 1, x2, x4, x8, σ =>
    rdI σ 38 x8 fun v1 =>
    if v1 = 0 then
      if (gi σ 26 14) = (2000 : Int32) then
        some ((0 : Int32), σ)
      else
        wrL σ 36 (gi σ 26 14) x2 fun σ2 =>
        wrL σ2 37 (gi σ2 26 14) x4 fun σ3 =>
        fI σ3 26 14 ((gi σ3 26 14) + (1 : Int32)) fun σ4 =>
        wrI σ4 38 x8 (gi σ4 26 14) fun σ5 =>
        some ((1 : Int32), σ5)
    else
      rdI σ 38 x8 fun v7 =>
      rdL σ 36 (v7 - (1 : Int32)) fun v8 =>
      if v8 = x2 then
        rdL σ 37 (v7 - (1 : Int32)) fun v9 =>
        if v9 = x4 then
          some ((1 : Int32), σ)
        else
          f_X6_meet_103 (f_X6_meet_55 n) x2 x4 x8 σ
      else
        f_X6_meet_103 (f_X6_meet_55 n) x2 x4 x8 σ
set_option maxRecDepth 100000 in
set_option maxHeartbeats 4000000 in
theorem b_X6_meet_55 {g : Geo} {x : Cx} (C : Ok g x cX6_meet RX6 10 (some .boolean) rm_X6_meet) : ∀ (n : Nat) (x2 : Int64) (x4 : Int64) (x8 : Int32) (σ : St) (r : Int32) (σ' : St), f_X6_meet_55 n x2 x4 x8 σ = some (r, σ') → V g x (qm g x (some (.int r)) σ') 10 σ [(0, .ref (g.1 26)), (2, .long x2), (4, .long x4), (8, .int x8)] [] 55 := by
  intro n
  induction n with
  | zero =>
    intro x2 x4 x8 σ r σ' h
    rw [f_X6_meet_55] at h
    cases h
  | succ n ih =>
    intro x2 x4 x8 σ r σ' h
    rw [f_X6_meet_55] at h
    refine v_aload_n C dX6_meet_55 rfl 0 rfl ?_
    refine v_getR C (p' := 38) fl_RX6_45 rfl rfl dX6_meet_56 ?_
    refine v_iload C dX6_meet_59 3 rfl ?_
    obtain ⟨nv1, v1, ev1, h⟩ := rdI_ex h
    refine x_iald C rfl nv1 ev1 dX6_meet_61 ?_
    refine v_if_eq C (tgt := 116) dX6_meet_62 (by decide) (fun q12 => ?_) (fun q12 => ?_)
    · rw [if_pos q12] at h
      refine v_aload_n C dX6_meet_116 rfl 0 rfl ?_
      refine v_getI C fl_RX6_205 rfl dX6_meet_117 ?_
      refine v_sipush C (v := (2000 : Int32)) dX6_meet_120 (by decide) ?_
      refine v_icmp_ne C (tgt := 128) dX6_meet_123 (by decide) (fun q6 => ?_) (fun q6 => ?_)
      · rw [if_neg q6] at h
        refine v_aload_n C dX6_meet_128 rfl 0 rfl ?_
        refine v_getR C (p' := 36) fl_RX6_39 rfl rfl dX6_meet_129 ?_
        refine v_aload_n C dX6_meet_132 rfl 0 rfl ?_
        refine v_getI C fl_RX6_205 rfl dX6_meet_133 ?_
        refine v_lload_n C dX6_meet_136 rfl 1 rfl ?_
        obtain ⟨nσ2, σ2, eσ2, h⟩ := wrL_ex h
        refine x_last C rfl nσ2 eσ2 dX6_meet_137 ?_
        refine v_aload_n C dX6_meet_138 rfl 0 rfl ?_
        refine v_getR C (p' := 37) fl_RX6_42 rfl rfl dX6_meet_139 ?_
        refine v_aload_n C dX6_meet_142 rfl 0 rfl ?_
        refine v_getI C fl_RX6_205 rfl dX6_meet_143 ?_
        refine v_lload C dX6_meet_146 2 rfl ?_
        obtain ⟨nσ3, σ3, eσ3, h⟩ := wrL_ex h
        refine x_last C rfl nσ3 eσ3 dX6_meet_148 ?_
        refine v_aload_n C dX6_meet_149 rfl 0 rfl ?_
        refine v_dup C dX6_meet_150 rfl ?_
        refine v_getI C fl_RX6_205 rfl dX6_meet_151 ?_
        refine v_iconst C (v := (1 : Int32)) dX6_meet_154 (by decide) ?_
        refine v_iadd C dX6_meet_155 ?_
        obtain ⟨σ4, eσ4, h⟩ := fI_ex h
        refine x_putI C fl_RX6_205 fw_6_14 rfl eσ4 dX6_meet_156 ?_
        refine v_aload_n C dX6_meet_159 rfl 0 rfl ?_
        refine v_getR C (p' := 38) fl_RX6_45 rfl rfl dX6_meet_160 ?_
        refine v_iload C dX6_meet_163 3 rfl ?_
        refine v_aload_n C dX6_meet_165 rfl 0 rfl ?_
        refine v_getI C fl_RX6_205 rfl dX6_meet_166 ?_
        obtain ⟨nσ5, σ5, eσ5, h⟩ := wrI_ex h
        refine x_iast C rfl nσ5 eσ5 dX6_meet_169 ?_
        refine v_iconst C (v := (1 : Int32)) dX6_meet_170 (by decide) ?_
        cases h
        exact v_zret C (Or.inr rfl) dX6_meet_171
      · rw [if_pos q6] at h
        refine v_iconst C (v := (0 : Int32)) dX6_meet_126 (by decide) ?_
        cases h
        exact v_zret C (Or.inl rfl) dX6_meet_127
    · rw [if_neg q12] at h
      refine v_aload_n C dX6_meet_65 rfl 0 rfl ?_
      refine v_getR C (p' := 38) fl_RX6_45 rfl rfl dX6_meet_66 ?_
      refine v_iload C dX6_meet_69 3 rfl ?_
      obtain ⟨nv7, v7, ev7, h⟩ := rdI_ex h
      refine x_iald C rfl nv7 ev7 dX6_meet_71 ?_
      refine v_iconst C (v := (1 : Int32)) dX6_meet_72 (by decide) ?_
      refine v_isub C dX6_meet_73 ?_
      refine v_istore C (lv' := [(9, .int _), (0, .ref _), (2, .long _), (4, .long _), (8, .int _)]) dX6_meet_74 (by decide) rfl ?_
      refine v_aload_n C dX6_meet_76 rfl 1 rfl ?_
      refine v_getR C (p' := 36) fl_RX6_39 rfl rfl dX6_meet_77 ?_
      refine v_iload C dX6_meet_80 0 rfl ?_
      obtain ⟨nv8, v8, ev8, h⟩ := rdL_ex h
      refine x_lald C rfl nv8 ev8 dX6_meet_82 ?_
      refine v_lload_n C dX6_meet_83 rfl 2 rfl ?_
      refine v_lcmp_ne C (tgt := 103) dX6_meet_84 dX6_meet_85 (by decide) (fun q11 => ?_) (fun q11 => ?_)
      · rw [if_neg q11] at h
        refine V.sub (lv' := [(0, .ref _), (2, .long _), (4, .long _), (8, .int _)]) [1, 2, 3, 4] rfl ?_
        exact b_X6_meet_103 C _ ih _ _ _  _ _ _ h
      · rw [if_pos q11] at h
        refine v_aload_n C dX6_meet_88 rfl 1 rfl ?_
        refine v_getR C (p' := 37) fl_RX6_42 rfl rfl dX6_meet_89 ?_
        refine v_iload C dX6_meet_92 0 rfl ?_
        obtain ⟨nv9, v9, ev9, h⟩ := rdL_ex h
        refine x_lald C rfl nv9 ev9 dX6_meet_94 ?_
        refine v_lload C dX6_meet_95 3 rfl ?_
        refine v_lcmp_ne C (tgt := 103) dX6_meet_97 dX6_meet_98 (by decide) (fun q10 => ?_) (fun q10 => ?_)
        · rw [if_neg q10] at h
          refine V.sub (lv' := [(0, .ref _), (2, .long _), (4, .long _), (8, .int _)]) [1, 2, 3, 4] rfl ?_
          exact b_X6_meet_103 C _ ih _ _ _  _ _ _ h
        · rw [if_pos q10] at h
          refine v_iconst C (v := (1 : Int32)) dX6_meet_101 (by decide) ?_
          cases h
          exact v_zret C (Or.inr rfl) dX6_meet_102
def f_X6_meet (a1 : Int32) (σ : St) : Option (Int32 × St) :=
  bd (f_X6_packed a1 (0 : Int32) σ) fun v1 σ2 =>
  bd (f_X6_packed a1 (32 : Int32) σ2) fun v3 σ4 =>
  f_X6_meet_55 FU v1 v3 ((((((((v1 * (31 : Int64)) + (v3 * (17 : Int64))) + (lshr v1 (29 : Int32))) + (lshr v3 (23 : Int32))) + (lshr v1 (11 : Int32))) &&& (4095 : Int64))).toInt32) σ4
set_option maxRecDepth 100000 in
set_option maxHeartbeats 4000000 in
theorem c_X6_meet {g : Geo} {a1 : Int32} {σ : St} {r : Int32} {σ' : St} (h : f_X6_meet a1 σ = some (r, σ')) : Ct g yX6_meet cX6_meet 10 (some .boolean) rm_X6_meet [.ref (g.1 26), .int a1] σ (some (.int r)) σ' := by
  refine ct_of (own := RX6) (by decide) rfl (Nat.le_of_ble_eq_true rfl) (fun x C => ?_) ⟨rfl, rfl⟩
  show V g x _ 10 σ [(0, .ref (g.1 26)), (1, .int a1)] [] 0
  unfold f_X6_meet at h
  refine v_aload_n C dX6_meet_0 rfl 0 rfl ?_
  refine v_iload_n C dX6_meet_1 rfl 1 rfl ?_
  refine v_iconst C (v := (0 : Int32)) dX6_meet_2 (by decide) ?_
  obtain ⟨v1, σ2, cσ2, h⟩ := bd_some h
  refine callVl C (c_X6_packed cσ2) km_X6_packed kv_X6_packed rfl ml_RX6_196 rfl rfl (by decide) (Nat.le_of_ble_eq_true rfl) dX6_meet_3 ?_
  refine v_lstore_n C (lv' := [(2, .long _), (0, .ref _), (1, .int _)]) dX6_meet_6 rfl (by decide) rfl ?_
  refine v_aload_n C dX6_meet_7 rfl 1 rfl ?_
  refine v_iload_n C dX6_meet_8 rfl 2 rfl ?_
  refine v_bipush C (v := (32 : Int32)) dX6_meet_9 (by decide) ?_
  obtain ⟨v3, σ4, cσ4, h⟩ := bd_some h
  refine callVl C (c_X6_packed cσ4) km_X6_packed kv_X6_packed rfl ml_RX6_196 rfl rfl (by decide) (Nat.le_of_ble_eq_true rfl) dX6_meet_11 ?_
  refine v_lstore C (lv' := [(4, .long _), (2, .long _), (0, .ref _), (1, .int _)]) dX6_meet_14 (by decide) rfl ?_
  refine v_lload_n C dX6_meet_16 rfl 1 rfl ?_
  refine v_ldc2_w C (v := (31 : Int64)) conl_RX6_199 dX6_meet_17 ?_
  refine v_lmul C dX6_meet_20 ?_
  refine v_lload C dX6_meet_21 0 rfl ?_
  refine v_ldc2_w C (v := (17 : Int64)) conl_RX6_201 dX6_meet_23 ?_
  refine v_lmul C dX6_meet_26 ?_
  refine v_ladd C dX6_meet_27 ?_
  refine v_lload_n C dX6_meet_28 rfl 1 rfl ?_
  refine v_bipush C (v := (29 : Int32)) dX6_meet_29 (by decide) ?_
  refine v_lshr C dX6_meet_31 ?_
  refine v_ladd C dX6_meet_32 ?_
  refine v_lload C dX6_meet_33 0 rfl ?_
  refine v_bipush C (v := (23 : Int32)) dX6_meet_35 (by decide) ?_
  refine v_lshr C dX6_meet_37 ?_
  refine v_ladd C dX6_meet_38 ?_
  refine v_lload_n C dX6_meet_39 rfl 1 rfl ?_
  refine v_bipush C (v := (11 : Int32)) dX6_meet_40 (by decide) ?_
  refine v_lshr C dX6_meet_42 ?_
  refine v_ladd C dX6_meet_43 ?_
  refine v_lstore C (lv' := [(6, .long _), (4, .long _), (2, .long _), (0, .ref _), (1, .int _)]) dX6_meet_44 (by decide) rfl ?_
  refine v_lload C dX6_meet_46 0 rfl ?_
  refine v_ldc2_w C (v := (4095 : Int64)) conl_RX6_203 dX6_meet_48 ?_
  refine v_land C dX6_meet_51 ?_
  refine v_l2i C dX6_meet_52 ?_
  refine v_istore C (lv' := [(8, .int _), (6, .long _), (4, .long _), (2, .long _), (0, .ref _), (1, .int _)]) dX6_meet_53 (by decide) rfl ?_
  refine V.sub (lv' := [(0, .ref _), (2, .long _), (4, .long _), (8, .int _)]) [4, 3, 2, 0] rfl ?_
  exact b_X6_meet_55 C FU _ _ _  _ _ _ h
theorem dX6_meetAll_0 : decode cX6_meetAll 0 = .ok (.aload_n 0, 1) := by decide +kernel
theorem dX6_meetAll_1 : decode cX6_meetAll 1 = .ok (.iload_n 1, 1) := by decide +kernel
theorem dX6_meetAll_2 : decode cX6_meetAll 2 = .ok (.iload_n 2, 1) := by decide +kernel
theorem dX6_meetAll_3 : decode cX6_meetAll 3 = .ok (.invokevirtual 208, 3) := by decide +kernel
theorem dX6_meetAll_6 : decode cX6_meetAll 6 = .ok (.iconst 0, 1) := by decide +kernel
theorem dX6_meetAll_7 : decode cX6_meetAll 7 = .ok (.istore_n 3, 1) := by decide +kernel
theorem dX6_meetAll_8 : decode cX6_meetAll 8 = .ok (.iload_n 3, 1) := by decide +kernel
theorem dX6_meetAll_9 : decode cX6_meetAll 9 = .ok (.aload_n 0, 1) := by decide +kernel
theorem dX6_meetAll_10 : decode cX6_meetAll 10 = .ok (.getfield 70, 3) := by decide +kernel
theorem dX6_meetAll_13 : decode cX6_meetAll 13 = .ok (.iconst 1, 1) := by decide +kernel
theorem dX6_meetAll_14 : decode cX6_meetAll 14 = .ok (.iadd, 1) := by decide +kernel
theorem dX6_meetAll_15 : decode cX6_meetAll 15 = .ok (.aload_n 0, 1) := by decide +kernel
theorem dX6_meetAll_16 : decode cX6_meetAll 16 = .ok (.getfield 74, 3) := by decide +kernel
theorem dX6_meetAll_19 : decode cX6_meetAll 19 = .ok (.iconst 1, 1) := by decide +kernel
theorem dX6_meetAll_20 : decode cX6_meetAll 20 = .ok (.iadd, 1) := by decide +kernel
theorem dX6_meetAll_21 : decode cX6_meetAll 21 = .ok (.imul, 1) := by decide +kernel
theorem dX6_meetAll_22 : decode cX6_meetAll 22 = .ok (.if_icmp .ge 70, 3) := by decide +kernel
theorem dX6_meetAll_25 : decode cX6_meetAll 25 = .ok (.iload_n 3, 1) := by decide +kernel
theorem dX6_meetAll_26 : decode cX6_meetAll 26 = .ok (.aload_n 0, 1) := by decide +kernel
theorem dX6_meetAll_27 : decode cX6_meetAll 27 = .ok (.getfield 70, 3) := by decide +kernel
theorem dX6_meetAll_30 : decode cX6_meetAll 30 = .ok (.iconst 1, 1) := by decide +kernel
theorem dX6_meetAll_31 : decode cX6_meetAll 31 = .ok (.iadd, 1) := by decide +kernel
theorem dX6_meetAll_32 : decode cX6_meetAll 32 = .ok (.irem, 1) := by decide +kernel
theorem dX6_meetAll_33 : decode cX6_meetAll 33 = .ok (.istore 4, 2) := by decide +kernel
theorem dX6_meetAll_35 : decode cX6_meetAll 35 = .ok (.iload_n 3, 1) := by decide +kernel
theorem dX6_meetAll_36 : decode cX6_meetAll 36 = .ok (.aload_n 0, 1) := by decide +kernel
theorem dX6_meetAll_37 : decode cX6_meetAll 37 = .ok (.getfield 70, 3) := by decide +kernel
theorem dX6_meetAll_40 : decode cX6_meetAll 40 = .ok (.iconst 1, 1) := by decide +kernel
theorem dX6_meetAll_41 : decode cX6_meetAll 41 = .ok (.iadd, 1) := by decide +kernel
theorem dX6_meetAll_42 : decode cX6_meetAll 42 = .ok (.idiv, 1) := by decide +kernel
theorem dX6_meetAll_43 : decode cX6_meetAll 43 = .ok (.istore 5, 2) := by decide +kernel
theorem dX6_meetAll_45 : decode cX6_meetAll 45 = .ok (.aload_n 0, 1) := by decide +kernel
theorem dX6_meetAll_46 : decode cX6_meetAll 46 = .ok (.iload_n 1, 1) := by decide +kernel
theorem dX6_meetAll_47 : decode cX6_meetAll 47 = .ok (.iload 4, 2) := by decide +kernel
theorem dX6_meetAll_49 : decode cX6_meetAll 49 = .ok (.iload 5, 2) := by decide +kernel
theorem dX6_meetAll_51 : decode cX6_meetAll 51 = .ok (.invokevirtual 175, 3) := by decide +kernel
theorem dX6_meetAll_54 : decode cX6_meetAll 54 = .ok (.iconst 2, 1) := by decide +kernel
theorem dX6_meetAll_55 : decode cX6_meetAll 55 = .ok (.if_icmp .lt 31, 3) := by decide +kernel
theorem dX6_meetAll_58 : decode cX6_meetAll 58 = .ok (.aload_n 0, 1) := by decide +kernel
theorem dX6_meetAll_59 : decode cX6_meetAll 59 = .ok (.iload_n 1, 1) := by decide +kernel
theorem dX6_meetAll_60 : decode cX6_meetAll 60 = .ok (.iload 4, 2) := by decide +kernel
theorem dX6_meetAll_62 : decode cX6_meetAll 62 = .ok (.iload 5, 2) := by decide +kernel
theorem dX6_meetAll_64 : decode cX6_meetAll 64 = .ok (.invokevirtual 178, 3) := by decide +kernel
theorem dX6_meetAll_67 : decode cX6_meetAll 67 = .ok (.aload_n 0, 1) := by decide +kernel
theorem dX6_meetAll_68 : decode cX6_meetAll 68 = .ok (.iload_n 1, 1) := by decide +kernel
theorem dX6_meetAll_69 : decode cX6_meetAll 69 = .ok (.invokevirtual 211, 3) := by decide +kernel
theorem dX6_meetAll_72 : decode cX6_meetAll 72 = .ok (.ifCond .ne 5, 3) := by decide +kernel
theorem dX6_meetAll_75 : decode cX6_meetAll 75 = .ok (.iconst 0, 1) := by decide +kernel
theorem dX6_meetAll_76 : decode cX6_meetAll 76 = .ok (.ireturn, 1) := by decide +kernel
theorem dX6_meetAll_77 : decode cX6_meetAll 77 = .ok (.aload_n 0, 1) := by decide +kernel
theorem dX6_meetAll_78 : decode cX6_meetAll 78 = .ok (.iload_n 1, 1) := by decide +kernel
theorem dX6_meetAll_79 : decode cX6_meetAll 79 = .ok (.iload 4, 2) := by decide +kernel
theorem dX6_meetAll_81 : decode cX6_meetAll 81 = .ok (.iload 5, 2) := by decide +kernel
theorem dX6_meetAll_83 : decode cX6_meetAll 83 = .ok (.invokevirtual 178, 3) := by decide +kernel
theorem dX6_meetAll_86 : decode cX6_meetAll 86 = .ok (.iinc 3 1, 3) := by decide +kernel
theorem dX6_meetAll_89 : decode cX6_meetAll 89 = .ok (.goto (-81), 3) := by decide +kernel
theorem dX6_meetAll_92 : decode cX6_meetAll 92 = .ok (.iconst 1, 1) := by decide +kernel
theorem dX6_meetAll_93 : decode cX6_meetAll 93 = .ok (.ireturn, 1) := by decide +kernel
def f_X6_meetAll_86 (k8 : Int32 → Int32 → St → Option (Int32 × St)) (x1 : Int32) (x3 : Int32) (σ : St) : Option (Int32 × St) :=
  k8 x1 (x3 + 1) σ
set_option maxRecDepth 100000 in
set_option maxHeartbeats 4000000 in
theorem b_X6_meetAll_86 {g : Geo} {x : Cx} (C : Ok g x cX6_meetAll RX6 6 (some .boolean) rm_X6_meetAll) (k8 : Int32 → Int32 → St → Option (Int32 × St)) (hk8 : ∀ (x1 : Int32) (x3 : Int32) (τ : St) (r : Int32) (τ' : St), k8 x1 x3 τ = some (r, τ') → V g x (qm g x (some (.int r)) τ') 6 τ [(0, .ref (g.1 26)), (1, .int x1), (3, .int x3)] [] 8) : ∀ (x1 : Int32) (x3 : Int32) (σ : St) (r : Int32) (σ' : St), f_X6_meetAll_86 k8 x1 x3 σ = some (r, σ') → V g x (qm g x (some (.int r)) σ') 6 σ [(0, .ref (g.1 26)), (1, .int x1), (3, .int x3)] [] 86 := by
  intro x1 x3 σ r σ' h
  unfold f_X6_meetAll_86 at h
  refine v_iinc C (v := (x3 + 1)) (lv' := [(3, .int _), (0, .ref _), (1, .int _)]) dX6_meetAll_86 2 rfl rfl (by decide) rfl ?_
  refine v_goto C (tgt := 8) dX6_meetAll_89 (by decide) ?_
  refine V.sub (lv' := [(0, .ref _), (1, .int _), (3, .int _)]) [1, 2, 0] rfl ?_
  exact hk8 _ _  _ _ _ h
def f_X6_meetAll_8 : Nat → Int32 → Int32 → St → Option (Int32 × St)
  | 0, _, _, _ => none
  | n + 1, x1, x3, σ =>
    if (((gi σ 26 0) + (1 : Int32)) * ((gi σ 26 1) + (1 : Int32))) ≤ x3 then
      some ((1 : Int32), σ)
    else
      rmI x3 ((gi σ 26 0) + (1 : Int32)) fun v1 =>
      dvI x3 ((gi σ 26 0) + (1 : Int32)) fun v2 =>
      bd (f_X6_pointOf x1 v1 v2 σ) fun v3 σ4 =>
      if v3 < (2 : Int32) then
        f_X6_meetAll_86 (f_X6_meetAll_8 n) x1 x3 σ4
      else
        bd (f_X6_turnOver x1 v1 v2 σ4) fun _ σ6 =>
        bd (f_X6_meet x1 σ6) fun v7 σ8 =>
        if v7 = 0 then
          some ((0 : Int32), σ8)
        else
          bd (f_X6_turnOver x1 v1 v2 σ8) fun _ σ10 =>
          f_X6_meetAll_86 (f_X6_meetAll_8 n) x1 x3 σ10
set_option maxRecDepth 100000 in
set_option maxHeartbeats 4000000 in
theorem b_X6_meetAll_8 {g : Geo} {x : Cx} (C : Ok g x cX6_meetAll RX6 6 (some .boolean) rm_X6_meetAll) : ∀ (n : Nat) (x1 : Int32) (x3 : Int32) (σ : St) (r : Int32) (σ' : St), f_X6_meetAll_8 n x1 x3 σ = some (r, σ') → V g x (qm g x (some (.int r)) σ') 6 σ [(0, .ref (g.1 26)), (1, .int x1), (3, .int x3)] [] 8 := by
  intro n
  induction n with
  | zero =>
    intro x1 x3 σ r σ' h
    rw [f_X6_meetAll_8] at h
    cases h
  | succ n ih =>
    intro x1 x3 σ r σ' h
    rw [f_X6_meetAll_8] at h
    refine v_iload_n C dX6_meetAll_8 rfl 2 rfl ?_
    refine v_aload_n C dX6_meetAll_9 rfl 0 rfl ?_
    refine v_getI C fl_RX6_70 rfl dX6_meetAll_10 ?_
    refine v_iconst C (v := (1 : Int32)) dX6_meetAll_13 (by decide) ?_
    refine v_iadd C dX6_meetAll_14 ?_
    refine v_aload_n C dX6_meetAll_15 rfl 0 rfl ?_
    refine v_getI C fl_RX6_74 rfl dX6_meetAll_16 ?_
    refine v_iconst C (v := (1 : Int32)) dX6_meetAll_19 (by decide) ?_
    refine v_iadd C dX6_meetAll_20 ?_
    refine v_imul C dX6_meetAll_21 ?_
    refine v_icmp_ge C (tgt := 92) dX6_meetAll_22 (by decide) (fun q13 => ?_) (fun q13 => ?_)
    · rw [if_pos q13] at h
      refine v_iconst C (v := (1 : Int32)) dX6_meetAll_92 (by decide) ?_
      cases h
      exact v_zret C (Or.inr rfl) dX6_meetAll_93
    · rw [if_neg q13] at h
      refine v_iload_n C dX6_meetAll_25 rfl 2 rfl ?_
      refine v_aload_n C dX6_meetAll_26 rfl 0 rfl ?_
      refine v_getI C fl_RX6_70 rfl dX6_meetAll_27 ?_
      refine v_iconst C (v := (1 : Int32)) dX6_meetAll_30 (by decide) ?_
      refine v_iadd C dX6_meetAll_31 ?_
      obtain ⟨nv1, v1, ev1, h⟩ := rmI_ex h
      refine x_irem C nv1 ev1 dX6_meetAll_32 ?_
      refine v_istore C (lv' := [(4, .int _), (0, .ref _), (1, .int _), (3, .int _)]) dX6_meetAll_33 (by decide) rfl ?_
      refine v_iload_n C dX6_meetAll_35 rfl 3 rfl ?_
      refine v_aload_n C dX6_meetAll_36 rfl 1 rfl ?_
      refine v_getI C fl_RX6_70 rfl dX6_meetAll_37 ?_
      refine v_iconst C (v := (1 : Int32)) dX6_meetAll_40 (by decide) ?_
      refine v_iadd C dX6_meetAll_41 ?_
      obtain ⟨nv2, v2, ev2, h⟩ := dvI_ex h
      refine x_idiv C nv2 ev2 dX6_meetAll_42 ?_
      refine v_istore C (lv' := [(5, .int _), (4, .int _), (0, .ref _), (1, .int _), (3, .int _)]) dX6_meetAll_43 (by decide) rfl ?_
      refine v_aload_n C dX6_meetAll_45 rfl 2 rfl ?_
      refine v_iload_n C dX6_meetAll_46 rfl 3 rfl ?_
      refine v_iload C dX6_meetAll_47 1 rfl ?_
      refine v_iload C dX6_meetAll_49 0 rfl ?_
      obtain ⟨v3, σ4, cσ4, h⟩ := bd_some h
      refine callVi C (c_X6_pointOf cσ4) km_X6_pointOf kv_X6_pointOf rfl ml_RX6_175 rfl rfl (by decide) (Nat.le_of_ble_eq_true rfl) dX6_meetAll_51 ?_
      refine v_iconst C (v := (2 : Int32)) dX6_meetAll_54 (by decide) ?_
      refine v_icmp_lt C (tgt := 86) dX6_meetAll_55 (by decide) (fun q12 => ?_) (fun q12 => ?_)
      · rw [if_pos q12] at h
        refine V.sub (lv' := [(0, .ref _), (1, .int _), (3, .int _)]) [2, 3, 4] rfl ?_
        exact b_X6_meetAll_86 C _ ih _ _  _ _ _ h
      · rw [if_neg q12] at h
        refine v_aload_n C dX6_meetAll_58 rfl 2 rfl ?_
        refine v_iload_n C dX6_meetAll_59 rfl 3 rfl ?_
        refine v_iload C dX6_meetAll_60 1 rfl ?_
        refine v_iload C dX6_meetAll_62 0 rfl ?_
        obtain ⟨v5, σ6, cσ6, h⟩ := bd_some h
        refine callVv C (c_X6_turnOver cσ6) km_X6_turnOver kv_X6_turnOver rfl ml_RX6_178 rfl rfl (by decide) (Nat.le_of_ble_eq_true rfl) dX6_meetAll_64 ?_
        refine v_aload_n C dX6_meetAll_67 rfl 2 rfl ?_
        refine v_iload_n C dX6_meetAll_68 rfl 3 rfl ?_
        obtain ⟨v7, σ8, cσ8, h⟩ := bd_some h
        refine callVi C (c_X6_meet cσ8) km_X6_meet kv_X6_meet rfl ml_RX6_211 rfl rfl (by decide) (Nat.le_of_ble_eq_true rfl) dX6_meetAll_69 ?_
        refine v_if_ne C (tgt := 77) dX6_meetAll_72 (by decide) (fun q11 => ?_) (fun q11 => ?_)
        · rw [if_neg q11] at h
          refine v_aload_n C dX6_meetAll_77 rfl 2 rfl ?_
          refine v_iload_n C dX6_meetAll_78 rfl 3 rfl ?_
          refine v_iload C dX6_meetAll_79 1 rfl ?_
          refine v_iload C dX6_meetAll_81 0 rfl ?_
          obtain ⟨v9, σ10, cσ10, h⟩ := bd_some h
          refine callVv C (c_X6_turnOver cσ10) km_X6_turnOver kv_X6_turnOver rfl ml_RX6_178 rfl rfl (by decide) (Nat.le_of_ble_eq_true rfl) dX6_meetAll_83 ?_
          refine V.sub (lv' := [(0, .ref _), (1, .int _), (3, .int _)]) [2, 3, 4] rfl ?_
          exact b_X6_meetAll_86 C _ ih _ _  _ _ _ h
        · rw [if_pos q11] at h
          refine v_iconst C (v := (0 : Int32)) dX6_meetAll_75 (by decide) ?_
          cases h
          exact v_zret C (Or.inl rfl) dX6_meetAll_76
def f_X6_meetAll (a1 : Int32) (a2 : Int32) (σ : St) : Option (Int32 × St) :=
  bd (f_X6_unpack a1 a2 σ) fun _ σ2 =>
  f_X6_meetAll_8 FU a1 (0 : Int32) σ2
set_option maxRecDepth 100000 in
set_option maxHeartbeats 4000000 in
theorem c_X6_meetAll {g : Geo} {a1 : Int32} {a2 : Int32} {σ : St} {r : Int32} {σ' : St} (h : f_X6_meetAll a1 a2 σ = some (r, σ')) : Ct g yX6_meetAll cX6_meetAll 6 (some .boolean) rm_X6_meetAll [.ref (g.1 26), .int a1, .int a2] σ (some (.int r)) σ' := by
  refine ct_of (own := RX6) (by decide) rfl (Nat.le_of_ble_eq_true rfl) (fun x C => ?_) ⟨rfl, rfl⟩
  show V g x _ 6 σ [(0, .ref (g.1 26)), (1, .int a1), (2, .int a2)] [] 0
  unfold f_X6_meetAll at h
  refine v_aload_n C dX6_meetAll_0 rfl 0 rfl ?_
  refine v_iload_n C dX6_meetAll_1 rfl 1 rfl ?_
  refine v_iload_n C dX6_meetAll_2 rfl 2 rfl ?_
  obtain ⟨v1, σ2, cσ2, h⟩ := bd_some h
  refine callVv C (c_X6_unpack cσ2) km_X6_unpack kv_X6_unpack rfl ml_RX6_208 rfl rfl (by decide) (Nat.le_of_ble_eq_true rfl) dX6_meetAll_3 ?_
  refine v_iconst C (v := (0 : Int32)) dX6_meetAll_6 (by decide) ?_
  refine v_istore_n C (lv' := [(3, .int _), (0, .ref _), (1, .int _), (2, .int _)]) dX6_meetAll_7 rfl (by decide) rfl ?_
  refine V.sub (lv' := [(0, .ref _), (1, .int _), (3, .int _)]) [1, 2, 0] rfl ?_
  exact b_X6_meetAll_8 C FU _ _  _ _ _ h
theorem dX6_reach_0 : decode cX6_reach 0 = .ok (.iload_n 1, 1) := by decide +kernel
theorem dX6_reach_1 : decode cX6_reach 1 = .ok (.invokestatic 155, 3) := by decide +kernel
theorem dX6_reach_4 : decode cX6_reach 4 = .ok (.ifCond .ne 6, 3) := by decide +kernel
theorem dX6_reach_7 : decode cX6_reach 7 = .ok (.ldc 97, 2) := by decide +kernel
theorem dX6_reach_9 : decode cX6_reach 9 = .ok (.ireturn, 1) := by decide +kernel
theorem dX6_reach_10 : decode cX6_reach 10 = .ok (.aload_n 0, 1) := by decide +kernel
theorem dX6_reach_11 : decode cX6_reach 11 = .ok (.getfield 17, 3) := by decide +kernel
theorem dX6_reach_14 : decode cX6_reach 14 = .ok (.iload_n 1, 1) := by decide +kernel
theorem dX6_reach_15 : decode cX6_reach 15 = .ok (.baload, 1) := by decide +kernel
theorem dX6_reach_16 : decode cX6_reach 16 = .ok (.ifCond .ne 6, 3) := by decide +kernel
theorem dX6_reach_19 : decode cX6_reach 19 = .ok (.ldc 158, 2) := by decide +kernel
theorem dX6_reach_21 : decode cX6_reach 21 = .ok (.ireturn, 1) := by decide +kernel
theorem dX6_reach_22 : decode cX6_reach 22 = .ok (.iconst 0, 1) := by decide +kernel
theorem dX6_reach_23 : decode cX6_reach 23 = .ok (.istore_n 2, 1) := by decide +kernel
theorem dX6_reach_24 : decode cX6_reach 24 = .ok (.iload_n 2, 1) := by decide +kernel
theorem dX6_reach_25 : decode cX6_reach 25 = .ok (.bipush 64, 2) := by decide +kernel
theorem dX6_reach_27 : decode cX6_reach 27 = .ok (.if_icmp .ge 26, 3) := by decide +kernel
theorem dX6_reach_30 : decode cX6_reach 30 = .ok (.aload_n 0, 1) := by decide +kernel
theorem dX6_reach_31 : decode cX6_reach 31 = .ok (.getfield 48, 3) := by decide +kernel
theorem dX6_reach_34 : decode cX6_reach 34 = .ok (.iload_n 2, 1) := by decide +kernel
theorem dX6_reach_35 : decode cX6_reach 35 = .ok (.aload_n 0, 1) := by decide +kernel
theorem dX6_reach_36 : decode cX6_reach 36 = .ok (.getfield 20, 3) := by decide +kernel
theorem dX6_reach_39 : decode cX6_reach 39 = .ok (.bipush 64, 2) := by decide +kernel
theorem dX6_reach_41 : decode cX6_reach 41 = .ok (.iload_n 1, 1) := by decide +kernel
theorem dX6_reach_42 : decode cX6_reach 42 = .ok (.imul, 1) := by decide +kernel
theorem dX6_reach_43 : decode cX6_reach 43 = .ok (.iload_n 2, 1) := by decide +kernel
theorem dX6_reach_44 : decode cX6_reach 44 = .ok (.iadd, 1) := by decide +kernel
theorem dX6_reach_45 : decode cX6_reach 45 = .ok (.iaload, 1) := by decide +kernel
theorem dX6_reach_46 : decode cX6_reach 46 = .ok (.iastore, 1) := by decide +kernel
theorem dX6_reach_47 : decode cX6_reach 47 = .ok (.iinc 2 1, 3) := by decide +kernel
theorem dX6_reach_50 : decode cX6_reach 50 = .ok (.goto (-26), 3) := by decide +kernel
theorem dX6_reach_53 : decode cX6_reach 53 = .ok (.iconst 0, 1) := by decide +kernel
theorem dX6_reach_54 : decode cX6_reach 54 = .ok (.istore_n 2, 1) := by decide +kernel
theorem dX6_reach_55 : decode cX6_reach 55 = .ok (.iload_n 2, 1) := by decide +kernel
theorem dX6_reach_56 : decode cX6_reach 56 = .ok (.sipush 4096, 3) := by decide +kernel
theorem dX6_reach_59 : decode cX6_reach 59 = .ok (.if_icmp .ge 16, 3) := by decide +kernel
theorem dX6_reach_62 : decode cX6_reach 62 = .ok (.aload_n 0, 1) := by decide +kernel
theorem dX6_reach_63 : decode cX6_reach 63 = .ok (.getfield 45, 3) := by decide +kernel
theorem dX6_reach_66 : decode cX6_reach 66 = .ok (.iload_n 2, 1) := by decide +kernel
theorem dX6_reach_67 : decode cX6_reach 67 = .ok (.iconst 0, 1) := by decide +kernel
theorem dX6_reach_68 : decode cX6_reach 68 = .ok (.iastore, 1) := by decide +kernel
theorem dX6_reach_69 : decode cX6_reach 69 = .ok (.iinc 2 1, 3) := by decide +kernel
theorem dX6_reach_72 : decode cX6_reach 72 = .ok (.goto (-17), 3) := by decide +kernel
theorem dX6_reach_75 : decode cX6_reach 75 = .ok (.aload_n 0, 1) := by decide +kernel
theorem dX6_reach_76 : decode cX6_reach 76 = .ok (.iconst 0, 1) := by decide +kernel
theorem dX6_reach_77 : decode cX6_reach 77 = .ok (.putfield 205, 3) := by decide +kernel
theorem dX6_reach_80 : decode cX6_reach 80 = .ok (.aload_n 0, 1) := by decide +kernel
theorem dX6_reach_81 : decode cX6_reach 81 = .ok (.iload_n 1, 1) := by decide +kernel
theorem dX6_reach_82 : decode cX6_reach 82 = .ok (.invokevirtual 211, 3) := by decide +kernel
theorem dX6_reach_85 : decode cX6_reach 85 = .ok (.istore_n 2, 1) := by decide +kernel
theorem dX6_reach_86 : decode cX6_reach 86 = .ok (.iconst 0, 1) := by decide +kernel
theorem dX6_reach_87 : decode cX6_reach 87 = .ok (.istore_n 3, 1) := by decide +kernel
theorem dX6_reach_88 : decode cX6_reach 88 = .ok (.iload_n 3, 1) := by decide +kernel
theorem dX6_reach_89 : decode cX6_reach 89 = .ok (.aload_n 0, 1) := by decide +kernel
theorem dX6_reach_90 : decode cX6_reach 90 = .ok (.getfield 205, 3) := by decide +kernel
theorem dX6_reach_93 : decode cX6_reach 93 = .ok (.if_icmp .ge 20, 3) := by decide +kernel
theorem dX6_reach_96 : decode cX6_reach 96 = .ok (.iload_n 2, 1) := by decide +kernel
theorem dX6_reach_97 : decode cX6_reach 97 = .ok (.ifCond .eq 16, 3) := by decide +kernel
theorem dX6_reach_100 : decode cX6_reach 100 = .ok (.aload_n 0, 1) := by decide +kernel
theorem dX6_reach_101 : decode cX6_reach 101 = .ok (.iload_n 1, 1) := by decide +kernel
theorem dX6_reach_102 : decode cX6_reach 102 = .ok (.iload_n 3, 1) := by decide +kernel
theorem dX6_reach_103 : decode cX6_reach 103 = .ok (.invokevirtual 214, 3) := by decide +kernel
theorem dX6_reach_106 : decode cX6_reach 106 = .ok (.istore_n 2, 1) := by decide +kernel
theorem dX6_reach_107 : decode cX6_reach 107 = .ok (.iinc 3 1, 3) := by decide +kernel
theorem dX6_reach_110 : decode cX6_reach 110 = .ok (.goto (-22), 3) := by decide +kernel
theorem dX6_reach_113 : decode cX6_reach 113 = .ok (.iconst 0, 1) := by decide +kernel
theorem dX6_reach_114 : decode cX6_reach 114 = .ok (.istore_n 3, 1) := by decide +kernel
theorem dX6_reach_115 : decode cX6_reach 115 = .ok (.iload_n 3, 1) := by decide +kernel
theorem dX6_reach_116 : decode cX6_reach 116 = .ok (.bipush 64, 2) := by decide +kernel
theorem dX6_reach_118 : decode cX6_reach 118 = .ok (.if_icmp .ge 26, 3) := by decide +kernel
theorem dX6_reach_121 : decode cX6_reach 121 = .ok (.aload_n 0, 1) := by decide +kernel
theorem dX6_reach_122 : decode cX6_reach 122 = .ok (.getfield 20, 3) := by decide +kernel
theorem dX6_reach_125 : decode cX6_reach 125 = .ok (.bipush 64, 2) := by decide +kernel
theorem dX6_reach_127 : decode cX6_reach 127 = .ok (.iload_n 1, 1) := by decide +kernel
theorem dX6_reach_128 : decode cX6_reach 128 = .ok (.imul, 1) := by decide +kernel
theorem dX6_reach_129 : decode cX6_reach 129 = .ok (.iload_n 3, 1) := by decide +kernel
theorem dX6_reach_130 : decode cX6_reach 130 = .ok (.iadd, 1) := by decide +kernel
theorem dX6_reach_131 : decode cX6_reach 131 = .ok (.aload_n 0, 1) := by decide +kernel
theorem dX6_reach_132 : decode cX6_reach 132 = .ok (.getfield 48, 3) := by decide +kernel
theorem dX6_reach_135 : decode cX6_reach 135 = .ok (.iload_n 3, 1) := by decide +kernel
theorem dX6_reach_136 : decode cX6_reach 136 = .ok (.iaload, 1) := by decide +kernel
theorem dX6_reach_137 : decode cX6_reach 137 = .ok (.iastore, 1) := by decide +kernel
theorem dX6_reach_138 : decode cX6_reach 138 = .ok (.iinc 3 1, 3) := by decide +kernel
theorem dX6_reach_141 : decode cX6_reach 141 = .ok (.goto (-26), 3) := by decide +kernel
theorem dX6_reach_144 : decode cX6_reach 144 = .ok (.iload_n 2, 1) := by decide +kernel
theorem dX6_reach_145 : decode cX6_reach 145 = .ok (.ifCond .eq 10, 3) := by decide +kernel
theorem dX6_reach_148 : decode cX6_reach 148 = .ok (.aload_n 0, 1) := by decide +kernel
theorem dX6_reach_149 : decode cX6_reach 149 = .ok (.getfield 205, 3) := by decide +kernel
theorem dX6_reach_152 : decode cX6_reach 152 = .ok (.goto 5, 3) := by decide +kernel
theorem dX6_reach_155 : decode cX6_reach 155 = .ok (.ldc 217, 2) := by decide +kernel
theorem dX6_reach_157 : decode cX6_reach 157 = .ok (.ireturn, 1) := by decide +kernel
def f_X6_reach_157 (s0 : Int32) (σ : St) : Option (Int32 × St) :=
  some (s0, σ)
set_option maxRecDepth 100000 in
set_option maxHeartbeats 4000000 in
theorem b_X6_reach_157 {g : Geo} {x : Cx} (C : Ok g x cX6_reach RX6 4 (some .int) rm_X6_reach) : ∀ (s0 : Int32) (σ : St) (r : Int32) (σ' : St), f_X6_reach_157 s0 σ = some (r, σ') → V g x (qm g x (some (.int r)) σ') 4 σ [] [.int s0] 157 := by
  intro s0 σ r σ' h
  unfold f_X6_reach_157 at h
  cases h
  exact v_iret C dX6_reach_157
def f_X6_reach_115 : Nat → Int32 → Int32 → Int32 → St → Option (Int32 × St)
  | 0, _, _, _, _ => none
  | n + 1, x1, x2, x3, σ =>
    if (64 : Int32) ≤ x3 then
      if x2 = 0 then
        f_X6_reach_157 (-900005 : Int32) σ
      else
        f_X6_reach_157 (gi σ 26 14) σ
    else
      rdI σ 39 x3 fun v2 =>
      wrI σ 30 (((64 : Int32) * x1) + x3) v2 fun σ3 =>
      f_X6_reach_115 n x1 x2 (x3 + 1) σ3
set_option maxRecDepth 100000 in
set_option maxHeartbeats 4000000 in
theorem b_X6_reach_115 {g : Geo} {x : Cx} (C : Ok g x cX6_reach RX6 4 (some .int) rm_X6_reach) : ∀ (n : Nat) (x1 : Int32) (x2 : Int32) (x3 : Int32) (σ : St) (r : Int32) (σ' : St), f_X6_reach_115 n x1 x2 x3 σ = some (r, σ') → V g x (qm g x (some (.int r)) σ') 4 σ [(0, .ref (g.1 26)), (1, .int x1), (2, .int x2), (3, .int x3)] [] 115 := by
  intro n
  induction n with
  | zero =>
    intro x1 x2 x3 σ r σ' h
    rw [f_X6_reach_115] at h
    cases h
  | succ n ih =>
    intro x1 x2 x3 σ r σ' h
    rw [f_X6_reach_115] at h
    refine v_iload_n C dX6_reach_115 rfl 3 rfl ?_
    refine v_bipush C (v := (64 : Int32)) dX6_reach_116 (by decide) ?_
    refine v_icmp_ge C (tgt := 144) dX6_reach_118 (by decide) (fun q4 => ?_) (fun q4 => ?_)
    · rw [if_pos q4] at h
      refine v_iload_n C dX6_reach_144 rfl 2 rfl ?_
      refine v_if_eq C (tgt := 155) dX6_reach_145 (by decide) (fun q1 => ?_) (fun q1 => ?_)
      · rw [if_pos q1] at h
        refine v_ldc C (v := (-900005 : Int32)) con_RX6_217 dX6_reach_155 ?_
        refine V.sub (lv' := []) [] rfl ?_
        exact b_X6_reach_157 C _  _ _ _ h
      · rw [if_neg q1] at h
        refine v_aload_n C dX6_reach_148 rfl 0 rfl ?_
        refine v_getI C fl_RX6_205 rfl dX6_reach_149 ?_
        refine v_goto C (tgt := 157) dX6_reach_152 (by decide) ?_
        refine V.sub (lv' := []) [] rfl ?_
        exact b_X6_reach_157 C _  _ _ _ h
    · rw [if_neg q4] at h
      refine v_aload_n C dX6_reach_121 rfl 0 rfl ?_
      refine v_getR C (p' := 30) fl_RX6_20 rfl rfl dX6_reach_122 ?_
      refine v_bipush C (v := (64 : Int32)) dX6_reach_125 (by decide) ?_
      refine v_iload_n C dX6_reach_127 rfl 1 rfl ?_
      refine v_imul C dX6_reach_128 ?_
      refine v_iload_n C dX6_reach_129 rfl 3 rfl ?_
      refine v_iadd C dX6_reach_130 ?_
      refine v_aload_n C dX6_reach_131 rfl 0 rfl ?_
      refine v_getR C (p' := 39) fl_RX6_48 rfl rfl dX6_reach_132 ?_
      refine v_iload_n C dX6_reach_135 rfl 3 rfl ?_
      obtain ⟨nv2, v2, ev2, h⟩ := rdI_ex h
      refine x_iald C rfl nv2 ev2 dX6_reach_136 ?_
      obtain ⟨nσ3, σ3, eσ3, h⟩ := wrI_ex h
      refine x_iast C rfl nσ3 eσ3 dX6_reach_137 ?_
      refine v_iinc C (v := (x3 + 1)) (lv' := [(3, .int _), (0, .ref _), (1, .int _), (2, .int _)]) dX6_reach_138 3 rfl rfl (by decide) rfl ?_
      refine v_goto C (tgt := 115) dX6_reach_141 (by decide) ?_
      refine V.sub (lv' := [(0, .ref _), (1, .int _), (2, .int _), (3, .int _)]) [1, 2, 3, 0] rfl ?_
      exact ih _ _ _  _ _ _ h
def f_X6_reach_113 (x1 : Int32) (x2 : Int32) (σ : St) : Option (Int32 × St) :=
  f_X6_reach_115 FU x1 x2 (0 : Int32) σ
set_option maxRecDepth 100000 in
set_option maxHeartbeats 4000000 in
theorem b_X6_reach_113 {g : Geo} {x : Cx} (C : Ok g x cX6_reach RX6 4 (some .int) rm_X6_reach) : ∀ (x1 : Int32) (x2 : Int32) (σ : St) (r : Int32) (σ' : St), f_X6_reach_113 x1 x2 σ = some (r, σ') → V g x (qm g x (some (.int r)) σ') 4 σ [(0, .ref (g.1 26)), (1, .int x1), (2, .int x2)] [] 113 := by
  intro x1 x2 σ r σ' h
  unfold f_X6_reach_113 at h
  refine v_iconst C (v := (0 : Int32)) dX6_reach_113 (by decide) ?_
  refine v_istore_n C (lv' := [(3, .int _), (0, .ref _), (1, .int _), (2, .int _)]) dX6_reach_114 rfl (by decide) rfl ?_
  refine V.sub (lv' := [(0, .ref _), (1, .int _), (2, .int _), (3, .int _)]) [1, 2, 3, 0] rfl ?_
  exact b_X6_reach_115 C FU _ _ _  _ _ _ h
def f_X6_reach_88 : Nat → Int32 → Int32 → Int32 → St → Option (Int32 × St)
  | 0, _, _, _, _ => none
  | n + 1, x1, x2, x3, σ =>
    if (gi σ 26 14) ≤ x3 then
      f_X6_reach_113 x1 x2 σ
    else
      if x2 = 0 then
        f_X6_reach_113 x1 x2 σ
      else
        bd (f_X6_meetAll x1 x3 σ) fun v1 σ2 =>
        f_X6_reach_88 n x1 v1 (x3 + 1) σ2
set_option maxRecDepth 100000 in
set_option maxHeartbeats 4000000 in
theorem b_X6_reach_88 {g : Geo} {x : Cx} (C : Ok g x cX6_reach RX6 4 (some .int) rm_X6_reach) : ∀ (n : Nat) (x1 : Int32) (x2 : Int32) (x3 : Int32) (σ : St) (r : Int32) (σ' : St), f_X6_reach_88 n x1 x2 x3 σ = some (r, σ') → V g x (qm g x (some (.int r)) σ') 4 σ [(0, .ref (g.1 26)), (1, .int x1), (2, .int x2), (3, .int x3)] [] 88 := by
  intro n
  induction n with
  | zero =>
    intro x1 x2 x3 σ r σ' h
    rw [f_X6_reach_88] at h
    cases h
  | succ n ih =>
    intro x1 x2 x3 σ r σ' h
    rw [f_X6_reach_88] at h
    refine v_iload_n C dX6_reach_88 rfl 3 rfl ?_
    refine v_aload_n C dX6_reach_89 rfl 0 rfl ?_
    refine v_getI C fl_RX6_205 rfl dX6_reach_90 ?_
    refine v_icmp_ge C (tgt := 113) dX6_reach_93 (by decide) (fun q4 => ?_) (fun q4 => ?_)
    · rw [if_pos q4] at h
      refine V.sub (lv' := [(0, .ref _), (1, .int _), (2, .int _)]) [0, 1, 2] rfl ?_
      exact b_X6_reach_113 C _ _  _ _ _ h
    · rw [if_neg q4] at h
      refine v_iload_n C dX6_reach_96 rfl 2 rfl ?_
      refine v_if_eq C (tgt := 113) dX6_reach_97 (by decide) (fun q3 => ?_) (fun q3 => ?_)
      · rw [if_pos q3] at h
        refine V.sub (lv' := [(0, .ref _), (1, .int _), (2, .int _)]) [0, 1, 2] rfl ?_
        exact b_X6_reach_113 C _ _  _ _ _ h
      · rw [if_neg q3] at h
        refine v_aload_n C dX6_reach_100 rfl 0 rfl ?_
        refine v_iload_n C dX6_reach_101 rfl 1 rfl ?_
        refine v_iload_n C dX6_reach_102 rfl 3 rfl ?_
        obtain ⟨v1, σ2, cσ2, h⟩ := bd_some h
        refine callVi C (c_X6_meetAll cσ2) km_X6_meetAll kv_X6_meetAll rfl ml_RX6_214 rfl rfl (by decide) (Nat.le_of_ble_eq_true rfl) dX6_reach_103 ?_
        refine v_istore_n C (lv' := [(2, .int _), (0, .ref _), (1, .int _), (3, .int _)]) dX6_reach_106 rfl (by decide) rfl ?_
        refine v_iinc C (v := (x3 + 1)) (lv' := [(3, .int _), (2, .int _), (0, .ref _), (1, .int _)]) dX6_reach_107 3 rfl rfl (by decide) rfl ?_
        refine v_goto C (tgt := 88) dX6_reach_110 (by decide) ?_
        refine V.sub (lv' := [(0, .ref _), (1, .int _), (2, .int _), (3, .int _)]) [2, 3, 1, 0] rfl ?_
        exact ih _ _ _  _ _ _ h
def f_X6_reach_55 : Nat → Int32 → Int32 → St → Option (Int32 × St)
  | 0, _, _, _ => none
  | n + 1, x1, x2, σ =>
    if (4096 : Int32) ≤ x2 then
      fI σ 26 14 (0 : Int32) fun σ1 =>
      bd (f_X6_meet x1 σ1) fun v2 σ3 =>
      f_X6_reach_88 FU x1 v2 (0 : Int32) σ3
    else
      wrI σ 38 x2 (0 : Int32) fun σ4 =>
      f_X6_reach_55 n x1 (x2 + 1) σ4
set_option maxRecDepth 100000 in
set_option maxHeartbeats 4000000 in
theorem b_X6_reach_55 {g : Geo} {x : Cx} (C : Ok g x cX6_reach RX6 4 (some .int) rm_X6_reach) : ∀ (n : Nat) (x1 : Int32) (x2 : Int32) (σ : St) (r : Int32) (σ' : St), f_X6_reach_55 n x1 x2 σ = some (r, σ') → V g x (qm g x (some (.int r)) σ') 4 σ [(0, .ref (g.1 26)), (1, .int x1), (2, .int x2)] [] 55 := by
  intro n
  induction n with
  | zero =>
    intro x1 x2 σ r σ' h
    rw [f_X6_reach_55] at h
    cases h
  | succ n ih =>
    intro x1 x2 σ r σ' h
    rw [f_X6_reach_55] at h
    refine v_iload_n C dX6_reach_55 rfl 2 rfl ?_
    refine v_sipush C (v := (4096 : Int32)) dX6_reach_56 (by decide) ?_
    refine v_icmp_ge C (tgt := 75) dX6_reach_59 (by decide) (fun q5 => ?_) (fun q5 => ?_)
    · rw [if_pos q5] at h
      refine v_aload_n C dX6_reach_75 rfl 0 rfl ?_
      refine v_iconst C (v := (0 : Int32)) dX6_reach_76 (by decide) ?_
      obtain ⟨σ1, eσ1, h⟩ := fI_ex h
      refine x_putI C fl_RX6_205 fw_6_14 rfl eσ1 dX6_reach_77 ?_
      refine v_aload_n C dX6_reach_80 rfl 0 rfl ?_
      refine v_iload_n C dX6_reach_81 rfl 1 rfl ?_
      obtain ⟨v2, σ3, cσ3, h⟩ := bd_some h
      refine callVi C (c_X6_meet cσ3) km_X6_meet kv_X6_meet rfl ml_RX6_211 rfl rfl (by decide) (Nat.le_of_ble_eq_true rfl) dX6_reach_82 ?_
      refine v_istore_n C (lv' := [(2, .int _), (0, .ref _), (1, .int _)]) dX6_reach_85 rfl (by decide) rfl ?_
      refine v_iconst C (v := (0 : Int32)) dX6_reach_86 (by decide) ?_
      refine v_istore_n C (lv' := [(3, .int _), (2, .int _), (0, .ref _), (1, .int _)]) dX6_reach_87 rfl (by decide) rfl ?_
      refine V.sub (lv' := [(0, .ref _), (1, .int _), (2, .int _), (3, .int _)]) [2, 3, 1, 0] rfl ?_
      exact b_X6_reach_88 C FU _ _ _  _ _ _ h
    · rw [if_neg q5] at h
      refine v_aload_n C dX6_reach_62 rfl 0 rfl ?_
      refine v_getR C (p' := 38) fl_RX6_45 rfl rfl dX6_reach_63 ?_
      refine v_iload_n C dX6_reach_66 rfl 2 rfl ?_
      refine v_iconst C (v := (0 : Int32)) dX6_reach_67 (by decide) ?_
      obtain ⟨nσ4, σ4, eσ4, h⟩ := wrI_ex h
      refine x_iast C rfl nσ4 eσ4 dX6_reach_68 ?_
      refine v_iinc C (v := (x2 + 1)) (lv' := [(2, .int _), (0, .ref _), (1, .int _)]) dX6_reach_69 2 rfl rfl (by decide) rfl ?_
      refine v_goto C (tgt := 55) dX6_reach_72 (by decide) ?_
      refine V.sub (lv' := [(0, .ref _), (1, .int _), (2, .int _)]) [1, 2, 0] rfl ?_
      exact ih _ _  _ _ _ h
def f_X6_reach_24 : Nat → Int32 → Int32 → St → Option (Int32 × St)
  | 0, _, _, _ => none
  | n + 1, x1, x2, σ =>
    if (64 : Int32) ≤ x2 then
      f_X6_reach_55 FU x1 (0 : Int32) σ
    else
      rdI σ 30 (((64 : Int32) * x1) + x2) fun v1 =>
      wrI σ 39 x2 v1 fun σ2 =>
      f_X6_reach_24 n x1 (x2 + 1) σ2
set_option maxRecDepth 100000 in
set_option maxHeartbeats 4000000 in
theorem b_X6_reach_24 {g : Geo} {x : Cx} (C : Ok g x cX6_reach RX6 4 (some .int) rm_X6_reach) : ∀ (n : Nat) (x1 : Int32) (x2 : Int32) (σ : St) (r : Int32) (σ' : St), f_X6_reach_24 n x1 x2 σ = some (r, σ') → V g x (qm g x (some (.int r)) σ') 4 σ [(0, .ref (g.1 26)), (1, .int x1), (2, .int x2)] [] 24 := by
  intro n
  induction n with
  | zero =>
    intro x1 x2 σ r σ' h
    rw [f_X6_reach_24] at h
    cases h
  | succ n ih =>
    intro x1 x2 σ r σ' h
    rw [f_X6_reach_24] at h
    refine v_iload_n C dX6_reach_24 rfl 2 rfl ?_
    refine v_bipush C (v := (64 : Int32)) dX6_reach_25 (by decide) ?_
    refine v_icmp_ge C (tgt := 53) dX6_reach_27 (by decide) (fun q3 => ?_) (fun q3 => ?_)
    · rw [if_pos q3] at h
      refine v_iconst C (v := (0 : Int32)) dX6_reach_53 (by decide) ?_
      refine v_istore_n C (lv' := [(2, .int _), (0, .ref _), (1, .int _)]) dX6_reach_54 rfl (by decide) rfl ?_
      refine V.sub (lv' := [(0, .ref _), (1, .int _), (2, .int _)]) [1, 2, 0] rfl ?_
      exact b_X6_reach_55 C FU _ _  _ _ _ h
    · rw [if_neg q3] at h
      refine v_aload_n C dX6_reach_30 rfl 0 rfl ?_
      refine v_getR C (p' := 39) fl_RX6_48 rfl rfl dX6_reach_31 ?_
      refine v_iload_n C dX6_reach_34 rfl 2 rfl ?_
      refine v_aload_n C dX6_reach_35 rfl 0 rfl ?_
      refine v_getR C (p' := 30) fl_RX6_20 rfl rfl dX6_reach_36 ?_
      refine v_bipush C (v := (64 : Int32)) dX6_reach_39 (by decide) ?_
      refine v_iload_n C dX6_reach_41 rfl 1 rfl ?_
      refine v_imul C dX6_reach_42 ?_
      refine v_iload_n C dX6_reach_43 rfl 2 rfl ?_
      refine v_iadd C dX6_reach_44 ?_
      obtain ⟨nv1, v1, ev1, h⟩ := rdI_ex h
      refine x_iald C rfl nv1 ev1 dX6_reach_45 ?_
      obtain ⟨nσ2, σ2, eσ2, h⟩ := wrI_ex h
      refine x_iast C rfl nσ2 eσ2 dX6_reach_46 ?_
      refine v_iinc C (v := (x2 + 1)) (lv' := [(2, .int _), (0, .ref _), (1, .int _)]) dX6_reach_47 2 rfl rfl (by decide) rfl ?_
      refine v_goto C (tgt := 24) dX6_reach_50 (by decide) ?_
      refine V.sub (lv' := [(0, .ref _), (1, .int _), (2, .int _)]) [1, 2, 0] rfl ?_
      exact ih _ _  _ _ _ h
def f_X6_reach (a1 : Int32) (σ : St) : Option (Int32 × St) :=
  bd (f_X6_isSlot a1 σ) fun v1 σ2 =>
  if v1 = 0 then
    some ((-900001 : Int32), σ2)
  else
    rdI σ2 29 a1 fun v3 =>
    if v3 = 0 then
      some ((-900003 : Int32), σ2)
    else
      f_X6_reach_24 FU a1 (0 : Int32) σ2
set_option maxRecDepth 100000 in
set_option maxHeartbeats 4000000 in
theorem c_X6_reach {g : Geo} {a1 : Int32} {σ : St} {r : Int32} {σ' : St} (h : f_X6_reach a1 σ = some (r, σ')) : Ct g yX6_reach cX6_reach 4 (some .int) rm_X6_reach [.ref (g.1 26), .int a1] σ (some (.int r)) σ' := by
  refine ct_of (own := RX6) (by decide) rfl (Nat.le_of_ble_eq_true rfl) (fun x C => ?_) ⟨rfl, rfl⟩
  show V g x _ 4 σ [(0, .ref (g.1 26)), (1, .int a1)] [] 0
  unfold f_X6_reach at h
  refine v_iload_n C dX6_reach_0 rfl 1 rfl ?_
  obtain ⟨v1, σ2, cσ2, h⟩ := bd_some h
  refine callSi C (c_X6_isSlot cσ2) km_X6_isSlot ks_X6_isSlot ml_RX6_155 rfl rfl (by decide) (Nat.le_of_ble_eq_true rfl) dX6_reach_1 ?_
  refine v_if_ne C (tgt := 10) dX6_reach_4 (by decide) (fun q5 => ?_) (fun q5 => ?_)
  · rw [if_neg q5] at h
    refine v_aload_n C dX6_reach_10 rfl 0 rfl ?_
    refine v_getR C (p' := 29) fl_RX6_17 rfl rfl dX6_reach_11 ?_
    refine v_iload_n C dX6_reach_14 rfl 1 rfl ?_
    obtain ⟨nv3, v3, ev3, h⟩ := rdI_ex h
    refine x_zald C rfl nv3 ev3 dX6_reach_15 ?_
    refine v_if_ne C (tgt := 22) dX6_reach_16 (by decide) (fun q4 => ?_) (fun q4 => ?_)
    · rw [if_neg q4] at h
      refine v_iconst C (v := (0 : Int32)) dX6_reach_22 (by decide) ?_
      refine v_istore_n C (lv' := [(2, .int _), (0, .ref _), (1, .int _)]) dX6_reach_23 rfl (by decide) rfl ?_
      refine V.sub (lv' := [(0, .ref _), (1, .int _), (2, .int _)]) [1, 2, 0] rfl ?_
      exact b_X6_reach_24 C FU _ _  _ _ _ h
    · rw [if_pos q4] at h
      refine v_ldc C (v := (-900003 : Int32)) con_RX6_158 dX6_reach_19 ?_
      cases h
      exact v_iret C dX6_reach_21
  · rw [if_pos q5] at h
    refine v_ldc C (v := (-900001 : Int32)) con_RX6_97 dX6_reach_7 ?_
    cases h
    exact v_iret C dX6_reach_9
