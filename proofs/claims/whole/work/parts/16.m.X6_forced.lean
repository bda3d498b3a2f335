/-! ===== printed: X6_forced, X6_worth, X6_layBest, X6_span, X6_weight, X6_dearest, X6_isSlot, X6_lay, X6_isBest, X6_layDearest, X6_copy, X6_place, X6_kind, X6_count_ ===== -/
theorem dX6_forced_0 : decode cX6_forced 0 = .ok (.aload_n 0, 1) := by decide +kernel
theorem dX6_forced_1 : decode cX6_forced 1 = .ok (.invokevirtual 120, 3) := by decide +kernel
theorem dX6_forced_4 : decode cX6_forced 4 = .ok (.aload_n 0, 1) := by decide +kernel
theorem dX6_forced_5 : decode cX6_forced 5 = .ok (.invokevirtual 130, 3) := by decide +kernel
theorem dX6_forced_8 : decode cX6_forced 8 = .ok (.iconst 0, 1) := by decide +kernel
theorem dX6_forced_9 : decode cX6_forced 9 = .ok (.istore_n 1, 1) := by decide +kernel
theorem dX6_forced_10 : decode cX6_forced 10 = .ok (.iconst 0, 1) := by decide +kernel
theorem dX6_forced_11 : decode cX6_forced 11 = .ok (.istore_n 2, 1) := by decide +kernel
theorem dX6_forced_12 : decode cX6_forced 12 = .ok (.iload_n 2, 1) := by decide +kernel
theorem dX6_forced_13 : decode cX6_forced 13 = .ok (.aload_n 0, 1) := by decide +kernel
theorem dX6_forced_14 : decode cX6_forced 14 = .ok (.invokevirtual 80, 3) := by decide +kernel
theorem dX6_forced_17 : decode cX6_forced 17 = .ok (.if_icmp .ge 38, 3) := by decide +kernel
theorem dX6_forced_20 : decode cX6_forced 20 = .ok (.aload_n 0, 1) := by decide +kernel
theorem dX6_forced_21 : decode cX6_forced 21 = .ok (.iload_n 2, 1) := by decide +kernel
theorem dX6_forced_22 : decode cX6_forced 22 = .ok (.invokevirtual 137, 3) := by decide +kernel
theorem dX6_forced_25 : decode cX6_forced 25 = .ok (.istore_n 3, 1) := by decide +kernel
theorem dX6_forced_26 : decode cX6_forced 26 = .ok (.iload_n 1, 1) := by decide +kernel
theorem dX6_forced_27 : decode cX6_forced 27 = .ok (.iload_n 3, 1) := by decide +kernel
theorem dX6_forced_28 : decode cX6_forced 28 = .ok (.iconst 1, 1) := by decide +kernel
theorem dX6_forced_29 : decode cX6_forced 29 = .ok (.if_icmp .eq 13, 3) := by decide +kernel
theorem dX6_forced_32 : decode cX6_forced 32 = .ok (.iload_n 3, 1) := by decide +kernel
theorem dX6_forced_33 : decode cX6_forced 33 = .ok (.iconst 2, 1) := by decide +kernel
theorem dX6_forced_34 : decode cX6_forced 34 = .ok (.if_icmp .eq 8, 3) := by decide +kernel
theorem dX6_forced_37 : decode cX6_forced 37 = .ok (.iload_n 3, 1) := by decide +kernel
theorem dX6_forced_38 : decode cX6_forced 38 = .ok (.iconst 4, 1) := by decide +kernel
theorem dX6_forced_39 : decode cX6_forced 39 = .ok (.if_icmp .ne 7, 3) := by decide +kernel
theorem dX6_forced_42 : decode cX6_forced 42 = .ok (.iconst 1, 1) := by decide +kernel
theorem dX6_forced_43 : decode cX6_forced 43 = .ok (.goto 4, 3) := by decide +kernel
theorem dX6_forced_46 : decode cX6_forced 46 = .ok (.iconst 0, 1) := by decide +kernel
theorem dX6_forced_47 : decode cX6_forced 47 = .ok (.iadd, 1) := by decide +kernel
theorem dX6_forced_48 : decode cX6_forced 48 = .ok (.istore_n 1, 1) := by decide +kernel
theorem dX6_forced_49 : decode cX6_forced 49 = .ok (.iinc 2 1, 3) := by decide +kernel
theorem dX6_forced_52 : decode cX6_forced 52 = .ok (.goto (-40), 3) := by decide +kernel
theorem dX6_forced_55 : decode cX6_forced 55 = .ok (.iload_n 1, 1) := by decide +kernel
theorem dX6_forced_56 : decode cX6_forced 56 = .ok (.ireturn, 1) := by decide +kernel
def f_X6_forced_47 (k12 : Int32 → Int32 → St → Option (Int32 × St)) (x2 : Int32) (s0 : Int32) (s1 : Int32) (σ : St) : Option (Int32 × St) :=
  k12 (s0 + s1) (x2 + 1) σ
set_option maxRecDepth 100000 in
set_option maxHeartbeats 4000000 in
theorem b_X6_forced_47 {g : Geo} {x : Cx} (C : Ok g x cX6_forced RX6 4 (some .int) rm_X6_forced) (k12 : Int32 → Int32 → St → Option (Int32 × St)) (hk12 : ∀ (x1 : Int32) (x2 : Int32) (τ : St) (r : Int32) (τ' : St), k12 x1 x2 τ = some (r, τ') → V g x (qm g x (some (.int r)) τ') 4 τ [(0, .ref (g.1 26)), (1, .int x1), (2, .int x2)] [] 12) : ∀ (x2 : Int32) (s0 : Int32) (s1 : Int32) (σ : St) (r : Int32) (σ' : St), f_X6_forced_47 k12 x2 s0 s1 σ = some (r, σ') → V g x (qm g x (some (.int r)) σ') 4 σ [(0, .ref (g.1 26)), (2, .int x2)] [.int s1, .int s0] 47 := by
  intro x2 s0 s1 σ r σ' h
  unfold f_X6_forced_47 at h
  refine v_iadd C dX6_forced_47 ?_
  refine v_istore_n C (lv' := [(1, .int _), (0, .ref _), (2, .int _)]) dX6_forced_48 rfl (by decide) rfl ?_
  refine v_iinc C (v := (x2 + 1)) (lv' := [(2, .int _), (1, .int _), (0, .ref _)]) dX6_forced_49 2 rfl rfl (by decide) rfl ?_
  refine v_goto C (tgt := 12) dX6_forced_52 (by decide) ?_
  refine V.sub (lv' := [(0, .ref _), (1, .int _), (2, .int _)]) [2, 1, 0] rfl ?_
  exact hk12 _ _  _ _ _ h
def f_X6_forced_42 (k12 : Int32 → Int32 → St → Option (Int32 × St)) (x2 : Int32) (s0 : Int32) (σ : St) : Option (Int32 × St) :=
  f_X6_forced_47 k12 x2 s0 (1 : Int32) σ
set_option maxRecDepth 100000 in
set_option maxHeartbeats 4000000 in
theorem b_X6_forced_42 {g : Geo} {x : Cx} (C : Ok g x cX6_forced RX6 4 (some .int) rm_X6_forced) (k12 : Int32 → Int32 → St → Option (Int32 × St)) (hk12 : ∀ (x1 : Int32) (x2 : Int32) (τ : St) (r : Int32) (τ' : St), k12 x1 x2 τ = some (r, τ') → V g x (qm g x (some (.int r)) τ') 4 τ [(0, .ref (g.1 26)), (1, .int x1), (2, .int x2)] [] 12) : ∀ (x2 : Int32) (s0 : Int32) (σ : St) (r : Int32) (σ' : St), f_X6_forced_42 k12 x2 s0 σ = some (r, σ') → V g x (qm g x (some (.int r)) σ') 4 σ [(0, .ref (g.1 26)), (2, .int x2)] [.int s0] 42 := by
  intro x2 s0 σ r σ' h
  unfold f_X6_forced_42 at h
  refine v_iconst C (v := (1 : Int32)) dX6_forced_42 (by decide) ?_
  refine v_goto C (tgt := 47) dX6_forced_43 (by decide) ?_
  refine V.sub (lv' := [(0, .ref _), (2, .int _)]) [0, 1] rfl ?_
  exact b_X6_forced_47 C _ hk12 _ _ _  _ _ _ h
def f_X6_forced_12 : Nat → Int32 → Int32 → St → Option (Int32 × St)
  | 0, _, _, _ => none
  | n + 1, x1, x2, σ =>
    bd (f_X6_cells σ) fun v1 σ2 =>
    if v1 ≤ x2 then
      some (x1, σ2)
    else
      bd (f_X6_kindsOf x2 σ2) fun v3 σ4 =>
      if v3 = (1 : Int32) then
        f_X6_forced_42 (f_X6_forced_12 n) x2 x1 σ4
      else
        if v3 = (2 : Int32) then
          f_X6_forced_42 (f_X6_forced_12 n) x2 x1 σ4
        else
          if v3 = (4 : Int32) then
            f_X6_forced_42 (f_X6_forced_12 n) x2 x1 σ4
          else
            f_X6_forced_47 (f_X6_forced_12 n) x2 x1 (0 : Int32) σ4
set_option maxRecDepth 100000 in
set_option maxHeartbeats 4000000 in
theorem b_X6_forced_12 {g : Geo} {x : Cx} (C : Ok g x cX6_forced RX6 4 (some .int) rm_X6_forced) : ∀ (n : Nat) (x1 : Int32) (x2 : Int32) (σ : St) (r : Int32) (σ' : St), f_X6_forced_12 n x1 x2 σ = some (r, σ') → V g x (qm g x (some (.int r)) σ') 4 σ [(0, .ref (g.1 26)), (1, .int x1), (2, .int x2)] [] 12 := by
  intro n
  induction n with
  | zero =>
    intro x1 x2 σ r σ' h
    rw [f_X6_forced_12] at h
    cases h
  | succ n ih =>
    intro x1 x2 σ r σ' h
    rw [f_X6_forced_12] at h
    refine v_iload_n C dX6_forced_12 rfl 2 rfl ?_
    refine v_aload_n C dX6_forced_13 rfl 0 rfl ?_
    obtain ⟨v1, σ2, cσ2, h⟩ := bd_some h
    refine callVi C (c_X6_cells cσ2) km_X6_cells kv_X6_cells rfl ml_RX6_80 rfl rfl (by decide) (Nat.le_of_ble_eq_true rfl) dX6_forced_14 ?_
    refine v_icmp_ge C (tgt := 55) dX6_forced_17 (by decide) (fun q8 => ?_) (fun q8 => ?_)
    · rw [if_pos q8] at h
      refine v_iload_n C dX6_forced_55 rfl 1 rfl ?_
      cases h
      exact v_iret C dX6_forced_56
    · rw [if_neg q8] at h
      refine v_aload_n C dX6_forced_20 rfl 0 rfl ?_
      refine v_iload_n C dX6_forced_21 rfl 2 rfl ?_
      obtain ⟨v3, σ4, cσ4, h⟩ := bd_some h
      refine callVi C (c_X6_kindsOf cσ4) km_X6_kindsOf kv_X6_kindsOf rfl ml_RX6_137 rfl rfl (by decide) (Nat.le_of_ble_eq_true rfl) dX6_forced_22 ?_
      refine v_istore_n C (lv' := [(3, .int _), (0, .ref _), (1, .int _), (2, .int _)]) dX6_forced_25 rfl (by decide) rfl ?_
      refine v_iload_n C dX6_forced_26 rfl 2 rfl ?_
      refine v_iload_n C dX6_forced_27 rfl 0 rfl ?_
      refine v_iconst C (v := (1 : Int32)) dX6_forced_28 (by decide) ?_
      refine v_icmp_eq C (tgt := 42) dX6_forced_29 (by decide) (fun q7 => ?_) (fun q7 => ?_)
      · rw [if_pos q7] at h
        refine V.sub (lv' := [(0, .ref _), (2, .int _)]) [1, 3] rfl ?_
        exact b_X6_forced_42 C _ ih _ _  _ _ _ h
      · rw [if_neg q7] at h
        refine v_iload_n C dX6_forced_32 rfl 0 rfl ?_
        refine v_iconst C (v := (2 : Int32)) dX6_forced_33 (by decide) ?_
        refine v_icmp_eq C (tgt := 42) dX6_forced_34 (by decide) (fun q6 => ?_) (fun q6 => ?_)
        · rw [if_pos q6] at h
          refine V.sub (lv' := [(0, .ref _), (2, .int _)]) [1, 3] rfl ?_
          exact b_X6_forced_42 C _ ih _ _  _ _ _ h
        · rw [if_neg q6] at h
          refine v_iload_n C dX6_forced_37 rfl 0 rfl ?_
          refine v_iconst C (v := (4 : Int32)) dX6_forced_38 (by decide) ?_
          refine v_icmp_ne C (tgt := 46) dX6_forced_39 (by decide) (fun q5 => ?_) (fun q5 => ?_)
          · rw [if_neg q5] at h
            refine v_iconst C (v := (0 : Int32)) dX6_forced_46 (by decide) ?_
            refine V.sub (lv' := [(0, .ref _), (2, .int _)]) [1, 3] rfl ?_
            exact b_X6_forced_47 C _ ih _ _ _  _ _ _ h
          · rw [if_pos q5] at h
            refine V.sub (lv' := [(0, .ref _), (2, .int _)]) [1, 3] rfl ?_
            exact b_X6_forced_42 C _ ih _ _  _ _ _ h
def f_X6_forced (σ : St) : Option (Int32 × St) :=
  bd (f_X6_layWays σ) fun _ σ2 =>
  bd (f_X6_layCome σ2) fun _ σ4 =>
  f_X6_forced_12 FU (0 : Int32) (0 : Int32) σ4
set_option maxRecDepth 100000 in
set_option maxHeartbeats 4000000 in
theorem c_X6_forced {g : Geo} {σ : St} {r : Int32} {σ' : St} (h : f_X6_forced σ = some (r, σ')) : Ct g yX6_forced cX6_forced 4 (some .int) rm_X6_forced [.ref (g.1 26)] σ (some (.int r)) σ' := by
  refine ct_of (own := RX6) (by decide) rfl (Nat.le_of_ble_eq_true rfl) (fun x C => ?_) ⟨rfl, rfl⟩
  show V g x _ 4 σ [(0, .ref (g.1 26))] [] 0
  unfold f_X6_forced at h
  refine v_aload_n C dX6_forced_0 rfl 0 rfl ?_
  obtain ⟨v1, σ2, cσ2, h⟩ := bd_some h
  refine callVv C (c_X6_layWays cσ2) km_X6_layWays kv_X6_layWays rfl ml_RX6_120 rfl rfl (by decide) (Nat.le_of_ble_eq_true rfl) dX6_forced_1 ?_
  refine v_aload_n C dX6_forced_4 rfl 0 rfl ?_
  obtain ⟨v3, σ4, cσ4, h⟩ := bd_some h
  refine callVv C (c_X6_layCome cσ4) km_X6_layCome kv_X6_layCome rfl ml_RX6_130 rfl rfl (by decide) (Nat.le_of_ble_eq_true rfl) dX6_forced_5 ?_
  refine v_iconst C (v := (0 : Int32)) dX6_forced_8 (by decide) ?_
  refine v_istore_n C (lv' := [(1, .int _), (0, .ref _)]) dX6_forced_9 rfl (by decide) rfl ?_
  refine v_iconst C (v := (0 : Int32)) dX6_forced_10 (by decide) ?_
  refine v_istore_n C (lv' := [(2, .int _), (1, .int _), (0, .ref _)]) dX6_forced_11 rfl (by decide) rfl ?_
  refine V.sub (lv' := [(0, .ref _), (1, .int _), (2, .int _)]) [2, 1, 0] rfl ?_
  exact b_X6_forced_12 C FU _ _  _ _ _ h
theorem dX6_worth_0 : decode cX6_worth 0 = .ok (.iload_n 2, 1) := by decide +kernel
theorem dX6_worth_1 : decode cX6_worth 1 = .ok (.iconst 3, 1) := by decide +kernel
theorem dX6_worth_2 : decode cX6_worth 2 = .ok (.if_icmp .ne 7, 3) := by decide +kernel
theorem dX6_worth_5 : decode cX6_worth 5 = .ok (.iconst 0, 1) := by decide +kernel
theorem dX6_worth_6 : decode cX6_worth 6 = .ok (.goto 40, 3) := by decide +kernel
theorem dX6_worth_9 : decode cX6_worth 9 = .ok (.iload_n 3, 1) := by decide +kernel
theorem dX6_worth_10 : decode cX6_worth 10 = .ok (.iconst 3, 1) := by decide +kernel
theorem dX6_worth_11 : decode cX6_worth 11 = .ok (.if_icmp .ne 16, 3) := by decide +kernel
theorem dX6_worth_14 : decode cX6_worth 14 = .ok (.aload_n 0, 1) := by decide +kernel
theorem dX6_worth_15 : decode cX6_worth 15 = .ok (.getfield 13, 3) := by decide +kernel
theorem dX6_worth_18 : decode cX6_worth 18 = .ok (.iconst 3, 1) := by decide +kernel
theorem dX6_worth_19 : decode cX6_worth 19 = .ok (.iload_n 1, 1) := by decide +kernel
theorem dX6_worth_20 : decode cX6_worth 20 = .ok (.imul, 1) := by decide +kernel
theorem dX6_worth_21 : decode cX6_worth 21 = .ok (.iload_n 2, 1) := by decide +kernel
theorem dX6_worth_22 : decode cX6_worth 22 = .ok (.iadd, 1) := by decide +kernel
theorem dX6_worth_23 : decode cX6_worth 23 = .ok (.iaload, 1) := by decide +kernel
theorem dX6_worth_24 : decode cX6_worth 24 = .ok (.goto 22, 3) := by decide +kernel
theorem dX6_worth_27 : decode cX6_worth 27 = .ok (.iload_n 3, 1) := by decide +kernel
theorem dX6_worth_28 : decode cX6_worth 28 = .ok (.iload_n 2, 1) := by decide +kernel
theorem dX6_worth_29 : decode cX6_worth 29 = .ok (.if_icmp .eq 7, 3) := by decide +kernel
theorem dX6_worth_32 : decode cX6_worth 32 = .ok (.iconst 0, 1) := by decide +kernel
theorem dX6_worth_33 : decode cX6_worth 33 = .ok (.goto 13, 3) := by decide +kernel
theorem dX6_worth_36 : decode cX6_worth 36 = .ok (.iload 4, 2) := by decide +kernel
theorem dX6_worth_38 : decode cX6_worth 38 = .ok (.ifCond .eq 7, 3) := by decide +kernel
theorem dX6_worth_41 : decode cX6_worth 41 = .ok (.iconst 1, 1) := by decide +kernel
theorem dX6_worth_42 : decode cX6_worth 42 = .ok (.goto 4, 3) := by decide +kernel
theorem dX6_worth_45 : decode cX6_worth 45 = .ok (.iconst (-1), 1) := by decide +kernel
theorem dX6_worth_46 : decode cX6_worth 46 = .ok (.ireturn, 1) := by decide +kernel
def f_X6_worth_46 (s0 : Int32) (σ : St) : Option (Int32 × St) :=
  some (s0, σ)
set_option maxRecDepth 100000 in
set_option maxHeartbeats 4000000 in
theorem b_X6_worth_46 {g : Geo} {x : Cx} (C : Ok g x cX6_worth RX6 5 (some .int) rm_X6_worth) : ∀ (s0 : Int32) (σ : St) (r : Int32) (σ' : St), f_X6_worth_46 s0 σ = some (r, σ') → V g x (qm g x (some (.int r)) σ') 5 σ [] [.int s0] 46 := by
  intro s0 σ r σ' h
  unfold f_X6_worth_46 at h
  cases h
  exact v_iret C dX6_worth_46
def f_X6_worth (a1 : Int32) (a2 : Int32) (a3 : Int32) (a4 : Int32) (σ : St) : Option (Int32 × St) :=
  if a2 = (3 : Int32) then
    f_X6_worth_46 (0 : Int32) σ
  else
    if a3 = (3 : Int32) then
      rdI σ 28 (((3 : Int32) * a1) + a2) fun v3 =>
      f_X6_worth_46 v3 σ
    else
      if a3 = a2 then
        if a4 = 0 then
          f_X6_worth_46 (-1 : Int32) σ
        else
          f_X6_worth_46 (1 : Int32) σ
      else
        f_X6_worth_46 (0 : Int32) σ
set_option maxRecDepth 100000 in
set_option maxHeartbeats 4000000 in
theorem c_X6_worth {g : Geo} {a1 : Int32} {a2 : Int32} {a3 : Int32} {a4 : Int32} {σ : St} {r : Int32} {σ' : St} (h : f_X6_worth a1 a2 a3 a4 σ = some (r, σ')) : Ct g yX6_worth cX6_worth 5 (some .int) rm_X6_worth [.ref (g.1 26), .int a1, .int a2, .int a3, .int a4] σ (some (.int r)) σ' := by
  refine ct_of (own := RX6) (by decide) rfl (Nat.le_of_ble_eq_true rfl) (fun x C => ?_) ⟨rfl, rfl⟩
  show V g x _ 5 σ [(0, .ref (g.1 26)), (1, .int a1), (2, .int a2), (3, .int a3), (4, .int a4)] [] 0
  unfold f_X6_worth at h
  refine v_iload_n C dX6_worth_0 rfl 2 rfl ?_
  refine v_iconst C (v := (3 : Int32)) dX6_worth_1 (by decide) ?_
  refine v_icmp_ne C (tgt := 9) dX6_worth_2 (by decide) (fun q5 => ?_) (fun q5 => ?_)
  · rw [if_neg q5] at h
    refine v_iload_n C dX6_worth_9 rfl 3 rfl ?_
    refine v_iconst C (v := (3 : Int32)) dX6_worth_10 (by decide) ?_
    refine v_icmp_ne C (tgt := 27) dX6_worth_11 (by decide) (fun q4 => ?_) (fun q4 => ?_)
    · rw [if_neg q4] at h
      refine v_iload_n C dX6_worth_27 rfl 3 rfl ?_
      refine v_iload_n C dX6_worth_28 rfl 2 rfl ?_
      refine v_icmp_eq C (tgt := 36) dX6_worth_29 (by decide) (fun q2 => ?_) (fun q2 => ?_)
      · rw [if_pos q2] at h
        refine v_iload C dX6_worth_36 4 rfl ?_
        refine v_if_eq C (tgt := 45) dX6_worth_38 (by decide) (fun q1 => ?_) (fun q1 => ?_)
        · rw [if_pos q1] at h
          refine v_iconst C (v := (-1 : Int32)) dX6_worth_45 (by decide) ?_
          refine V.sub (lv' := []) [] rfl ?_
          exact b_X6_worth_46 C _  _ _ _ h
        · rw [if_neg q1] at h
          refine v_iconst C (v := (1 : Int32)) dX6_worth_41 (by decide) ?_
          refine v_goto C (tgt := 46) dX6_worth_42 (by decide) ?_
          refine V.sub (lv' := []) [] rfl ?_
          exact b_X6_worth_46 C _  _ _ _ h
      · rw [if_neg q2] at h
        refine v_iconst C (v := (0 : Int32)) dX6_worth_32 (by decide) ?_
        refine v_goto C (tgt := 46) dX6_worth_33 (by decide) ?_
        refine V.sub (lv' := []) [] rfl ?_
        exact b_X6_worth_46 C _  _ _ _ h
    · rw [if_pos q4] at h
      refine v_aload_n C dX6_worth_14 rfl 0 rfl ?_
      refine v_getR C (p' := 28) fl_RX6_13 rfl rfl dX6_worth_15 ?_
      refine v_iconst C (v := (3 : Int32)) dX6_worth_18 (by decide) ?_
      refine v_iload_n C dX6_worth_19 rfl 1 rfl ?_
      refine v_imul C dX6_worth_20 ?_
      refine v_iload_n C dX6_worth_21 rfl 2 rfl ?_
      refine v_iadd C dX6_worth_22 ?_
      obtain ⟨nv3, v3, ev3, h⟩ := rdI_ex h
      refine x_iald C rfl nv3 ev3 dX6_worth_23 ?_
      refine v_goto C (tgt := 46) dX6_worth_24 (by decide) ?_
      refine V.sub (lv' := []) [] rfl ?_
      exact b_X6_worth_46 C _  _ _ _ h
  · rw [if_pos q5] at h
    refine v_iconst C (v := (0 : Int32)) dX6_worth_5 (by decide) ?_
    refine v_goto C (tgt := 46) dX6_worth_6 (by decide) ?_
    refine V.sub (lv' := []) [] rfl ?_
    exact b_X6_worth_46 C _  _ _ _ h
theorem dX6_layBest_0 : decode cX6_layBest 0 = .ok (.iconst 1, 1) := by decide +kernel
theorem dX6_layBest_1 : decode cX6_layBest 1 = .ok (.aload_n 0, 1) := by decide +kernel
theorem dX6_layBest_2 : decode cX6_layBest 2 = .ok (.getfield 70, 3) := by decide +kernel
theorem dX6_layBest_5 : decode cX6_layBest 5 = .ok (.ishl, 1) := by decide +kernel
theorem dX6_layBest_6 : decode cX6_layBest 6 = .ok (.istore_n 3, 1) := by decide +kernel
theorem dX6_layBest_7 : decode cX6_layBest 7 = .ok (.iconst 0, 1) := by decide +kernel
theorem dX6_layBest_8 : decode cX6_layBest 8 = .ok (.istore 4, 2) := by decide +kernel
theorem dX6_layBest_10 : decode cX6_layBest 10 = .ok (.iload 4, 2) := by decide +kernel
theorem dX6_layBest_12 : decode cX6_layBest 12 = .ok (.iload_n 3, 1) := by decide +kernel
theorem dX6_layBest_13 : decode cX6_layBest 13 = .ok (.if_icmp .ge 36, 3) := by decide +kernel
theorem dX6_layBest_16 : decode cX6_layBest 16 = .ok (.aload_n 0, 1) := by decide +kernel
theorem dX6_layBest_17 : decode cX6_layBest 17 = .ok (.getfield 30, 3) := by decide +kernel
theorem dX6_layBest_20 : decode cX6_layBest 20 = .ok (.sipush 256, 3) := by decide +kernel
theorem dX6_layBest_23 : decode cX6_layBest 23 = .ok (.aload_n 0, 1) := by decide +kernel
theorem dX6_layBest_24 : decode cX6_layBest 24 = .ok (.invokevirtual 80, 3) := by decide +kernel
theorem dX6_layBest_27 : decode cX6_layBest 27 = .ok (.imul, 1) := by decide +kernel
theorem dX6_layBest_28 : decode cX6_layBest 28 = .ok (.iload 4, 2) := by decide +kernel
theorem dX6_layBest_30 : decode cX6_layBest 30 = .ok (.iadd, 1) := by decide +kernel
theorem dX6_layBest_31 : decode cX6_layBest 31 = .ok (.iload 4, 2) := by decide +kernel
theorem dX6_layBest_33 : decode cX6_layBest 33 = .ok (.ifCond .ne 7, 3) := by decide +kernel
theorem dX6_layBest_36 : decode cX6_layBest 36 = .ok (.iconst 0, 1) := by decide +kernel
theorem dX6_layBest_37 : decode cX6_layBest 37 = .ok (.goto 5, 3) := by decide +kernel
theorem dX6_layBest_40 : decode cX6_layBest 40 = .ok (.ldc 112, 2) := by decide +kernel
theorem dX6_layBest_42 : decode cX6_layBest 42 = .ok (.iastore, 1) := by decide +kernel
theorem dX6_layBest_43 : decode cX6_layBest 43 = .ok (.iinc 4 1, 3) := by decide +kernel
theorem dX6_layBest_46 : decode cX6_layBest 46 = .ok (.goto (-36), 3) := by decide +kernel
theorem dX6_layBest_49 : decode cX6_layBest 49 = .ok (.aload_n 0, 1) := by decide +kernel
theorem dX6_layBest_50 : decode cX6_layBest 50 = .ok (.invokevirtual 80, 3) := by decide +kernel
theorem dX6_layBest_53 : decode cX6_layBest 53 = .ok (.iconst 1, 1) := by decide +kernel
theorem dX6_layBest_54 : decode cX6_layBest 54 = .ok (.isub, 1) := by decide +kernel
theorem dX6_layBest_55 : decode cX6_layBest 55 = .ok (.istore 4, 2) := by decide +kernel
theorem dX6_layBest_57 : decode cX6_layBest 57 = .ok (.iload 4, 2) := by decide +kernel
theorem dX6_layBest_59 : decode cX6_layBest 59 = .ok (.ifCond .lt 146, 3) := by decide +kernel
theorem dX6_layBest_62 : decode cX6_layBest 62 = .ok (.iconst 0, 1) := by decide +kernel
theorem dX6_layBest_63 : decode cX6_layBest 63 = .ok (.istore 5, 2) := by decide +kernel
theorem dX6_layBest_65 : decode cX6_layBest 65 = .ok (.iload 5, 2) := by decide +kernel
theorem dX6_layBest_67 : decode cX6_layBest 67 = .ok (.iload_n 3, 1) := by decide +kernel
theorem dX6_layBest_68 : decode cX6_layBest 68 = .ok (.if_icmp .ge 131, 3) := by decide +kernel
theorem dX6_layBest_71 : decode cX6_layBest 71 = .ok (.ldc 112, 2) := by decide +kernel
theorem dX6_layBest_73 : decode cX6_layBest 73 = .ok (.istore 6, 2) := by decide +kernel
theorem dX6_layBest_75 : decode cX6_layBest 75 = .ok (.iconst 0, 1) := by decide +kernel
theorem dX6_layBest_76 : decode cX6_layBest 76 = .ok (.istore 7, 2) := by decide +kernel
theorem dX6_layBest_78 : decode cX6_layBest 78 = .ok (.iload 7, 2) := by decide +kernel
theorem dX6_layBest_80 : decode cX6_layBest 80 = .ok (.iconst 4, 1) := by decide +kernel
theorem dX6_layBest_81 : decode cX6_layBest 81 = .ok (.if_icmp .ge 96, 3) := by decide +kernel
theorem dX6_layBest_84 : decode cX6_layBest 84 = .ok (.aload_n 0, 1) := by decide +kernel
theorem dX6_layBest_85 : decode cX6_layBest 85 = .ok (.iload 4, 2) := by decide +kernel
theorem dX6_layBest_87 : decode cX6_layBest 87 = .ok (.iload 5, 2) := by decide +kernel
theorem dX6_layBest_89 : decode cX6_layBest 89 = .ok (.iload 7, 2) := by decide +kernel
theorem dX6_layBest_91 : decode cX6_layBest 91 = .ok (.invokevirtual 116, 3) := by decide +kernel
theorem dX6_layBest_94 : decode cX6_layBest 94 = .ok (.istore 8, 2) := by decide +kernel
theorem dX6_layBest_96 : decode cX6_layBest 96 = .ok (.iload 8, 2) := by decide +kernel
theorem dX6_layBest_98 : decode cX6_layBest 98 = .ok (.ldc 112, 2) := by decide +kernel
theorem dX6_layBest_100 : decode cX6_layBest 100 = .ok (.if_icmp .ne 8, 3) := by decide +kernel
theorem dX6_layBest_103 : decode cX6_layBest 103 = .ok (.ldc 112, 2) := by decide +kernel
theorem dX6_layBest_105 : decode cX6_layBest 105 = .ok (.goto 21, 3) := by decide +kernel
theorem dX6_layBest_108 : decode cX6_layBest 108 = .ok (.aload_n 0, 1) := by decide +kernel
theorem dX6_layBest_109 : decode cX6_layBest 109 = .ok (.getfield 30, 3) := by decide +kernel
theorem dX6_layBest_112 : decode cX6_layBest 112 = .ok (.sipush 256, 3) := by decide +kernel
theorem dX6_layBest_115 : decode cX6_layBest 115 = .ok (.iload 4, 2) := by decide +kernel
theorem dX6_layBest_117 : decode cX6_layBest 117 = .ok (.imul, 1) := by decide +kernel
theorem dX6_layBest_118 : decode cX6_layBest 118 = .ok (.sipush 256, 3) := by decide +kernel
theorem dX6_layBest_121 : decode cX6_layBest 121 = .ok (.iadd, 1) := by decide +kernel
theorem dX6_layBest_122 : decode cX6_layBest 122 = .ok (.iload 8, 2) := by decide +kernel
theorem dX6_layBest_124 : decode cX6_layBest 124 = .ok (.iadd, 1) := by decide +kernel
theorem dX6_layBest_125 : decode cX6_layBest 125 = .ok (.iaload, 1) := by decide +kernel
theorem dX6_layBest_126 : decode cX6_layBest 126 = .ok (.istore 9, 2) := by decide +kernel
theorem dX6_layBest_128 : decode cX6_layBest 128 = .ok (.iload 9, 2) := by decide +kernel
theorem dX6_layBest_130 : decode cX6_layBest 130 = .ok (.ldc 112, 2) := by decide +kernel
theorem dX6_layBest_132 : decode cX6_layBest 132 = .ok (.if_icmp .ne 8, 3) := by decide +kernel
theorem dX6_layBest_135 : decode cX6_layBest 135 = .ok (.ldc 112, 2) := by decide +kernel
theorem dX6_layBest_137 : decode cX6_layBest 137 = .ok (.goto 16, 3) := by decide +kernel
theorem dX6_layBest_140 : decode cX6_layBest 140 = .ok (.iload 9, 2) := by decide +kernel
theorem dX6_layBest_142 : decode cX6_layBest 142 = .ok (.aload_n 0, 1) := by decide +kernel
theorem dX6_layBest_143 : decode cX6_layBest 143 = .ok (.iload 4, 2) := by decide +kernel
theorem dX6_layBest_145 : decode cX6_layBest 145 = .ok (.iload 7, 2) := by decide +kernel
theorem dX6_layBest_147 : decode cX6_layBest 147 = .ok (.iload_n 1, 1) := by decide +kernel
theorem dX6_layBest_148 : decode cX6_layBest 148 = .ok (.iload_n 2, 1) := by decide +kernel
theorem dX6_layBest_149 : decode cX6_layBest 149 = .ok (.invokevirtual 141, 3) := by decide +kernel
theorem dX6_layBest_152 : decode cX6_layBest 152 = .ok (.iadd, 1) := by decide +kernel
theorem dX6_layBest_153 : decode cX6_layBest 153 = .ok (.istore 10, 2) := by decide +kernel
theorem dX6_layBest_155 : decode cX6_layBest 155 = .ok (.iload 10, 2) := by decide +kernel
theorem dX6_layBest_157 : decode cX6_layBest 157 = .ok (.iload 6, 2) := by decide +kernel
theorem dX6_layBest_159 : decode cX6_layBest 159 = .ok (.if_icmp .le 8, 3) := by decide +kernel
theorem dX6_layBest_162 : decode cX6_layBest 162 = .ok (.iload 10, 2) := by decide +kernel
theorem dX6_layBest_164 : decode cX6_layBest 164 = .ok (.goto 5, 3) := by decide +kernel
theorem dX6_layBest_167 : decode cX6_layBest 167 = .ok (.iload 6, 2) := by decide +kernel
theorem dX6_layBest_169 : decode cX6_layBest 169 = .ok (.istore 6, 2) := by decide +kernel
theorem dX6_layBest_171 : decode cX6_layBest 171 = .ok (.iinc 7 1, 3) := by decide +kernel
theorem dX6_layBest_174 : decode cX6_layBest 174 = .ok (.goto (-96), 3) := by decide +kernel
theorem dX6_layBest_177 : decode cX6_layBest 177 = .ok (.aload_n 0, 1) := by decide +kernel
theorem dX6_layBest_178 : decode cX6_layBest 178 = .ok (.getfield 30, 3) := by decide +kernel
theorem dX6_layBest_181 : decode cX6_layBest 181 = .ok (.sipush 256, 3) := by decide +kernel
theorem dX6_layBest_184 : decode cX6_layBest 184 = .ok (.iload 4, 2) := by decide +kernel
theorem dX6_layBest_186 : decode cX6_layBest 186 = .ok (.imul, 1) := by decide +kernel
theorem dX6_layBest_187 : decode cX6_layBest 187 = .ok (.iload 5, 2) := by decide +kernel
theorem dX6_layBest_189 : decode cX6_layBest 189 = .ok (.iadd, 1) := by decide +kernel
theorem dX6_layBest_190 : decode cX6_layBest 190 = .ok (.iload 6, 2) := by decide +kernel
theorem dX6_layBest_192 : decode cX6_layBest 192 = .ok (.iastore, 1) := by decide +kernel
theorem dX6_layBest_193 : decode cX6_layBest 193 = .ok (.iinc 5 1, 3) := by decide +kernel
theorem dX6_layBest_196 : decode cX6_layBest 196 = .ok (.goto (-131), 3) := by decide +kernel
theorem dX6_layBest_199 : decode cX6_layBest 199 = .ok (.iinc 4 (-1), 3) := by decide +kernel
theorem dX6_layBest_202 : decode cX6_layBest 202 = .ok (.goto (-145), 3) := by decide +kernel
theorem dX6_layBest_205 : decode cX6_layBest 205 = .ok (.return_, 1) := by decide +kernel
def f_X6_layBest_169 (k78 : Int32 → Int32 → Int32 → Int32 → Int32 → Int32 → Int32 → St → Option (Unit × St)) (x1 : Int32) (x2 : Int32) (x3 : Int32) (x4 : Int32) (x5 : Int32) (x7 : Int32) (s0 : Int32) (σ : St) : Option (Unit × St) :=
  k78 x1 x2 x3 x4 x5 s0 (x7 + 1) σ
set_option maxRecDepth 100000 in
set_option maxHeartbeats 4000000 in
theorem b_X6_layBest_169 {g : Geo} {x : Cx} (C : Ok g x cX6_layBest RX6 11 none rm_X6_layBest) (k78 : Int32 → Int32 → Int32 → Int32 → Int32 → Int32 → Int32 → St → Option (Unit × St)) (hk78 : ∀ (x1 : Int32) (x2 : Int32) (x3 : Int32) (x4 : Int32) (x5 : Int32) (x6 : Int32) (x7 : Int32) (τ : St) (r : Unit) (τ' : St), k78 x1 x2 x3 x4 x5 x6 x7 τ = some (r, τ') → V g x (qm g x none τ') 11 τ [(0, .ref (g.1 26)), (1, .int x1), (2, .int x2), (3, .int x3), (4, .int x4), (5, .int x5), (6, .int x6), (7, .int x7)] [] 78) : ∀ (x1 : Int32) (x2 : Int32) (x3 : Int32) (x4 : Int32) (x5 : Int32) (x7 : Int32) (s0 : Int32) (σ : St) (r : Unit) (σ' : St), f_X6_layBest_169 k78 x1 x2 x3 x4 x5 x7 s0 σ = some (r, σ') → V g x (qm g x none σ') 11 σ [(0, .ref (g.1 26)), (1, .int x1), (2, .int x2), (3, .int x3), (4, .int x4), (5, .int x5), (7, .int x7)] [.int s0] 169 := by
  intro x1 x2 x3 x4 x5 x7 s0 σ r σ' h
  unfold f_X6_layBest_169 at h
  refine v_istore C (lv' := [(6, .int _), (0, .ref _), (1, .int _), (2, .int _), (3, .int _), (4, .int _), (5, .int _), (7, .int _)]) dX6_layBest_169 (by decide) rfl ?_
  refine v_iinc C (v := (x7 + 1)) (lv' := [(7, .int _), (6, .int _), (0, .ref _), (1, .int _), (2, .int _), (3, .int _), (4, .int _), (5, .int _)]) dX6_layBest_171 7 rfl rfl (by decide) rfl ?_
  refine v_goto C (tgt := 78) dX6_layBest_174 (by decide) ?_
  refine V.sub (lv' := [(0, .ref _), (1, .int _), (2, .int _), (3, .int _), (4, .int _), (5, .int _), (6, .int _), (7, .int _)]) [2, 3, 4, 5, 6, 7, 1, 0] rfl ?_
  exact hk78 _ _ _ _ _ _ _  _ _ _ h
def f_X6_layBest_153 (k78 : Int32 → Int32 → Int32 → Int32 → Int32 → Int32 → Int32 → St → Option (Unit × St)) (x1 : Int32) (x2 : Int32) (x3 : Int32) (x4 : Int32) (x5 : Int32) (x6 : Int32) (x7 : Int32) (s0 : Int32) (σ : St) : Option (Unit × St) :=
  if s0 ≤ x6 then
    f_X6_layBest_169 k78 x1 x2 x3 x4 x5 x7 x6 σ
  else
    f_X6_layBest_169 k78 x1 x2 x3 x4 x5 x7 s0 σ
set_option maxRecDepth 100000 in
set_option maxHeartbeats 4000000 in
theorem b_X6_layBest_153 {g : Geo} {x : Cx} (C : Ok g x cX6_layBest RX6 11 none rm_X6_layBest) (k78 : Int32 → Int32 → Int32 → Int32 → Int32 → Int32 → Int32 → St → Option (Unit × St)) (hk78 : ∀ (x1 : Int32) (x2 : Int32) (x3 : Int32) (x4 : Int32) (x5 : Int32) (x6 : Int32) (x7 : Int32) (τ : St) (r : Unit) (τ' : St), k78 x1 x2 x3 x4 x5 x6 x7 τ = some (r, τ') → V g x (qm g x none τ') 11 τ [(0, .ref (g.1 26)), (1, .int x1), (2, .int x2), (3, .int x3), (4, .int x4), (5, .int x5), (6, .int x6), (7, .int x7)] [] 78) : ∀ (x1 : Int32) (x2 : Int32) (x3 : Int32) (x4 : Int32) (x5 : Int32) (x6 : Int32) (x7 : Int32) (s0 : Int32) (σ : St) (r : Unit) (σ' : St), f_X6_layBest_153 k78 x1 x2 x3 x4 x5 x6 x7 s0 σ = some (r, σ') → V g x (qm g x none σ') 11 σ [(0, .ref (g.1 26)), (1, .int x1), (2, .int x2), (3, .int x3), (4, .int x4), (5, .int x5), (6, .int x6), (7, .int x7)] [.int s0] 153 := by
  intro x1 x2 x3 x4 x5 x6 x7 s0 σ r σ' h
  unfold f_X6_layBest_153 at h
  refine v_istore C (lv' := [(10, .int _), (0, .ref _), (1, .int _), (2, .int _), (3, .int _), (4, .int _), (5, .int _), (6, .int _), (7, .int _)]) dX6_layBest_153 (by decide) rfl ?_
  refine v_iload C dX6_layBest_155 0 rfl ?_
  refine v_iload C dX6_layBest_157 7 rfl ?_
  refine v_icmp_le C (tgt := 167) dX6_layBest_159 (by decide) (fun q1 => ?_) (fun q1 => ?_)
  · rw [if_pos q1] at h
    refine v_iload C dX6_layBest_167 7 rfl ?_
    refine V.sub (lv' := [(0, .ref _), (1, .int _), (2, .int _), (3, .int _), (4, .int _), (5, .int _), (7, .int _)]) [1, 2, 3, 4, 5, 6, 8] rfl ?_
    exact b_X6_layBest_169 C _ hk78 _ _ _ _ _ _ _  _ _ _ h
  · rw [if_neg q1] at h
    refine v_iload C dX6_layBest_162 0 rfl ?_
    refine v_goto C (tgt := 169) dX6_layBest_164 (by decide) ?_
    refine V.sub (lv' := [(0, .ref _), (1, .int _), (2, .int _), (3, .int _), (4, .int _), (5, .int _), (7, .int _)]) [1, 2, 3, 4, 5, 6, 8] rfl ?_
    exact b_X6_layBest_169 C _ hk78 _ _ _ _ _ _ _  _ _ _ h
def f_X6_layBest_126 (k78 : Int32 → Int32 → Int32 → Int32 → Int32 → Int32 → Int32 → St → Option (Unit × St)) (x1 : Int32) (x2 : Int32) (x3 : Int32) (x4 : Int32) (x5 : Int32) (x6 : Int32) (x7 : Int32) (s0 : Int32) (σ : St) : Option (Unit × St) :=
  if s0 = (-900009 : Int32) then
    f_X6_layBest_153 k78 x1 x2 x3 x4 x5 x6 x7 (-900009 : Int32) σ
  else
    bd (f_X6_worth x4 x7 x1 x2 σ) fun v1 σ2 =>
    f_X6_layBest_153 k78 x1 x2 x3 x4 x5 x6 x7 (s0 + v1) σ2
set_option maxRecDepth 100000 in
set_option maxHeartbeats 4000000 in
theorem b_X6_layBest_126 {g : Geo} {x : Cx} (C : Ok g x cX6_layBest RX6 11 none rm_X6_layBest) (k78 : Int32 → Int32 → Int32 → Int32 → Int32 → Int32 → Int32 → St → Option (Unit × St)) (hk78 : ∀ (x1 : Int32) (x2 : Int32) (x3 : Int32) (x4 : Int32) (x5 : Int32) (x6 : Int32) (x7 : Int32) (τ : St) (r : Unit) (τ' : St), k78 x1 x2 x3 x4 x5 x6 x7 τ = some (r, τ') → V g x (qm g x none τ') 11 τ [(0, .ref (g.1 26)), (1, .int x1), (2, .int x2), (3, .int x3), (4, .int x4), (5, .int x5), (6, .int x6), (7, .int x7)] [] 78) : ∀ (x1 : Int32) (x2 : Int32) (x3 : Int32) (x4 : Int32) (x5 : Int32) (x6 : Int32) (x7 : Int32) (s0 : Int32) (σ : St) (r : Unit) (σ' : St), f_X6_layBest_126 k78 x1 x2 x3 x4 x5 x6 x7 s0 σ = some (r, σ') → V g x (qm g x none σ') 11 σ [(0, .ref (g.1 26)), (1, .int x1), (2, .int x2), (3, .int x3), (4, .int x4), (5, .int x5), (6, .int x6), (7, .int x7)] [.int s0] 126 := by
  intro x1 x2 x3 x4 x5 x6 x7 s0 σ r σ' h
  unfold f_X6_layBest_126 at h
  refine v_istore C (lv' := [(9, .int _), (0, .ref _), (1, .int _), (2, .int _), (3, .int _), (4, .int _), (5, .int _), (6, .int _), (7, .int _)]) dX6_layBest_126 (by decide) rfl ?_
  refine v_iload C dX6_layBest_128 0 rfl ?_
  refine v_ldc C (v := (-900009 : Int32)) con_RX6_112 dX6_layBest_130 ?_
  refine v_icmp_ne C (tgt := 140) dX6_layBest_132 (by decide) (fun q3 => ?_) (fun q3 => ?_)
  · rw [if_neg q3] at h
    refine v_iload C dX6_layBest_140 0 rfl ?_
    refine v_aload_n C dX6_layBest_142 rfl 1 rfl ?_
    refine v_iload C dX6_layBest_143 5 rfl ?_
    refine v_iload C dX6_layBest_145 8 rfl ?_
    refine v_iload_n C dX6_layBest_147 rfl 2 rfl ?_
    refine v_iload_n C dX6_layBest_148 rfl 3 rfl ?_
    obtain ⟨v1, σ2, cσ2, h⟩ := bd_some h
    refine callVi C (c_X6_worth cσ2) km_X6_worth kv_X6_worth rfl ml_RX6_141 rfl rfl (by decide) (Nat.le_of_ble_eq_true rfl) dX6_layBest_149 ?_
    refine v_iadd C dX6_layBest_152 ?_
    refine V.sub (lv' := [(0, .ref _), (1, .int _), (2, .int _), (3, .int _), (4, .int _), (5, .int _), (6, .int _), (7, .int _)]) [1, 2, 3, 4, 5, 6, 7, 8] rfl ?_
    exact b_X6_layBest_153 C _ hk78 _ _ _ _ _ _ _ _  _ _ _ h
  · rw [if_pos q3] at h
    refine v_ldc C (v := (-900009 : Int32)) con_RX6_112 dX6_layBest_135 ?_
    refine v_goto C (tgt := 153) dX6_layBest_137 (by decide) ?_
    refine V.sub (lv' := [(0, .ref _), (1, .int _), (2, .int _), (3, .int _), (4, .int _), (5, .int _), (6, .int _), (7, .int _)]) [1, 2, 3, 4, 5, 6, 7, 8] rfl ?_
    exact b_X6_layBest_153 C _ hk78 _ _ _ _ _ _ _ _  _ _ _ h
def f_X6_layBest_78 (k65 : Int32 → Int32 → Int32 → Int32 → Int32 → St → Option (Unit × St)) : Nat → Int32 → Int32 → Int32 → Int32 → Int32 → Int32 → Int32 → St → Option (Unit × St)
  | 0, _, _, _, _, _, _, _, _ => none
  | n + 1, x1, x2, x3, x4, x5, x6, x7, σ =>
    if (4 : Int32) ≤ x7 then
      wrI σ 33 (((256 : Int32) * x4) + x5) x6 fun σ1 =>
      k65 x1 x2 x3 x4 (x5 + 1) σ1
    else
      bd (f_X6_then x4 x5 x7 σ) fun v2 σ3 =>
      if v2 = (-900009 : Int32) then
        f_X6_layBest_126 (f_X6_layBest_78 k65 n) x1 x2 x3 x4 x5 x6 x7 (-900009 : Int32) σ3
      else
        rdI σ3 33 ((((256 : Int32) * x4) + (256 : Int32)) + v2) fun v4 =>
        f_X6_layBest_126 (f_X6_layBest_78 k65 n) x1 x2 x3 x4 x5 x6 x7 v4 σ3
set_option maxRecDepth 100000 in
set_option maxHeartbeats 4000000 in
theorem b_X6_layBest_78 {g : Geo} {x : Cx} (C : Ok g x cX6_layBest RX6 11 none rm_X6_layBest) (k65 : Int32 → Int32 → Int32 → Int32 → Int32 → St → Option (Unit × St)) (hk65 : ∀ (x1 : Int32) (x2 : Int32) (x3 : Int32) (x4 : Int32) (x5 : Int32) (τ : St) (r : Unit) (τ' : St), k65 x1 x2 x3 x4 x5 τ = some (r, τ') → V g x (qm g x none τ') 11 τ [(0, .ref (g.1 26)), (1, .int x1), (2, .int x2), (3, .int x3), (4, .int x4), (5, .int x5)] [] 65) : ∀ (n : Nat) (x1 : Int32) (x2 : Int32) (x3 : Int32) (x4 : Int32) (x5 : Int32) (x6 : Int32) (x7 : Int32) (σ : St) (r : Unit) (σ' : St), f_X6_layBest_78 k65 n x1 x2 x3 x4 x5 x6 x7 σ = some (r, σ') → V g x (qm g x none σ') 11 σ [(0, .ref (g.1 26)), (1, .int x1), (2, .int x2), (3, .int x3), (4, .int x4), (5, .int x5), (6, .int x6), (7, .int x7)] [] 78 := by
  intro n
  induction n with
  | zero =>
    intro x1 x2 x3 x4 x5 x6 x7 σ r σ' h
    rw [f_X6_layBest_78] at h
    cases h
  | succ n ih =>
    intro x1 x2 x3 x4 x5 x6 x7 σ r σ' h
    rw [f_X6_layBest_78] at h
    refine v_iload C dX6_layBest_78 7 rfl ?_
    refine v_iconst C (v := (4 : Int32)) dX6_layBest_80 (by decide) ?_
    refine v_icmp_ge C (tgt := 177) dX6_layBest_81 (by decide) (fun q6 => ?_) (fun q6 => ?_)
    · rw [if_pos q6] at h
      refine v_aload_n C dX6_layBest_177 rfl 0 rfl ?_
      refine v_getR C (p' := 33) fl_RX6_30 rfl rfl dX6_layBest_178 ?_
      refine v_sipush C (v := (256 : Int32)) dX6_layBest_181 (by decide) ?_
      refine v_iload C dX6_layBest_184 4 rfl ?_
      refine v_imul C dX6_layBest_186 ?_
      refine v_iload C dX6_layBest_187 5 rfl ?_
      refine v_iadd C dX6_layBest_189 ?_
      refine v_iload C dX6_layBest_190 6 rfl ?_
      obtain ⟨nσ1, σ1, eσ1, h⟩ := wrI_ex h
      refine x_iast C rfl nσ1 eσ1 dX6_layBest_192 ?_
      refine v_iinc C (v := (x5 + 1)) (lv' := [(5, .int _), (0, .ref _), (1, .int _), (2, .int _), (3, .int _), (4, .int _), (6, .int _), (7, .int _)]) dX6_layBest_193 5 rfl rfl (by decide) rfl ?_
      refine v_goto C (tgt := 65) dX6_layBest_196 (by decide) ?_
      refine V.sub (lv' := [(0, .ref _), (1, .int _), (2, .int _), (3, .int _), (4, .int _), (5, .int _)]) [1, 2, 3, 4, 5, 0] rfl ?_
      exact hk65 _ _ _ _ _  _ _ _ h
    · rw [if_neg q6] at h
      refine v_aload_n C dX6_layBest_84 rfl 0 rfl ?_
      refine v_iload C dX6_layBest_85 4 rfl ?_
      refine v_iload C dX6_layBest_87 5 rfl ?_
      refine v_iload C dX6_layBest_89 7 rfl ?_
      obtain ⟨v2, σ3, cσ3, h⟩ := bd_some h
      refine callVi C (c_X6_then cσ3) km_X6_then kv_X6_then rfl ml_RX6_116 rfl rfl (by decide) (Nat.le_of_ble_eq_true rfl) dX6_layBest_91 ?_
      refine v_istore C (lv' := [(8, .int _), (0, .ref _), (1, .int _), (2, .int _), (3, .int _), (4, .int _), (5, .int _), (6, .int _), (7, .int _)]) dX6_layBest_94 (by decide) rfl ?_
      refine v_iload C dX6_layBest_96 0 rfl ?_
      refine v_ldc C (v := (-900009 : Int32)) con_RX6_112 dX6_layBest_98 ?_
      refine v_icmp_ne C (tgt := 108) dX6_layBest_100 (by decide) (fun q5 => ?_) (fun q5 => ?_)
      · rw [if_neg q5] at h
        refine v_aload_n C dX6_layBest_108 rfl 1 rfl ?_
        refine v_getR C (p' := 33) fl_RX6_30 rfl rfl dX6_layBest_109 ?_
        refine v_sipush C (v := (256 : Int32)) dX6_layBest_112 (by decide) ?_
        refine v_iload C dX6_layBest_115 5 rfl ?_
        refine v_imul C dX6_layBest_117 ?_
        refine v_sipush C (v := (256 : Int32)) dX6_layBest_118 (by decide) ?_
        refine v_iadd C dX6_layBest_121 ?_
        refine v_iload C dX6_layBest_122 0 rfl ?_
        refine v_iadd C dX6_layBest_124 ?_
        obtain ⟨nv4, v4, ev4, h⟩ := rdI_ex h
        refine x_iald C rfl nv4 ev4 dX6_layBest_125 ?_
        refine V.sub (lv' := [(0, .ref _), (1, .int _), (2, .int _), (3, .int _), (4, .int _), (5, .int _), (6, .int _), (7, .int _)]) [1, 2, 3, 4, 5, 6, 7, 8] rfl ?_
        exact b_X6_layBest_126 C _ ih _ _ _ _ _ _ _ _  _ _ _ h
      · rw [if_pos q5] at h
        refine v_ldc C (v := (-900009 : Int32)) con_RX6_112 dX6_layBest_103 ?_
        refine v_goto C (tgt := 126) dX6_layBest_105 (by decide) ?_
        refine V.sub (lv' := [(0, .ref _), (1, .int _), (2, .int _), (3, .int _), (4, .int _), (5, .int _), (6, .int _), (7, .int _)]) [1, 2, 3, 4, 5, 6, 7, 8] rfl ?_
        exact b_X6_layBest_126 C _ ih _ _ _ _ _ _ _ _  _ _ _ h
def f_X6_layBest_65 (k57 : Int32 → Int32 → Int32 → Int32 → St → Option (Unit × St)) : Nat → Int32 → Int32 → Int32 → Int32 → Int32 → St → Option (Unit × St)
  | 0, _, _, _, _, _, _ => none
  | n + 1, x1, x2, x3, x4, x5, σ =>
    if x3 ≤ x5 then
      k57 x1 x2 x3 (x4 + (-1)) σ
    else
      f_X6_layBest_78 (f_X6_layBest_65 k57 n) FU x1 x2 x3 x4 x5 (-900009 : Int32) (0 : Int32) σ
set_option maxRecDepth 100000 in
set_option maxHeartbeats 4000000 in
theorem b_X6_layBest_65 {g : Geo} {x : Cx} (C : Ok g x cX6_layBest RX6 11 none rm_X6_layBest) (k57 : Int32 → Int32 → Int32 → Int32 → St → Option (Unit × St)) (hk57 : ∀ (x1 : Int32) (x2 : Int32) (x3 : Int32) (x4 : Int32) (τ : St) (r : Unit) (τ' : St), k57 x1 x2 x3 x4 τ = some (r, τ') → V g x (qm g x none τ') 11 τ [(0, .ref (g.1 26)), (1, .int x1), (2, .int x2), (3, .int x3), (4, .int x4)] [] 57) : ∀ (n : Nat) (x1 : Int32) (x2 : Int32) (x3 : Int32) (x4 : Int32) (x5 : Int32) (σ : St) (r : Unit) (σ' : St), f_X6_layBest_65 k57 n x1 x2 x3 x4 x5 σ = some (r, σ') → V g x (qm g x none σ') 11 σ [(0, .ref (g.1 26)), (1, .int x1), (2, .int x2), (3, .int x3), (4, .int x4), (5, .int x5)] [] 65 := by
  intro n
  induction n with
  | zero =>
    intro x1 x2 x3 x4 x5 σ r σ' h
    rw [f_X6_layBest_65] at h
    cases h
  | succ n ih =>
    intro x1 x2 x3 x4 x5 σ r σ' h
    rw [f_X6_layBest_65] at h
    refine v_iload C dX6_layBest_65 5 rfl ?_
    refine v_iload_n C dX6_layBest_67 rfl 3 rfl ?_
    refine v_icmp_ge C (tgt := 199) dX6_layBest_68 (by decide) (fun q1 => ?_) (fun q1 => ?_)
    · rw [if_pos q1] at h
      refine v_iinc C (v := (x4 + (-1))) (lv' := [(4, .int _), (0, .ref _), (1, .int _), (2, .int _), (3, .int _), (5, .int _)]) dX6_layBest_199 4 rfl rfl (by decide) rfl ?_
      refine v_goto C (tgt := 57) dX6_layBest_202 (by decide) ?_
      refine V.sub (lv' := [(0, .ref _), (1, .int _), (2, .int _), (3, .int _), (4, .int _)]) [1, 2, 3, 4, 0] rfl ?_
      exact hk57 _ _ _ _  _ _ _ h
    · rw [if_neg q1] at h
      refine v_ldc C (v := (-900009 : Int32)) con_RX6_112 dX6_layBest_71 ?_
      refine v_istore C (lv' := [(6, .int _), (0, .ref _), (1, .int _), (2, .int _), (3, .int _), (4, .int _), (5, .int _)]) dX6_layBest_73 (by decide) rfl ?_
      refine v_iconst C (v := (0 : Int32)) dX6_layBest_75 (by decide) ?_
      refine v_istore C (lv' := [(7, .int _), (6, .int _), (0, .ref _), (1, .int _), (2, .int _), (3, .int _), (4, .int _), (5, .int _)]) dX6_layBest_76 (by decide) rfl ?_
      refine V.sub (lv' := [(0, .ref _), (1, .int _), (2, .int _), (3, .int _), (4, .int _), (5, .int _), (6, .int _), (7, .int _)]) [2, 3, 4, 5, 6, 7, 1, 0] rfl ?_
      exact b_X6_layBest_78 C _ ih FU _ _ _ _ _ _ _  _ _ _ h
def f_X6_layBest_57 : Nat → Int32 → Int32 → Int32 → Int32 → St → Option (Unit × St)
  | 0, _, _, _, _, _ => none
  | n + 1, x1, x2, x3, x4, σ =>
    if x4 < 0 then
      some ((), σ)
    else
      f_X6_layBest_65 (f_X6_layBest_57 n) FU x1 x2 x3 x4 (0 : Int32) σ
set_option maxRecDepth 100000 in
set_option maxHeartbeats 4000000 in
theorem b_X6_layBest_57 {g : Geo} {x : Cx} (C : Ok g x cX6_layBest RX6 11 none rm_X6_layBest) : ∀ (n : Nat) (x1 : Int32) (x2 : Int32) (x3 : Int32) (x4 : Int32) (σ : St) (r : Unit) (σ' : St), f_X6_layBest_57 n x1 x2 x3 x4 σ = some (r, σ') → V g x (qm g x none σ') 11 σ [(0, .ref (g.1 26)), (1, .int x1), (2, .int x2), (3, .int x3), (4, .int x4)] [] 57 := by
  intro n
  induction n with
  | zero =>
    intro x1 x2 x3 x4 σ r σ' h
    rw [f_X6_layBest_57] at h
    cases h
  | succ n ih =>
    intro x1 x2 x3 x4 σ r σ' h
    rw [f_X6_layBest_57] at h
    refine v_iload C dX6_layBest_57 4 rfl ?_
    refine v_if_lt C (tgt := 205) dX6_layBest_59 (by decide) (fun q1 => ?_) (fun q1 => ?_)
    · rw [if_pos q1] at h
      cases h
      exact v_vret C dX6_layBest_205
    · rw [if_neg q1] at h
      refine v_iconst C (v := (0 : Int32)) dX6_layBest_62 (by decide) ?_
      refine v_istore C (lv' := [(5, .int _), (0, .ref _), (1, .int _), (2, .int _), (3, .int _), (4, .int _)]) dX6_layBest_63 (by decide) rfl ?_
      refine V.sub (lv' := [(0, .ref _), (1, .int _), (2, .int _), (3, .int _), (4, .int _), (5, .int _)]) [1, 2, 3, 4, 5, 0] rfl ?_
      exact b_X6_layBest_65 C _ ih FU _ _ _ _ _  _ _ _ h
def f_X6_layBest_42 (k10 : Int32 → Int32 → Int32 → Int32 → St → Option (Unit × St)) (x1 : Int32) (x2 : Int32) (x3 : Int32) (x4 : Int32) (s1 : Int32) (s2 : Int32) (σ : St) : Option (Unit × St) :=
  wrI σ 33 s1 s2 fun σ1 =>
  k10 x1 x2 x3 (x4 + 1) σ1
set_option maxRecDepth 100000 in
set_option maxHeartbeats 4000000 in
theorem b_X6_layBest_42 {g : Geo} {x : Cx} (C : Ok g x cX6_layBest RX6 11 none rm_X6_layBest) (k10 : Int32 → Int32 → Int32 → Int32 → St → Option (Unit × St)) (hk10 : ∀ (x1 : Int32) (x2 : Int32) (x3 : Int32) (x4 : Int32) (τ : St) (r : Unit) (τ' : St), k10 x1 x2 x3 x4 τ = some (r, τ') → V g x (qm g x none τ') 11 τ [(0, .ref (g.1 26)), (1, .int x1), (2, .int x2), (3, .int x3), (4, .int x4)] [] 10) : ∀ (x1 : Int32) (x2 : Int32) (x3 : Int32) (x4 : Int32) (s1 : Int32) (s2 : Int32) (σ : St) (r : Unit) (σ' : St), f_X6_layBest_42 k10 x1 x2 x3 x4 s1 s2 σ = some (r, σ') → V g x (qm g x none σ') 11 σ [(0, .ref (g.1 26)), (1, .int x1), (2, .int x2), (3, .int x3), (4, .int x4)] [.int s2, .int s1, .ref (g.1 33)] 42 := by
  intro x1 x2 x3 x4 s1 s2 σ r σ' h
  unfold f_X6_layBest_42 at h
  obtain ⟨nσ1, σ1, eσ1, h⟩ := wrI_ex h
  refine x_iast C rfl nσ1 eσ1 dX6_layBest_42 ?_
  refine v_iinc C (v := (x4 + 1)) (lv' := [(4, .int _), (0, .ref _), (1, .int _), (2, .int _), (3, .int _)]) dX6_layBest_43 4 rfl rfl (by decide) rfl ?_
  refine v_goto C (tgt := 10) dX6_layBest_46 (by decide) ?_
  refine V.sub (lv' := [(0, .ref _), (1, .int _), (2, .int _), (3, .int _), (4, .int _)]) [1, 2, 3, 4, 0] rfl ?_
  exact hk10 _ _ _ _  _ _ _ h
def f_X6_layBest_10 : Nat → Int32 → Int32 → Int32 → Int32 → St → Option (Unit × St)
  | 0, _, _, _, _, _ => none
  | n + 1, x1, x2, x3, x4, σ =>
    if x3 ≤ x4 then
      bd (f_X6_cells σ) fun v1 σ2 =>
      f_X6_layBest_57 FU x1 x2 x3 (v1 - (1 : Int32)) σ2
    else
      bd (f_X6_cells σ) fun v3 σ4 =>
      if x4 = 0 then
        f_X6_layBest_42 (f_X6_layBest_10 n) x1 x2 x3 x4 (((256 : Int32) * v3) + x4) (0 : Int32) σ4
      else
        f_X6_layBest_42 (f_X6_layBest_10 n) x1 x2 x3 x4 (((256 : Int32) * v3) + x4) (-900009 : Int32) σ4
set_option maxRecDepth 100000 in
set_option maxHeartbeats 4000000 in
theorem b_X6_layBest_10 {g : Geo} {x : Cx} (C : Ok g x cX6_layBest RX6 11 none rm_X6_layBest) : ∀ (n : Nat) (x1 : Int32) (x2 : Int32) (x3 : Int32) (x4 : Int32) (σ : St) (r : Unit) (σ' : St), f_X6_layBest_10 n x1 x2 x3 x4 σ = some (r, σ') → V g x (qm g x none σ') 11 σ [(0, .ref (g.1 26)), (1, .int x1), (2, .int x2), (3, .int x3), (4, .int x4)] [] 10 := by
  intro n
  induction n with
  | zero =>
    intro x1 x2 x3 x4 σ r σ' h
    rw [f_X6_layBest_10] at h
    cases h
  | succ n ih =>
    intro x1 x2 x3 x4 σ r σ' h
    rw [f_X6_layBest_10] at h
    refine v_iload C dX6_layBest_10 4 rfl ?_
    refine v_iload_n C dX6_layBest_12 rfl 3 rfl ?_
    refine v_icmp_ge C (tgt := 49) dX6_layBest_13 (by decide) (fun q6 => ?_) (fun q6 => ?_)
    · rw [if_pos q6] at h
      refine v_aload_n C dX6_layBest_49 rfl 0 rfl ?_
      obtain ⟨v1, σ2, cσ2, h⟩ := bd_some h
      refine callVi C (c_X6_cells cσ2) km_X6_cells kv_X6_cells rfl ml_RX6_80 rfl rfl (by decide) (Nat.le_of_ble_eq_true rfl) dX6_layBest_50 ?_
      refine v_iconst C (v := (1 : Int32)) dX6_layBest_53 (by decide) ?_
      refine v_isub C dX6_layBest_54 ?_
      refine v_istore C (lv' := [(4, .int _), (0, .ref _), (1, .int _), (2, .int _), (3, .int _)]) dX6_layBest_55 (by decide) rfl ?_
      refine V.sub (lv' := [(0, .ref _), (1, .int _), (2, .int _), (3, .int _), (4, .int _)]) [1, 2, 3, 4, 0] rfl ?_
      exact b_X6_layBest_57 C FU _ _ _ _  _ _ _ h
    · rw [if_neg q6] at h
      refine v_aload_n C dX6_layBest_16 rfl 0 rfl ?_
      refine v_getR C (p' := 33) fl_RX6_30 rfl rfl dX6_layBest_17 ?_
      refine v_sipush C (v := (256 : Int32)) dX6_layBest_20 (by decide) ?_
      refine v_aload_n C dX6_layBest_23 rfl 0 rfl ?_
      obtain ⟨v3, σ4, cσ4, h⟩ := bd_some h
      refine callVi C (c_X6_cells cσ4) km_X6_cells kv_X6_cells rfl ml_RX6_80 rfl rfl (by decide) (Nat.le_of_ble_eq_true rfl) dX6_layBest_24 ?_
      refine v_imul C dX6_layBest_27 ?_
      refine v_iload C dX6_layBest_28 4 rfl ?_
      refine v_iadd C dX6_layBest_30 ?_
      refine v_iload C dX6_layBest_31 4 rfl ?_
      refine v_if_ne C (tgt := 40) dX6_layBest_33 (by decide) (fun q5 => ?_) (fun q5 => ?_)
      · rw [if_neg q5] at h
        refine v_ldc C (v := (-900009 : Int32)) con_RX6_112 dX6_layBest_40 ?_
        refine V.sub (lv' := [(0, .ref _), (1, .int _), (2, .int _), (3, .int _), (4, .int _)]) [0, 1, 2, 3, 4] rfl ?_
        exact b_X6_layBest_42 C _ ih _ _ _ _ _ _  _ _ _ h
      · rw [if_pos q5] at h
        refine v_iconst C (v := (0 : Int32)) dX6_layBest_36 (by decide) ?_
        refine v_goto C (tgt := 42) dX6_layBest_37 (by decide) ?_
        refine V.sub (lv' := [(0, .ref _), (1, .int _), (2, .int _), (3, .int _), (4, .int _)]) [0, 1, 2, 3, 4] rfl ?_
        exact b_X6_layBest_42 C _ ih _ _ _ _ _ _  _ _ _ h
def f_X6_layBest (a1 : Int32) (a2 : Int32) (σ : St) : Option (Unit × St) :=
  f_X6_layBest_10 FU a1 a2 (jshl (1 : Int32) (gi σ 26 0)) (0 : Int32) σ
set_option maxRecDepth 100000 in
set_option maxHeartbeats 4000000 in
theorem c_X6_layBest {g : Geo} {a1 : Int32} {a2 : Int32} {σ : St} {r : Unit} {σ' : St} (h : f_X6_layBest a1 a2 σ = some (r, σ')) : Ct g yX6_layBest cX6_layBest 11 none rm_X6_layBest [.ref (g.1 26), .int a1, .int a2] σ none σ' := by
  refine ct_of (own := RX6) (by decide) rfl (Nat.le_of_ble_eq_true rfl) (fun x C => ?_) ⟨rfl, rfl⟩
  show V g x _ 11 σ [(0, .ref (g.1 26)), (1, .int a1), (2, .int a2)] [] 0
  unfold f_X6_layBest at h
  refine v_iconst C (v := (1 : Int32)) dX6_layBest_0 (by decide) ?_
  refine v_aload_n C dX6_layBest_1 rfl 0 rfl ?_
  refine v_getI C fl_RX6_70 rfl dX6_layBest_2 ?_
  refine v_ishl C dX6_layBest_5 ?_
  refine v_istore_n C (lv' := [(3, .int _), (0, .ref _), (1, .int _), (2, .int _)]) dX6_layBest_6 rfl (by decide) rfl ?_
  refine v_iconst C (v := (0 : Int32)) dX6_layBest_7 (by decide) ?_
  refine v_istore C (lv' := [(4, .int _), (3, .int _), (0, .ref _), (1, .int _), (2, .int _)]) dX6_layBest_8 (by decide) rfl ?_
  refine V.sub (lv' := [(0, .ref _), (1, .int _), (2, .int _), (3, .int _), (4, .int _)]) [2, 3, 4, 1, 0] rfl ?_
  exact b_X6_layBest_10 C FU _ _ _ _  _ _ _ h
theorem dX6_span_0 : decode cX6_span 0 = .ok (.iload_n 1, 1) := by decide +kernel
theorem dX6_span_1 : decode cX6_span 1 = .ok (.i2l, 1) := by decide +kernel
theorem dX6_span_2 : decode cX6_span 2 = .ok (.lconst 0, 1) := by decide +kernel
theorem dX6_span_3 : decode cX6_span 3 = .ok (.ldc2_w 126, 3) := by decide +kernel
theorem dX6_span_6 : decode cX6_span 6 = .ok (.invokestatic 84, 3) := by decide +kernel
theorem dX6_span_9 : decode cX6_span 9 = .ok (.ifCond .ne 6, 3) := by decide +kernel
theorem dX6_span_12 : decode cX6_span 12 = .ok (.ldc 97, 2) := by decide +kernel
theorem dX6_span_14 : decode cX6_span 14 = .ok (.ireturn, 1) := by decide +kernel
theorem dX6_span_15 : decode cX6_span 15 = .ok (.aload_n 0, 1) := by decide +kernel
theorem dX6_span_16 : decode cX6_span 16 = .ok (.iload_n 1, 1) := by decide +kernel
theorem dX6_span_17 : decode cX6_span 17 = .ok (.iload_n 2, 1) := by decide +kernel
theorem dX6_span_18 : decode cX6_span 18 = .ok (.invokevirtual 145, 3) := by decide +kernel
theorem dX6_span_21 : decode cX6_span 21 = .ok (.aload_n 0, 1) := by decide +kernel
theorem dX6_span_22 : decode cX6_span 22 = .ok (.getfield 30, 3) := by decide +kernel
theorem dX6_span_25 : decode cX6_span 25 = .ok (.iconst 0, 1) := by decide +kernel
theorem dX6_span_26 : decode cX6_span 26 = .ok (.iaload, 1) := by decide +kernel
theorem dX6_span_27 : decode cX6_span 27 = .ok (.ldc 112, 2) := by decide +kernel
theorem dX6_span_29 : decode cX6_span 29 = .ok (.if_icmp .ne 8, 3) := by decide +kernel
theorem dX6_span_32 : decode cX6_span 32 = .ok (.ldc 112, 2) := by decide +kernel
theorem dX6_span_34 : decode cX6_span 34 = .ok (.goto 23, 3) := by decide +kernel
theorem dX6_span_37 : decode cX6_span 37 = .ok (.iload_n 2, 1) := by decide +kernel
theorem dX6_span_38 : decode cX6_span 38 = .ok (.ifCond .eq 12, 3) := by decide +kernel
theorem dX6_span_41 : decode cX6_span 41 = .ok (.aload_n 0, 1) := by decide +kernel
theorem dX6_span_42 : decode cX6_span 42 = .ok (.getfield 30, 3) := by decide +kernel
theorem dX6_span_45 : decode cX6_span 45 = .ok (.iconst 0, 1) := by decide +kernel
theorem dX6_span_46 : decode cX6_span 46 = .ok (.iaload, 1) := by decide +kernel
theorem dX6_span_47 : decode cX6_span 47 = .ok (.goto 10, 3) := by decide +kernel
theorem dX6_span_50 : decode cX6_span 50 = .ok (.aload_n 0, 1) := by decide +kernel
theorem dX6_span_51 : decode cX6_span 51 = .ok (.getfield 30, 3) := by decide +kernel
theorem dX6_span_54 : decode cX6_span 54 = .ok (.iconst 0, 1) := by decide +kernel
theorem dX6_span_55 : decode cX6_span 55 = .ok (.iaload, 1) := by decide +kernel
theorem dX6_span_56 : decode cX6_span 56 = .ok (.ineg, 1) := by decide +kernel
theorem dX6_span_57 : decode cX6_span 57 = .ok (.ireturn, 1) := by decide +kernel
def f_X6_span_57 (s0 : Int32) (σ : St) : Option (Int32 × St) :=
  some (s0, σ)
set_option maxRecDepth 100000 in
set_option maxHeartbeats 4000000 in
theorem b_X6_span_57 {g : Geo} {x : Cx} (C : Ok g x cX6_span RX6 3 (some .int) rm_X6_span) : ∀ (s0 : Int32) (σ : St) (r : Int32) (σ' : St), f_X6_span_57 s0 σ = some (r, σ') → V g x (qm g x (some (.int r)) σ') 3 σ [] [.int s0] 57 := by
  intro s0 σ r σ' h
  unfold f_X6_span_57 at h
  cases h
  exact v_iret C dX6_span_57
def f_X6_span (a1 : Int32) (a2 : Int32) (σ : St) : Option (Int32 × St) :=
  bd (f_X6_in ((a1).toInt64) (0 : Int64) (2 : Int64) σ) fun v1 σ2 =>
  if v1 = 0 then
    some ((-900001 : Int32), σ2)
  else
    bd (f_X6_layBest a1 a2 σ2) fun _ σ4 =>
    rdI σ4 33 (0 : Int32) fun v5 =>
    if v5 = (-900009 : Int32) then
      f_X6_span_57 (-900009 : Int32) σ4
    else
      if a2 = 0 then
        rdI σ4 33 (0 : Int32) fun v6 =>
        f_X6_span_57 (-v6) σ4
      else
        rdI σ4 33 (0 : Int32) fun v7 =>
        f_X6_span_57 v7 σ4
set_option maxRecDepth 100000 in
set_option maxHeartbeats 4000000 in
theorem c_X6_span {g : Geo} {a1 : Int32} {a2 : Int32} {σ : St} {r : Int32} {σ' : St} (h : f_X6_span a1 a2 σ = some (r, σ')) : Ct g yX6_span cX6_span 3 (some .int) rm_X6_span [.ref (g.1 26), .int a1, .int a2] σ (some (.int r)) σ' := by
  refine ct_of (own := RX6) (by decide) rfl (Nat.le_of_ble_eq_true rfl) (fun x C => ?_) ⟨rfl, rfl⟩
  show V g x _ 3 σ [(0, .ref (g.1 26)), (1, .int a1), (2, .int a2)] [] 0
  unfold f_X6_span at h
  refine v_iload_n C dX6_span_0 rfl 1 rfl ?_
  refine v_i2l C dX6_span_1 ?_
  refine v_lconst C (v := (0 : Int64)) dX6_span_2 (by decide) ?_
  refine v_ldc2_w C (v := (2 : Int64)) conl_RX6_126 dX6_span_3 ?_
  obtain ⟨v1, σ2, cσ2, h⟩ := bd_some h
  refine callSi C (c_X6_in cσ2) km_X6_in ks_X6_in ml_RX6_84 rfl rfl (by decide) (Nat.le_of_ble_eq_true rfl) dX6_span_6 ?_
  refine v_if_ne C (tgt := 15) dX6_span_9 (by decide) (fun q10 => ?_) (fun q10 => ?_)
  · rw [if_neg q10] at h
    refine v_aload_n C dX6_span_15 rfl 0 rfl ?_
    refine v_iload_n C dX6_span_16 rfl 1 rfl ?_
    refine v_iload_n C dX6_span_17 rfl 2 rfl ?_
    obtain ⟨v3, σ4, cσ4, h⟩ := bd_some h
    refine callVv C (c_X6_layBest cσ4) km_X6_layBest kv_X6_layBest rfl ml_RX6_145 rfl rfl (by decide) (Nat.le_of_ble_eq_true rfl) dX6_span_18 ?_
    refine v_aload_n C dX6_span_21 rfl 0 rfl ?_
    refine v_getR C (p' := 33) fl_RX6_30 rfl rfl dX6_span_22 ?_
    refine v_iconst C (v := (0 : Int32)) dX6_span_25 (by decide) ?_
    obtain ⟨nv5, v5, ev5, h⟩ := rdI_ex h
    refine x_iald C rfl nv5 ev5 dX6_span_26 ?_
    refine v_ldc C (v := (-900009 : Int32)) con_RX6_112 dX6_span_27 ?_
    refine v_icmp_ne C (tgt := 37) dX6_span_29 (by decide) (fun q9 => ?_) (fun q9 => ?_)
    · rw [if_neg q9] at h
      refine v_iload_n C dX6_span_37 rfl 2 rfl ?_
      refine v_if_eq C (tgt := 50) dX6_span_38 (by decide) (fun q8 => ?_) (fun q8 => ?_)
      · rw [if_pos q8] at h
        refine v_aload_n C dX6_span_50 rfl 0 rfl ?_
        refine v_getR C (p' := 33) fl_RX6_30 rfl rfl dX6_span_51 ?_
        refine v_iconst C (v := (0 : Int32)) dX6_span_54 (by decide) ?_
        obtain ⟨nv6, v6, ev6, h⟩ := rdI_ex h
        refine x_iald C rfl nv6 ev6 dX6_span_55 ?_
        refine v_ineg C dX6_span_56 ?_
        refine V.sub (lv' := []) [] rfl ?_
        exact b_X6_span_57 C _  _ _ _ h
      · rw [if_neg q8] at h
        refine v_aload_n C dX6_span_41 rfl 0 rfl ?_
        refine v_getR C (p' := 33) fl_RX6_30 rfl rfl dX6_span_42 ?_
        refine v_iconst C (v := (0 : Int32)) dX6_span_45 (by decide) ?_
        obtain ⟨nv7, v7, ev7, h⟩ := rdI_ex h
        refine x_iald C rfl nv7 ev7 dX6_span_46 ?_
        refine v_goto C (tgt := 57) dX6_span_47 (by decide) ?_
        refine V.sub (lv' := []) [] rfl ?_
        exact b_X6_span_57 C _  _ _ _ h
    · rw [if_pos q9] at h
      refine v_ldc C (v := (-900009 : Int32)) con_RX6_112 dX6_span_32 ?_
      refine v_goto C (tgt := 57) dX6_span_34 (by decide) ?_
      refine V.sub (lv' := []) [] rfl ?_
      exact b_X6_span_57 C _  _ _ _ h
  · rw [if_pos q10] at h
    refine v_ldc C (v := (-900001 : Int32)) con_RX6_97 dX6_span_12 ?_
    cases h
    exact v_iret C dX6_span_14
theorem dX6_weight_0 : decode cX6_weight 0 = .ok (.aload_n 0, 1) := by decide +kernel
theorem dX6_weight_1 : decode cX6_weight 1 = .ok (.iload_n 1, 1) := by decide +kernel
theorem dX6_weight_2 : decode cX6_weight 2 = .ok (.invokevirtual 123, 3) := by decide +kernel
theorem dX6_weight_5 : decode cX6_weight 5 = .ok (.ifCond .eq 15, 3) := by decide +kernel
theorem dX6_weight_8 : decode cX6_weight 8 = .ok (.iload_n 2, 1) := by decide +kernel
theorem dX6_weight_9 : decode cX6_weight 9 = .ok (.i2l, 1) := by decide +kernel
theorem dX6_weight_10 : decode cX6_weight 10 = .ok (.lconst 0, 1) := by decide +kernel
theorem dX6_weight_11 : decode cX6_weight 11 = .ok (.ldc2_w 126, 3) := by decide +kernel
theorem dX6_weight_14 : decode cX6_weight 14 = .ok (.invokestatic 84, 3) := by decide +kernel
theorem dX6_weight_17 : decode cX6_weight 17 = .ok (.ifCond .ne 6, 3) := by decide +kernel
theorem dX6_weight_20 : decode cX6_weight 20 = .ok (.ldc 97, 2) := by decide +kernel
theorem dX6_weight_22 : decode cX6_weight 22 = .ok (.ireturn, 1) := by decide +kernel
theorem dX6_weight_23 : decode cX6_weight 23 = .ok (.iload_n 3, 1) := by decide +kernel
theorem dX6_weight_24 : decode cX6_weight 24 = .ok (.i2l, 1) := by decide +kernel
theorem dX6_weight_25 : decode cX6_weight 25 = .ok (.ldc2_w 149, 3) := by decide +kernel
theorem dX6_weight_28 : decode cX6_weight 28 = .ok (.ldc2_w 151, 3) := by decide +kernel
theorem dX6_weight_31 : decode cX6_weight 31 = .ok (.invokestatic 84, 3) := by decide +kernel
theorem dX6_weight_34 : decode cX6_weight 34 = .ok (.ifCond .ne 6, 3) := by decide +kernel
theorem dX6_weight_37 : decode cX6_weight 37 = .ok (.ldc 90, 2) := by decide +kernel
theorem dX6_weight_39 : decode cX6_weight 39 = .ok (.ireturn, 1) := by decide +kernel
theorem dX6_weight_40 : decode cX6_weight 40 = .ok (.aload_n 0, 1) := by decide +kernel
theorem dX6_weight_41 : decode cX6_weight 41 = .ok (.getfield 13, 3) := by decide +kernel
theorem dX6_weight_44 : decode cX6_weight 44 = .ok (.iconst 3, 1) := by decide +kernel
theorem dX6_weight_45 : decode cX6_weight 45 = .ok (.iload_n 1, 1) := by decide +kernel
theorem dX6_weight_46 : decode cX6_weight 46 = .ok (.imul, 1) := by decide +kernel
theorem dX6_weight_47 : decode cX6_weight 47 = .ok (.iload_n 2, 1) := by decide +kernel
theorem dX6_weight_48 : decode cX6_weight 48 = .ok (.iadd, 1) := by decide +kernel
theorem dX6_weight_49 : decode cX6_weight 49 = .ok (.iaload, 1) := by decide +kernel
theorem dX6_weight_50 : decode cX6_weight 50 = .ok (.istore 4, 2) := by decide +kernel
theorem dX6_weight_52 : decode cX6_weight 52 = .ok (.aload_n 0, 1) := by decide +kernel
theorem dX6_weight_53 : decode cX6_weight 53 = .ok (.getfield 13, 3) := by decide +kernel
theorem dX6_weight_56 : decode cX6_weight 56 = .ok (.iconst 3, 1) := by decide +kernel
theorem dX6_weight_57 : decode cX6_weight 57 = .ok (.iload_n 1, 1) := by decide +kernel
theorem dX6_weight_58 : decode cX6_weight 58 = .ok (.imul, 1) := by decide +kernel
theorem dX6_weight_59 : decode cX6_weight 59 = .ok (.iload_n 2, 1) := by decide +kernel
theorem dX6_weight_60 : decode cX6_weight 60 = .ok (.iadd, 1) := by decide +kernel
theorem dX6_weight_61 : decode cX6_weight 61 = .ok (.iload_n 3, 1) := by decide +kernel
theorem dX6_weight_62 : decode cX6_weight 62 = .ok (.iastore, 1) := by decide +kernel
theorem dX6_weight_63 : decode cX6_weight 63 = .ok (.iload 4, 2) := by decide +kernel
theorem dX6_weight_65 : decode cX6_weight 65 = .ok (.ireturn, 1) := by decide +kernel
def f_X6_weight_20 (σ : St) : Option (Int32 × St) :=
  some ((-900001 : Int32), σ)
set_option maxRecDepth 100000 in
set_option maxHeartbeats 4000000 in
theorem b_X6_weight_20 {g : Geo} {x : Cx} (C : Ok g x cX6_weight RX6 5 (some .int) rm_X6_weight) : ∀ (σ : St) (r : Int32) (σ' : St), f_X6_weight_20 σ = some (r, σ') → V g x (qm g x (some (.int r)) σ') 5 σ [] [] 20 := by
  intro σ r σ' h
  unfold f_X6_weight_20 at h
  refine v_ldc C (v := (-900001 : Int32)) con_RX6_97 dX6_weight_20 ?_
  cases h
  exact v_iret C dX6_weight_22
def f_X6_weight (a1 : Int32) (a2 : Int32) (a3 : Int32) (σ : St) : Option (Int32 × St) :=
  bd (f_X6_isCell a1 σ) fun v1 σ2 =>
  if v1 = 0 then
    f_X6_weight_20 σ2
  else
    bd (f_X6_in ((a2).toInt64) (0 : Int64) (2 : Int64) σ2) fun v3 σ4 =>
    if v3 = 0 then
      f_X6_weight_20 σ4
    else
      bd (f_X6_in ((a3).toInt64) (-99 : Int64) (99 : Int64) σ4) fun v5 σ6 =>
      if v5 = 0 then
        some ((-900002 : Int32), σ6)
      else
        rdI σ6 28 (((3 : Int32) * a1) + a2) fun v7 =>
        wrI σ6 28 (((3 : Int32) * a1) + a2) a3 fun σ8 =>
        some (v7, σ8)
set_option maxRecDepth 100000 in
set_option maxHeartbeats 4000000 in
theorem c_X6_weight {g : Geo} {a1 : Int32} {a2 : Int32} {a3 : Int32} {σ : St} {r : Int32} {σ' : St} (h : f_X6_weight a1 a2 a3 σ = some (r, σ')) : Ct g yX6_weight cX6_weight 5 (some .int) rm_X6_weight [.ref (g.1 26), .int a1, .int a2, .int a3] σ (some (.int r)) σ' := by
  refine ct_of (own := RX6) (by decide) rfl (Nat.le_of_ble_eq_true rfl) (fun x C => ?_) ⟨rfl, rfl⟩
  show V g x _ 5 σ [(0, .ref (g.1 26)), (1, .int a1), (2, .int a2), (3, .int a3)] [] 0
  unfold f_X6_weight at h
  refine v_aload_n C dX6_weight_0 rfl 0 rfl ?_
  refine v_iload_n C dX6_weight_1 rfl 1 rfl ?_
  obtain ⟨v1, σ2, cσ2, h⟩ := bd_some h
  refine callVi C (c_X6_isCell cσ2) km_X6_isCell kv_X6_isCell rfl ml_RX6_123 rfl rfl (by decide) (Nat.le_of_ble_eq_true rfl) dX6_weight_2 ?_
  refine v_if_eq C (tgt := 20) dX6_weight_5 (by decide) (fun q11 => ?_) (fun q11 => ?_)
  · rw [if_pos q11] at h
    refine V.sub (lv' := []) [] rfl ?_
    exact b_X6_weight_20 C  _ _ _ h
  · rw [if_neg q11] at h
    refine v_iload_n C dX6_weight_8 rfl 2 rfl ?_
    refine v_i2l C dX6_weight_9 ?_
    refine v_lconst C (v := (0 : Int64)) dX6_weight_10 (by decide) ?_
    refine v_ldc2_w C (v := (2 : Int64)) conl_RX6_126 dX6_weight_11 ?_
    obtain ⟨v3, σ4, cσ4, h⟩ := bd_some h
    refine callSi C (c_X6_in cσ4) km_X6_in ks_X6_in ml_RX6_84 rfl rfl (by decide) (Nat.le_of_ble_eq_true rfl) dX6_weight_14 ?_
    refine v_if_ne C (tgt := 23) dX6_weight_17 (by decide) (fun q10 => ?_) (fun q10 => ?_)
    · rw [if_neg q10] at h
      refine v_iload_n C dX6_weight_23 rfl 3 rfl ?_
      refine v_i2l C dX6_weight_24 ?_
      refine v_ldc2_w C (v := (-99 : Int64)) conl_RX6_149 dX6_weight_25 ?_
      refine v_ldc2_w C (v := (99 : Int64)) conl_RX6_151 dX6_weight_28 ?_
      obtain ⟨v5, σ6, cσ6, h⟩ := bd_some h
      refine callSi C (c_X6_in cσ6) km_X6_in ks_X6_in ml_RX6_84 rfl rfl (by decide) (Nat.le_of_ble_eq_true rfl) dX6_weight_31 ?_
      refine v_if_ne C (tgt := 40) dX6_weight_34 (by decide) (fun q9 => ?_) (fun q9 => ?_)
      · rw [if_neg q9] at h
        refine v_aload_n C dX6_weight_40 rfl 0 rfl ?_
        refine v_getR C (p' := 28) fl_RX6_13 rfl rfl dX6_weight_41 ?_
        refine v_iconst C (v := (3 : Int32)) dX6_weight_44 (by decide) ?_
        refine v_iload_n C dX6_weight_45 rfl 1 rfl ?_
        refine v_imul C dX6_weight_46 ?_
        refine v_iload_n C dX6_weight_47 rfl 2 rfl ?_
        refine v_iadd C dX6_weight_48 ?_
        obtain ⟨nv7, v7, ev7, h⟩ := rdI_ex h
        refine x_iald C rfl nv7 ev7 dX6_weight_49 ?_
        refine v_istore C (lv' := [(4, .int _), (0, .ref _), (1, .int _), (2, .int _), (3, .int _)]) dX6_weight_50 (by decide) rfl ?_
        refine v_aload_n C dX6_weight_52 rfl 1 rfl ?_
        refine v_getR C (p' := 28) fl_RX6_13 rfl rfl dX6_weight_53 ?_
        refine v_iconst C (v := (3 : Int32)) dX6_weight_56 (by decide) ?_
        refine v_iload_n C dX6_weight_57 rfl 2 rfl ?_
        refine v_imul C dX6_weight_58 ?_
        refine v_iload_n C dX6_weight_59 rfl 3 rfl ?_
        refine v_iadd C dX6_weight_60 ?_
        refine v_iload_n C dX6_weight_61 rfl 4 rfl ?_
        obtain ⟨nσ8, σ8, eσ8, h⟩ := wrI_ex h
        refine x_iast C rfl nσ8 eσ8 dX6_weight_62 ?_
        refine v_iload C dX6_weight_63 0 rfl ?_
        cases h
        exact v_iret C dX6_weight_65
      · rw [if_pos q9] at h
        refine v_ldc C (v := (-900002 : Int32)) con_RX6_90 dX6_weight_37 ?_
        cases h
        exact v_iret C dX6_weight_39
    · rw [if_pos q10] at h
      refine V.sub (lv' := []) [] rfl ?_
      exact b_X6_weight_20 C  _ _ _ h
theorem dX6_dearest_0 : decode cX6_dearest 0 = .ok (.aload_n 0, 1) := by decide +kernel
theorem dX6_dearest_1 : decode cX6_dearest 1 = .ok (.iconst 3, 1) := by decide +kernel
theorem dX6_dearest_2 : decode cX6_dearest 2 = .ok (.iconst 1, 1) := by decide +kernel
theorem dX6_dearest_3 : decode cX6_dearest 3 = .ok (.invokevirtual 145, 3) := by decide +kernel
theorem dX6_dearest_6 : decode cX6_dearest 6 = .ok (.aload_n 0, 1) := by decide +kernel
theorem dX6_dearest_7 : decode cX6_dearest 7 = .ok (.getfield 30, 3) := by decide +kernel
theorem dX6_dearest_10 : decode cX6_dearest 10 = .ok (.iconst 0, 1) := by decide +kernel
theorem dX6_dearest_11 : decode cX6_dearest 11 = .ok (.iaload, 1) := by decide +kernel
theorem dX6_dearest_12 : decode cX6_dearest 12 = .ok (.ireturn, 1) := by decide +kernel
def f_X6_dearest (σ : St) : Option (Int32 × St) :=
  bd (f_X6_layBest (3 : Int32) (1 : Int32) σ) fun _ σ2 =>
  rdI σ2 33 (0 : Int32) fun v3 =>
  some (v3, σ2)
set_option maxRecDepth 100000 in
set_option maxHeartbeats 4000000 in
theorem c_X6_dearest {g : Geo} {σ : St} {r : Int32} {σ' : St} (h : f_X6_dearest σ = some (r, σ')) : Ct g yX6_dearest cX6_dearest 1 (some .int) rm_X6_dearest [.ref (g.1 26)] σ (some (.int r)) σ' := by
  refine ct_of (own := RX6) (by decide) rfl (Nat.le_of_ble_eq_true rfl) (fun x C => ?_) ⟨rfl, rfl⟩
  show V g x _ 1 σ [(0, .ref (g.1 26))] [] 0
  unfold f_X6_dearest at h
  refine v_aload_n C dX6_dearest_0 rfl 0 rfl ?_
  refine v_iconst C (v := (3 : Int32)) dX6_dearest_1 (by decide) ?_
  refine v_iconst C (v := (1 : Int32)) dX6_dearest_2 (by decide) ?_
  obtain ⟨v1, σ2, cσ2, h⟩ := bd_some h
  refine callVv C (c_X6_layBest cσ2) km_X6_layBest kv_X6_layBest rfl ml_RX6_145 rfl rfl (by decide) (Nat.le_of_ble_eq_true rfl) dX6_dearest_3 ?_
  refine v_aload_n C dX6_dearest_6 rfl 0 rfl ?_
  refine v_getR C (p' := 33) fl_RX6_30 rfl rfl dX6_dearest_7 ?_
  refine v_iconst C (v := (0 : Int32)) dX6_dearest_10 (by decide) ?_
  obtain ⟨nv3, v3, ev3, h⟩ := rdI_ex h
  refine x_iald C rfl nv3 ev3 dX6_dearest_11 ?_
  cases h
  exact v_iret C dX6_dearest_12
theorem dX6_isSlot_0 : decode cX6_isSlot 0 = .ok (.iload_n 0, 1) := by decide +kernel
theorem dX6_isSlot_1 : decode cX6_isSlot 1 = .ok (.i2l, 1) := by decide +kernel
theorem dX6_isSlot_2 : decode cX6_isSlot 2 = .ok (.lconst 0, 1) := by decide +kernel
theorem dX6_isSlot_3 : decode cX6_isSlot 3 = .ok (.ldc2_w 153, 3) := by decide +kernel
theorem dX6_isSlot_6 : decode cX6_isSlot 6 = .ok (.invokestatic 84, 3) := by decide +kernel
theorem dX6_isSlot_9 : decode cX6_isSlot 9 = .ok (.ireturn, 1) := by decide +kernel
def f_X6_isSlot (a1 : Int32) (σ : St) : Option (Int32 × St) :=
  bd (f_X6_in ((a1).toInt64) (0 : Int64) (3 : Int64) σ) fun v1 σ2 =>
  gz v1 <|
  some (v1, σ2)
set_option maxRecDepth 100000 in
set_option maxHeartbeats 4000000 in
theorem c_X6_isSlot {g : Geo} {a1 : Int32} {σ : St} {r : Int32} {σ' : St} (h : f_X6_isSlot a1 σ = some (r, σ')) : Ct g yX6_isSlot cX6_isSlot 1 (some .boolean) rm_X6_isSlot [.int a1] σ (some (.int r)) σ' := by
  refine ct_of (own := RX6) (by decide) rfl (Nat.le_of_ble_eq_true rfl) (fun x C => ?_) ⟨rfl, rfl⟩
  show V g x _ 1 σ [(0, .int a1)] [] 0
  unfold f_X6_isSlot at h
  refine v_iload_n C dX6_isSlot_0 rfl 0 rfl ?_
  refine v_i2l C dX6_isSlot_1 ?_
  refine v_lconst C (v := (0 : Int64)) dX6_isSlot_2 (by decide) ?_
  refine v_ldc2_w C (v := (3 : Int64)) conl_RX6_153 dX6_isSlot_3 ?_
  obtain ⟨v1, σ2, cσ2, h⟩ := bd_some h
  refine callSi C (c_X6_in cσ2) km_X6_in ks_X6_in ml_RX6_84 rfl rfl (by decide) (Nat.le_of_ble_eq_true rfl) dX6_isSlot_6 ?_
  obtain ⟨hz, h⟩ := gz_some h
  cases h
  exact v_zret C hz dX6_isSlot_9
theorem dX6_lay_0 : decode cX6_lay 0 = .ok (.iload_n 1, 1) := by decide +kernel
theorem dX6_lay_1 : decode cX6_lay 1 = .ok (.invokestatic 155, 3) := by decide +kernel
theorem dX6_lay_4 : decode cX6_lay 4 = .ok (.ifCond .ne 6, 3) := by decide +kernel
theorem dX6_lay_7 : decode cX6_lay 7 = .ok (.ldc 97, 2) := by decide +kernel
theorem dX6_lay_9 : decode cX6_lay 9 = .ok (.ireturn, 1) := by decide +kernel
theorem dX6_lay_10 : decode cX6_lay 10 = .ok (.aload_n 0, 1) := by decide +kernel
theorem dX6_lay_11 : decode cX6_lay 11 = .ok (.invokevirtual 120, 3) := by decide +kernel
theorem dX6_lay_14 : decode cX6_lay 14 = .ok (.lload_n 2, 1) := by decide +kernel
theorem dX6_lay_15 : decode cX6_lay 15 = .ok (.lconst 0, 1) := by decide +kernel
theorem dX6_lay_16 : decode cX6_lay 16 = .ok (.lcmp, 1) := by decide +kernel
theorem dX6_lay_17 : decode cX6_lay 17 = .ok (.ifCond .lt 14, 3) := by decide +kernel
theorem dX6_lay_20 : decode cX6_lay 20 = .ok (.lload_n 2, 1) := by decide +kernel
theorem dX6_lay_21 : decode cX6_lay 21 = .ok (.aload_n 0, 1) := by decide +kernel
theorem dX6_lay_22 : decode cX6_lay 22 = .ok (.getfield 23, 3) := by decide +kernel
theorem dX6_lay_25 : decode cX6_lay 25 = .ok (.iconst 0, 1) := by decide +kernel
theorem dX6_lay_26 : decode cX6_lay 26 = .ok (.laload, 1) := by decide +kernel
theorem dX6_lay_27 : decode cX6_lay 27 = .ok (.lcmp, 1) := by decide +kernel
theorem dX6_lay_28 : decode cX6_lay 28 = .ok (.ifCond .lt 6, 3) := by decide +kernel
theorem dX6_lay_31 : decode cX6_lay 31 = .ok (.ldc 90, 2) := by decide +kernel
theorem dX6_lay_33 : decode cX6_lay 33 = .ok (.ireturn, 1) := by decide +kernel
theorem dX6_lay_34 : decode cX6_lay 34 = .ok (.lload_n 2, 1) := by decide +kernel
theorem dX6_lay_35 : decode cX6_lay 35 = .ok (.lstore 4, 2) := by decide +kernel
theorem dX6_lay_37 : decode cX6_lay 37 = .ok (.iconst 0, 1) := by decide +kernel
theorem dX6_lay_38 : decode cX6_lay 38 = .ok (.istore 6, 2) := by decide +kernel
theorem dX6_lay_40 : decode cX6_lay 40 = .ok (.iconst 0, 1) := by decide +kernel
theorem dX6_lay_41 : decode cX6_lay 41 = .ok (.istore 7, 2) := by decide +kernel
theorem dX6_lay_43 : decode cX6_lay 43 = .ok (.iload 7, 2) := by decide +kernel
theorem dX6_lay_45 : decode cX6_lay 45 = .ok (.aload_n 0, 1) := by decide +kernel
theorem dX6_lay_46 : decode cX6_lay 46 = .ok (.invokevirtual 80, 3) := by decide +kernel
theorem dX6_lay_49 : decode cX6_lay 49 = .ok (.if_icmp .ge 125, 3) := by decide +kernel
theorem dX6_lay_52 : decode cX6_lay 52 = .ok (.iconst 0, 1) := by decide +kernel
theorem dX6_lay_53 : decode cX6_lay 53 = .ok (.istore 8, 2) := by decide +kernel
theorem dX6_lay_55 : decode cX6_lay 55 = .ok (.aload_n 0, 1) := by decide +kernel
theorem dX6_lay_56 : decode cX6_lay 56 = .ok (.iload 7, 2) := by decide +kernel
theorem dX6_lay_58 : decode cX6_lay 58 = .ok (.iload 6, 2) := by decide +kernel
theorem dX6_lay_60 : decode cX6_lay 60 = .ok (.iload 8, 2) := by decide +kernel
theorem dX6_lay_62 : decode cX6_lay 62 = .ok (.invokevirtual 116, 3) := by decide +kernel
theorem dX6_lay_65 : decode cX6_lay 65 = .ok (.istore 9, 2) := by decide +kernel
theorem dX6_lay_67 : decode cX6_lay 67 = .ok (.iload 9, 2) := by decide +kernel
theorem dX6_lay_69 : decode cX6_lay 69 = .ok (.ldc 112, 2) := by decide +kernel
theorem dX6_lay_71 : decode cX6_lay 71 = .ok (.if_icmp .eq 27, 3) := by decide +kernel
theorem dX6_lay_74 : decode cX6_lay 74 = .ok (.lload 4, 2) := by decide +kernel
theorem dX6_lay_76 : decode cX6_lay 76 = .ok (.aload_n 0, 1) := by decide +kernel
theorem dX6_lay_77 : decode cX6_lay 77 = .ok (.getfield 23, 3) := by decide +kernel
theorem dX6_lay_80 : decode cX6_lay 80 = .ok (.sipush 256, 3) := by decide +kernel
theorem dX6_lay_83 : decode cX6_lay 83 = .ok (.iload 7, 2) := by decide +kernel
theorem dX6_lay_85 : decode cX6_lay 85 = .ok (.imul, 1) := by decide +kernel
theorem dX6_lay_86 : decode cX6_lay 86 = .ok (.sipush 256, 3) := by decide +kernel
theorem dX6_lay_89 : decode cX6_lay 89 = .ok (.iadd, 1) := by decide +kernel
theorem dX6_lay_90 : decode cX6_lay 90 = .ok (.iload 9, 2) := by decide +kernel
theorem dX6_lay_92 : decode cX6_lay 92 = .ok (.iadd, 1) := by decide +kernel
theorem dX6_lay_93 : decode cX6_lay 93 = .ok (.laload, 1) := by decide +kernel
theorem dX6_lay_94 : decode cX6_lay 94 = .ok (.lcmp, 1) := by decide +kernel
theorem dX6_lay_95 : decode cX6_lay 95 = .ok (.ifCond .lt 55, 3) := by decide +kernel
theorem dX6_lay_98 : decode cX6_lay 98 = .ok (.lload 4, 2) := by decide +kernel
theorem dX6_lay_100 : decode cX6_lay 100 = .ok (.iload 9, 2) := by decide +kernel
theorem dX6_lay_102 : decode cX6_lay 102 = .ok (.ldc 112, 2) := by decide +kernel
theorem dX6_lay_104 : decode cX6_lay 104 = .ok (.if_icmp .ne 7, 3) := by decide +kernel
theorem dX6_lay_107 : decode cX6_lay 107 = .ok (.lconst 0, 1) := by decide +kernel
theorem dX6_lay_108 : decode cX6_lay 108 = .ok (.goto 21, 3) := by decide +kernel
theorem dX6_lay_111 : decode cX6_lay 111 = .ok (.aload_n 0, 1) := by decide +kernel
theorem dX6_lay_112 : decode cX6_lay 112 = .ok (.getfield 23, 3) := by decide +kernel
theorem dX6_lay_115 : decode cX6_lay 115 = .ok (.sipush 256, 3) := by decide +kernel
theorem dX6_lay_118 : decode cX6_lay 118 = .ok (.iload 7, 2) := by decide +kernel
theorem dX6_lay_120 : decode cX6_lay 120 = .ok (.imul, 1) := by decide +kernel
theorem dX6_lay_121 : decode cX6_lay 121 = .ok (.sipush 256, 3) := by decide +kernel
theorem dX6_lay_124 : decode cX6_lay 124 = .ok (.iadd, 1) := by decide +kernel
theorem dX6_lay_125 : decode cX6_lay 125 = .ok (.iload 9, 2) := by decide +kernel
theorem dX6_lay_127 : decode cX6_lay 127 = .ok (.iadd, 1) := by decide +kernel
theorem dX6_lay_128 : decode cX6_lay 128 = .ok (.laload, 1) := by decide +kernel
theorem dX6_lay_129 : decode cX6_lay 129 = .ok (.lsub, 1) := by decide +kernel
theorem dX6_lay_130 : decode cX6_lay 130 = .ok (.lstore 4, 2) := by decide +kernel
theorem dX6_lay_132 : decode cX6_lay 132 = .ok (.iinc 8 1, 3) := by decide +kernel
theorem dX6_lay_135 : decode cX6_lay 135 = .ok (.aload_n 0, 1) := by decide +kernel
theorem dX6_lay_136 : decode cX6_lay 136 = .ok (.iload 7, 2) := by decide +kernel
theorem dX6_lay_138 : decode cX6_lay 138 = .ok (.iload 6, 2) := by decide +kernel
theorem dX6_lay_140 : decode cX6_lay 140 = .ok (.iload 8, 2) := by decide +kernel
theorem dX6_lay_142 : decode cX6_lay 142 = .ok (.invokevirtual 116, 3) := by decide +kernel
theorem dX6_lay_145 : decode cX6_lay 145 = .ok (.istore 9, 2) := by decide +kernel
theorem dX6_lay_147 : decode cX6_lay 147 = .ok (.goto (-80), 3) := by decide +kernel
theorem dX6_lay_150 : decode cX6_lay 150 = .ok (.aload_n 0, 1) := by decide +kernel
theorem dX6_lay_151 : decode cX6_lay 151 = .ok (.getfield 20, 3) := by decide +kernel
theorem dX6_lay_154 : decode cX6_lay 154 = .ok (.bipush 64, 2) := by decide +kernel
theorem dX6_lay_156 : decode cX6_lay 156 = .ok (.iload_n 1, 1) := by decide +kernel
theorem dX6_lay_157 : decode cX6_lay 157 = .ok (.imul, 1) := by decide +kernel
theorem dX6_lay_158 : decode cX6_lay 158 = .ok (.iload 7, 2) := by decide +kernel
theorem dX6_lay_160 : decode cX6_lay 160 = .ok (.iadd, 1) := by decide +kernel
theorem dX6_lay_161 : decode cX6_lay 161 = .ok (.iload 8, 2) := by decide +kernel
theorem dX6_lay_163 : decode cX6_lay 163 = .ok (.iastore, 1) := by decide +kernel
theorem dX6_lay_164 : decode cX6_lay 164 = .ok (.iload 9, 2) := by decide +kernel
theorem dX6_lay_166 : decode cX6_lay 166 = .ok (.istore 6, 2) := by decide +kernel
theorem dX6_lay_168 : decode cX6_lay 168 = .ok (.iinc 7 1, 3) := by decide +kernel
theorem dX6_lay_171 : decode cX6_lay 171 = .ok (.goto (-128), 3) := by decide +kernel
theorem dX6_lay_174 : decode cX6_lay 174 = .ok (.aload_n 0, 1) := by decide +kernel
theorem dX6_lay_175 : decode cX6_lay 175 = .ok (.getfield 17, 3) := by decide +kernel
theorem dX6_lay_178 : decode cX6_lay 178 = .ok (.iload_n 1, 1) := by decide +kernel
theorem dX6_lay_179 : decode cX6_lay 179 = .ok (.iconst 1, 1) := by decide +kernel
theorem dX6_lay_180 : decode cX6_lay 180 = .ok (.bastore, 1) := by decide +kernel
theorem dX6_lay_181 : decode cX6_lay 181 = .ok (.iconst 1, 1) := by decide +kernel
theorem dX6_lay_182 : decode cX6_lay 182 = .ok (.ireturn, 1) := by decide +kernel
def f_X6_lay_129 (k67 : Int32 → Int64 → Int32 → Int32 → Int32 → Int32 → St → Option (Int32 × St)) (x1 : Int32) (x6 : Int32) (x7 : Int32) (x8 : Int32) (s0 : Int64) (s1 : Int64) (σ : St) : Option (Int32 × St) :=
  bd (f_X6_then x7 x6 (x8 + 1) σ) fun v1 σ2 =>
  k67 x1 (s0 - s1) x6 x7 (x8 + 1) v1 σ2
set_option maxRecDepth 100000 in
set_option maxHeartbeats 4000000 in
theorem b_X6_lay_129 {g : Geo} {x : Cx} (C : Ok g x cX6_lay RX6 10 (some .int) rm_X6_lay) (k67 : Int32 → Int64 → Int32 → Int32 → Int32 → Int32 → St → Option (Int32 × St)) (hk67 : ∀ (x1 : Int32) (x4 : Int64) (x6 : Int32) (x7 : Int32) (x8 : Int32) (x9 : Int32) (τ : St) (r : Int32) (τ' : St), k67 x1 x4 x6 x7 x8 x9 τ = some (r, τ') → V g x (qm g x (some (.int r)) τ') 10 τ [(0, .ref (g.1 26)), (1, .int x1), (4, .long x4), (6, .int x6), (7, .int x7), (8, .int x8), (9, .int x9)] [] 67) : ∀ (x1 : Int32) (x6 : Int32) (x7 : Int32) (x8 : Int32) (s0 : Int64) (s1 : Int64) (σ : St) (r : Int32) (σ' : St), f_X6_lay_129 k67 x1 x6 x7 x8 s0 s1 σ = some (r, σ') → V g x (qm g x (some (.int r)) σ') 10 σ [(0, .ref (g.1 26)), (1, .int x1), (6, .int x6), (7, .int x7), (8, .int x8)] [.long s1, .long s0] 129 := by
  intro x1 x6 x7 x8 s0 s1 σ r σ' h
  unfold f_X6_lay_129 at h
  refine v_lsub C dX6_lay_129 ?_
  refine v_lstore C (lv' := [(4, .long _), (0, .ref _), (1, .int _), (6, .int _), (7, .int _), (8, .int _)]) dX6_lay_130 (by decide) rfl ?_
  refine v_iinc C (v := (x8 + 1)) (lv' := [(8, .int _), (4, .long _), (0, .ref _), (1, .int _), (6, .int _), (7, .int _)]) dX6_lay_132 5 rfl rfl (by decide) rfl ?_
  refine v_aload_n C dX6_lay_135 rfl 2 rfl ?_
  refine v_iload C dX6_lay_136 5 rfl ?_
  refine v_iload C dX6_lay_138 4 rfl ?_
  refine v_iload C dX6_lay_140 0 rfl ?_
  obtain ⟨v1, σ2, cσ2, h⟩ := bd_some h
  refine callVi C (c_X6_then cσ2) km_X6_then kv_X6_then rfl ml_RX6_116 rfl rfl (by decide) (Nat.le_of_ble_eq_true rfl) dX6_lay_142 ?_
  refine v_istore C (lv' := [(9, .int _), (8, .int _), (4, .long _), (0, .ref _), (1, .int _), (6, .int _), (7, .int _)]) dX6_lay_145 (by decide) rfl ?_
  refine v_goto C (tgt := 67) dX6_lay_147 (by decide) ?_
  refine V.sub (lv' := [(0, .ref _), (1, .int _), (4, .long _), (6, .int _), (7, .int _), (8, .int _), (9, .int _)]) [3, 4, 2, 5, 6, 1, 0] rfl ?_
  exact hk67 _ _ _ _ _ _  _ _ _ h
def f_X6_lay_98 (k67 : Int32 → Int64 → Int32 → Int32 → Int32 → Int32 → St → Option (Int32 × St)) (x1 : Int32) (x4 : Int64) (x6 : Int32) (x7 : Int32) (x8 : Int32) (x9 : Int32) (σ : St) : Option (Int32 × St) :=
  if x9 = (-900009 : Int32) then
    f_X6_lay_129 k67 x1 x6 x7 x8 x4 (0 : Int64) σ
  else
    rdL σ 31 ((((256 : Int32) * x7) + (256 : Int32)) + x9) fun v1 =>
    f_X6_lay_129 k67 x1 x6 x7 x8 x4 v1 σ
set_option maxRecDepth 100000 in
set_option maxHeartbeats 4000000 in
theorem b_X6_lay_98 {g : Geo} {x : Cx} (C : Ok g x cX6_lay RX6 10 (some .int) rm_X6_lay) (k67 : Int32 → Int64 → Int32 → Int32 → Int32 → Int32 → St → Option (Int32 × St)) (hk67 : ∀ (x1 : Int32) (x4 : Int64) (x6 : Int32) (x7 : Int32) (x8 : Int32) (x9 : Int32) (τ : St) (r : Int32) (τ' : St), k67 x1 x4 x6 x7 x8 x9 τ = some (r, τ') → V g x (qm g x (some (.int r)) τ') 10 τ [(0, .ref (g.1 26)), (1, .int x1), (4, .long x4), (6, .int x6), (7, .int x7), (8, .int x8), (9, .int x9)] [] 67) : ∀ (x1 : Int32) (x4 : Int64) (x6 : Int32) (x7 : Int32) (x8 : Int32) (x9 : Int32) (σ : St) (r : Int32) (σ' : St), f_X6_lay_98 k67 x1 x4 x6 x7 x8 x9 σ = some (r, σ') → V g x (qm g x (some (.int r)) σ') 10 σ [(0, .ref (g.1 26)), (1, .int x1), (4, .long x4), (6, .int x6), (7, .int x7), (8, .int x8), (9, .int x9)] [] 98 := by
  intro x1 x4 x6 x7 x8 x9 σ r σ' h
  unfold f_X6_lay_98 at h
  refine v_lload C dX6_lay_98 2 rfl ?_
  refine v_iload C dX6_lay_100 6 rfl ?_
  refine v_ldc C (v := (-900009 : Int32)) con_RX6_112 dX6_lay_102 ?_
  refine v_icmp_ne C (tgt := 111) dX6_lay_104 (by decide) (fun q2 => ?_) (fun q2 => ?_)
  · rw [if_neg q2] at h
    refine v_aload_n C dX6_lay_111 rfl 0 rfl ?_
    refine v_getR C (p' := 31) fl_RX6_23 rfl rfl dX6_lay_112 ?_
    refine v_sipush C (v := (256 : Int32)) dX6_lay_115 (by decide) ?_
    refine v_iload C dX6_lay_118 4 rfl ?_
    refine v_imul C dX6_lay_120 ?_
    refine v_sipush C (v := (256 : Int32)) dX6_lay_121 (by decide) ?_
    refine v_iadd C dX6_lay_124 ?_
    refine v_iload C dX6_lay_125 6 rfl ?_
    refine v_iadd C dX6_lay_127 ?_
    obtain ⟨nv1, v1, ev1, h⟩ := rdL_ex h
    refine x_lald C rfl nv1 ev1 dX6_lay_128 ?_
    refine V.sub (lv' := [(0, .ref _), (1, .int _), (6, .int _), (7, .int _), (8, .int _)]) [0, 1, 3, 4, 5] rfl ?_
    exact b_X6_lay_129 C _ hk67 _ _ _ _ _ _  _ _ _ h
  · rw [if_pos q2] at h
    refine v_lconst C (v := (0 : Int64)) dX6_lay_107 (by decide) ?_
    refine v_goto C (tgt := 129) dX6_lay_108 (by decide) ?_
    refine V.sub (lv' := [(0, .ref _), (1, .int _), (6, .int _), (7, .int _), (8, .int _)]) [0, 1, 3, 4, 5] rfl ?_
    exact b_X6_lay_129 C _ hk67 _ _ _ _ _ _  _ _ _ h
def f_X6_lay_67 (k43 : Int32 → Int64 → Int32 → Int32 → St → Option (Int32 × St)) : Nat → Int32 → Int64 → Int32 → Int32 → Int32 → Int32 → St → Option (Int32 × St)
  | 0, _, _, _, _, _, _, _ => none
  | n + 1, x1, x4, x6, x7, x8, x9, σ =>
    if x9 = (-900009 : Int32) then
      f_X6_lay_98 (f_X6_lay_67 k43 n) x1 x4 x6 x7 x8 x9 σ
    else
      rdL σ 31 ((((256 : Int32) * x7) + (256 : Int32)) + x9) fun v1 =>
      if x4 < v1 then
        wrI σ 30 (((64 : Int32) * x1) + x7) x8 fun σ2 =>
        k43 x1 x4 x9 (x7 + 1) σ2
      else
        f_X6_lay_98 (f_X6_lay_67 k43 n) x1 x4 x6 x7 x8 x9 σ
set_option maxRecDepth 100000 in
set_option maxHeartbeats 4000000 in
theorem b_X6_lay_67 {g : Geo} {x : Cx} (C : Ok g x cX6_lay RX6 10 (some .int) rm_X6_lay) (k43 : Int32 → Int64 → Int32 → Int32 → St → Option (Int32 × St)) (hk43 : ∀ (x1 : Int32) (x4 : Int64) (x6 : Int32) (x7 : Int32) (τ : St) (r : Int32) (τ' : St), k43 x1 x4 x6 x7 τ = some (r, τ') → V g x (qm g x (some (.int r)) τ') 10 τ [(0, .ref (g.1 26)), (1, .int x1), (4, .long x4), (6, .int x6), (7, .int x7)] [] 43) : ∀ (n : Nat) (x1 : Int32) (x4 : Int64) (x6 : Int32) (x7 : Int32) (x8 : Int32) (x9 : Int32) (σ : St) (r : Int32) (σ' : St), f_X6_lay_67 k43 n x1 x4 x6 x7 x8 x9 σ = some (r, σ') → V g x (qm g x (some (.int r)) σ') 10 σ [(0, .ref (g.1 26)), (1, .int x1), (4, .long x4), (6, .int x6), (7, .int x7), (8, .int x8), (9, .int x9)] [] 67 := by
  intro n
  induction n with
  | zero =>
    intro x1 x4 x6 x7 x8 x9 σ r σ' h
    rw [f_X6_lay_67] at h
    cases h
  | succ n ih =>
    intro x1 x4 x6 x7 x8 x9 σ r σ' h
    rw [f_X6_lay_67] at h
    refine v_iload C dX6_lay_67 6 rfl ?_
    refine v_ldc C (v := (-900009 : Int32)) con_RX6_112 dX6_lay_69 ?_
    refine v_icmp_eq C (tgt := 98) dX6_lay_71 (by decide) (fun q4 => ?_) (fun q4 => ?_)
    · rw [if_pos q4] at h
      refine V.sub (lv' := [(0, .ref _), (1, .int _), (4, .long _), (6, .int _), (7, .int _), (8, .int _), (9, .int _)]) [0, 1, 2, 3, 4, 5, 6] rfl ?_
      exact b_X6_lay_98 C _ ih _ _ _ _ _ _  _ _ _ h
    · rw [if_neg q4] at h
      refine v_lload C dX6_lay_74 2 rfl ?_
      refine v_aload_n C dX6_lay_76 rfl 0 rfl ?_
      refine v_getR C (p' := 31) fl_RX6_23 rfl rfl dX6_lay_77 ?_
      refine v_sipush C (v := (256 : Int32)) dX6_lay_80 (by decide) ?_
      refine v_iload C dX6_lay_83 4 rfl ?_
      refine v_imul C dX6_lay_85 ?_
      refine v_sipush C (v := (256 : Int32)) dX6_lay_86 (by decide) ?_
      refine v_iadd C dX6_lay_89 ?_
      refine v_iload C dX6_lay_90 6 rfl ?_
      refine v_iadd C dX6_lay_92 ?_
      obtain ⟨nv1, v1, ev1, h⟩ := rdL_ex h
      refine x_lald C rfl nv1 ev1 dX6_lay_93 ?_
      refine v_lcmp_lt C (tgt := 150) dX6_lay_94 dX6_lay_95 (by decide) (fun q3 => ?_) (fun q3 => ?_)
      · rw [if_pos q3] at h
        refine v_aload_n C dX6_lay_150 rfl 0 rfl ?_
        refine v_getR C (p' := 30) fl_RX6_20 rfl rfl dX6_lay_151 ?_
        refine v_bipush C (v := (64 : Int32)) dX6_lay_154 (by decide) ?_
        refine v_iload_n C dX6_lay_156 rfl 1 rfl ?_
        refine v_imul C dX6_lay_157 ?_
        refine v_iload C dX6_lay_158 4 rfl ?_
        refine v_iadd C dX6_lay_160 ?_
        refine v_iload C dX6_lay_161 5 rfl ?_
        obtain ⟨nσ2, σ2, eσ2, h⟩ := wrI_ex h
        refine x_iast C rfl nσ2 eσ2 dX6_lay_163 ?_
        refine v_iload C dX6_lay_164 6 rfl ?_
        refine v_istore C (lv' := [(6, .int _), (0, .ref _), (1, .int _), (4, .long _), (7, .int _), (8, .int _), (9, .int _)]) dX6_lay_166 (by decide) rfl ?_
        refine v_iinc C (v := (x7 + 1)) (lv' := [(7, .int _), (6, .int _), (0, .ref _), (1, .int _), (4, .long _), (8, .int _), (9, .int _)]) dX6_lay_168 4 rfl rfl (by decide) rfl ?_
        refine v_goto C (tgt := 43) dX6_lay_171 (by decide) ?_
        refine V.sub (lv' := [(0, .ref _), (1, .int _), (4, .long _), (6, .int _), (7, .int _)]) [2, 3, 4, 1, 0] rfl ?_
        exact hk43 _ _ _ _  _ _ _ h
      · rw [if_neg q3] at h
        refine V.sub (lv' := [(0, .ref _), (1, .int _), (4, .long _), (6, .int _), (7, .int _), (8, .int _), (9, .int _)]) [0, 1, 2, 3, 4, 5, 6] rfl ?_
        exact b_X6_lay_98 C _ ih _ _ _ _ _ _  _ _ _ h
def f_X6_lay_43 : Nat → Int32 → Int64 → Int32 → Int32 → St → Option (Int32 × St)
  | 0, _, _, _, _, _ => none
  | n + 1, x1, x4, x6, x7, σ =>
    bd (f_X6_cells σ) fun v1 σ2 =>
    if v1 ≤ x7 then
      wrZ σ2 29 x1 (1 : Int32) fun σ3 =>
      some ((1 : Int32), σ3)
    else
      bd (f_X6_then x7 x6 (0 : Int32) σ2) fun v4 σ5 =>
      f_X6_lay_67 (f_X6_lay_43 n) FU x1 x4 x6 x7 (0 : Int32) v4 σ5
set_option maxRecDepth 100000 in
set_option maxHeartbeats 4000000 in
theorem b_X6_lay_43 {g : Geo} {x : Cx} (C : Ok g x cX6_lay RX6 10 (some .int) rm_X6_lay) : ∀ (n : Nat) (x1 : Int32) (x4 : Int64) (x6 : Int32) (x7 : Int32) (σ : St) (r : Int32) (σ' : St), f_X6_lay_43 n x1 x4 x6 x7 σ = some (r, σ') → V g x (qm g x (some (.int r)) σ') 10 σ [(0, .ref (g.1 26)), (1, .int x1), (4, .long x4), (6, .int x6), (7, .int x7)] [] 43 := by
  intro n
  induction n with
  | zero =>
    intro x1 x4 x6 x7 σ r σ' h
    rw [f_X6_lay_43] at h
    cases h
  | succ n ih =>
    intro x1 x4 x6 x7 σ r σ' h
    rw [f_X6_lay_43] at h
    refine v_iload C dX6_lay_43 4 rfl ?_
    refine v_aload_n C dX6_lay_45 rfl 0 rfl ?_
    obtain ⟨v1, σ2, cσ2, h⟩ := bd_some h
    refine callVi C (c_X6_cells cσ2) km_X6_cells kv_X6_cells rfl ml_RX6_80 rfl rfl (by decide) (Nat.le_of_ble_eq_true rfl) dX6_lay_46 ?_
    refine v_icmp_ge C (tgt := 174) dX6_lay_49 (by decide) (fun q6 => ?_) (fun q6 => ?_)
    · rw [if_pos q6] at h
      refine v_aload_n C dX6_lay_174 rfl 0 rfl ?_
      refine v_getR C (p' := 29) fl_RX6_17 rfl rfl dX6_lay_175 ?_
      refine v_iload_n C dX6_lay_178 rfl 1 rfl ?_
      refine v_iconst C (v := (1 : Int32)) dX6_lay_179 (by decide) ?_
      obtain ⟨nσ3, σ3, eσ3, h⟩ := wrZ_ex h
      refine x_zast C rfl nσ3 eσ3 dX6_lay_180 ?_
      refine v_iconst C (v := (1 : Int32)) dX6_lay_181 (by decide) ?_
      cases h
      exact v_iret C dX6_lay_182
    · rw [if_neg q6] at h
      refine v_iconst C (v := (0 : Int32)) dX6_lay_52 (by decide) ?_
      refine v_istore C (lv' := [(8, .int _), (0, .ref _), (1, .int _), (4, .long _), (6, .int _), (7, .int _)]) dX6_lay_53 (by decide) rfl ?_
      refine v_aload_n C dX6_lay_55 rfl 1 rfl ?_
      refine v_iload C dX6_lay_56 5 rfl ?_
      refine v_iload C dX6_lay_58 4 rfl ?_
      refine v_iload C dX6_lay_60 0 rfl ?_
      obtain ⟨v4, σ5, cσ5, h⟩ := bd_some h
      refine callVi C (c_X6_then cσ5) km_X6_then kv_X6_then rfl ml_RX6_116 rfl rfl (by decide) (Nat.le_of_ble_eq_true rfl) dX6_lay_62 ?_
      refine v_istore C (lv' := [(9, .int _), (8, .int _), (0, .ref _), (1, .int _), (4, .long _), (6, .int _), (7, .int _)]) dX6_lay_65 (by decide) rfl ?_
      refine V.sub (lv' := [(0, .ref _), (1, .int _), (4, .long _), (6, .int _), (7, .int _), (8, .int _), (9, .int _)]) [2, 3, 4, 5, 6, 1, 0] rfl ?_
      exact b_X6_lay_67 C _ ih FU _ _ _ _ _ _  _ _ _ h
def f_X6_lay_31 (σ : St) : Option (Int32 × St) :=
  some ((-900002 : Int32), σ)
set_option maxRecDepth 100000 in
set_option maxHeartbeats 4000000 in
theorem b_X6_lay_31 {g : Geo} {x : Cx} (C : Ok g x cX6_lay RX6 10 (some .int) rm_X6_lay) : ∀ (σ : St) (r : Int32) (σ' : St), f_X6_lay_31 σ = some (r, σ') → V g x (qm g x (some (.int r)) σ') 10 σ [] [] 31 := by
  intro σ r σ' h
  unfold f_X6_lay_31 at h
  refine v_ldc C (v := (-900002 : Int32)) con_RX6_90 dX6_lay_31 ?_
  cases h
  exact v_iret C dX6_lay_33
def f_X6_lay (a1 : Int32) (a2 : Int64) (σ : St) : Option (Int32 × St) :=
  bd (f_X6_isSlot a1 σ) fun v1 σ2 =>
  if v1 = 0 then
    some ((-900001 : Int32), σ2)
  else
    bd (f_X6_layWays σ2) fun _ σ4 =>
    if a2 < (0 : Int64) then
      f_X6_lay_31 σ4
    else
      rdL σ4 31 (0 : Int32) fun v5 =>
      if a2 < v5 then
        f_X6_lay_43 FU a1 a2 (0 : Int32) (0 : Int32) σ4
      else
        f_X6_lay_31 σ4
set_option maxRecDepth 100000 in
set_option maxHeartbeats 4000000 in
theorem c_X6_lay {g : Geo} {a1 : Int32} {a2 : Int64} {σ : St} {r : Int32} {σ' : St} (h : f_X6_lay a1 a2 σ = some (r, σ')) : Ct g yX6_lay cX6_lay 10 (some .int) rm_X6_lay [.ref (g.1 26), .int a1, .long a2] σ (some (.int r)) σ' := by
  refine ct_of (own := RX6) (by decide) rfl (Nat.le_of_ble_eq_true rfl) (fun x C => ?_) ⟨rfl, rfl⟩
  show V g x _ 10 σ [(0, .ref (g.1 26)), (1, .int a1), (2, .long a2)] [] 0
  unfold f_X6_lay at h
  refine v_iload_n C dX6_lay_0 rfl 1 rfl ?_
  obtain ⟨v1, σ2, cσ2, h⟩ := bd_some h
  refine callSi C (c_X6_isSlot cσ2) km_X6_isSlot ks_X6_isSlot ml_RX6_155 rfl rfl (by decide) (Nat.le_of_ble_eq_true rfl) dX6_lay_1 ?_
  refine v_if_ne C (tgt := 10) dX6_lay_4 (by decide) (fun q8 => ?_) (fun q8 => ?_)
  · rw [if_neg q8] at h
    refine v_aload_n C dX6_lay_10 rfl 0 rfl ?_
    obtain ⟨v3, σ4, cσ4, h⟩ := bd_some h
    refine callVv C (c_X6_layWays cσ4) km_X6_layWays kv_X6_layWays rfl ml_RX6_120 rfl rfl (by decide) (Nat.le_of_ble_eq_true rfl) dX6_lay_11 ?_
    refine v_lload_n C dX6_lay_14 rfl 2 rfl ?_
    refine v_lconst C (v := (0 : Int64)) dX6_lay_15 (by decide) ?_
    refine v_lcmp_lt C (tgt := 31) dX6_lay_16 dX6_lay_17 (by decide) (fun q7 => ?_) (fun q7 => ?_)
    · rw [if_pos q7] at h
      refine V.sub (lv' := []) [] rfl ?_
      exact b_X6_lay_31 C  _ _ _ h
    · rw [if_neg q7] at h
      refine v_lload_n C dX6_lay_20 rfl 2 rfl ?_
      refine v_aload_n C dX6_lay_21 rfl 0 rfl ?_
      refine v_getR C (p' := 31) fl_RX6_23 rfl rfl dX6_lay_22 ?_
      refine v_iconst C (v := (0 : Int32)) dX6_lay_25 (by decide) ?_
      obtain ⟨nv5, v5, ev5, h⟩ := rdL_ex h
      refine x_lald C rfl nv5 ev5 dX6_lay_26 ?_
      refine v_lcmp_lt C (tgt := 34) dX6_lay_27 dX6_lay_28 (by decide) (fun q6 => ?_) (fun q6 => ?_)
      · rw [if_pos q6] at h
        refine v_lload_n C dX6_lay_34 rfl 2 rfl ?_
        refine v_lstore C (lv' := [(4, .long _), (0, .ref _), (1, .int _), (2, .long _)]) dX6_lay_35 (by decide) rfl ?_
        refine v_iconst C (v := (0 : Int32)) dX6_lay_37 (by decide) ?_
        refine v_istore C (lv' := [(6, .int _), (4, .long _), (0, .ref _), (1, .int _), (2, .long _)]) dX6_lay_38 (by decide) rfl ?_
        refine v_iconst C (v := (0 : Int32)) dX6_lay_40 (by decide) ?_
        refine v_istore C (lv' := [(7, .int _), (6, .int _), (4, .long _), (0, .ref _), (1, .int _), (2, .long _)]) dX6_lay_41 (by decide) rfl ?_
        refine V.sub (lv' := [(0, .ref _), (1, .int _), (4, .long _), (6, .int _), (7, .int _)]) [3, 4, 2, 1, 0] rfl ?_
        exact b_X6_lay_43 C FU _ _ _ _  _ _ _ h
      · rw [if_neg q6] at h
        refine V.sub (lv' := []) [] rfl ?_
        exact b_X6_lay_31 C  _ _ _ h
  · rw [if_pos q8] at h
    refine v_ldc C (v := (-900001 : Int32)) con_RX6_97 dX6_lay_7 ?_
    cases h
    exact v_iret C dX6_lay_9
theorem dX6_isBest_0 : decode cX6_isBest 0 = .ok (.aload_n 0, 1) := by decide +kernel
theorem dX6_isBest_1 : decode cX6_isBest 1 = .ok (.iload_n 1, 1) := by decide +kernel
theorem dX6_isBest_2 : decode cX6_isBest 2 = .ok (.iload_n 2, 1) := by decide +kernel
theorem dX6_isBest_3 : decode cX6_isBest 3 = .ok (.iload_n 3, 1) := by decide +kernel
theorem dX6_isBest_4 : decode cX6_isBest 4 = .ok (.invokevirtual 116, 3) := by decide +kernel
theorem dX6_isBest_7 : decode cX6_isBest 7 = .ok (.istore 4, 2) := by decide +kernel
theorem dX6_isBest_9 : decode cX6_isBest 9 = .ok (.iload 4, 2) := by decide +kernel
theorem dX6_isBest_11 : decode cX6_isBest 11 = .ok (.ldc 112, 2) := by decide +kernel
theorem dX6_isBest_13 : decode cX6_isBest 13 = .ok (.if_icmp .eq 70, 3) := by decide +kernel
theorem dX6_isBest_16 : decode cX6_isBest 16 = .ok (.aload_n 0, 1) := by decide +kernel
theorem dX6_isBest_17 : decode cX6_isBest 17 = .ok (.getfield 30, 3) := by decide +kernel
theorem dX6_isBest_20 : decode cX6_isBest 20 = .ok (.sipush 256, 3) := by decide +kernel
theorem dX6_isBest_23 : decode cX6_isBest 23 = .ok (.iload_n 1, 1) := by decide +kernel
theorem dX6_isBest_24 : decode cX6_isBest 24 = .ok (.imul, 1) := by decide +kernel
theorem dX6_isBest_25 : decode cX6_isBest 25 = .ok (.sipush 256, 3) := by decide +kernel
theorem dX6_isBest_28 : decode cX6_isBest 28 = .ok (.iadd, 1) := by decide +kernel
theorem dX6_isBest_29 : decode cX6_isBest 29 = .ok (.iload 4, 2) := by decide +kernel
theorem dX6_isBest_31 : decode cX6_isBest 31 = .ok (.iadd, 1) := by decide +kernel
theorem dX6_isBest_32 : decode cX6_isBest 32 = .ok (.iaload, 1) := by decide +kernel
theorem dX6_isBest_33 : decode cX6_isBest 33 = .ok (.ldc 112, 2) := by decide +kernel
theorem dX6_isBest_35 : decode cX6_isBest 35 = .ok (.if_icmp .eq 48, 3) := by decide +kernel
theorem dX6_isBest_38 : decode cX6_isBest 38 = .ok (.aload_n 0, 1) := by decide +kernel
theorem dX6_isBest_39 : decode cX6_isBest 39 = .ok (.getfield 30, 3) := by decide +kernel
theorem dX6_isBest_42 : decode cX6_isBest 42 = .ok (.sipush 256, 3) := by decide +kernel
theorem dX6_isBest_45 : decode cX6_isBest 45 = .ok (.iload_n 1, 1) := by decide +kernel
theorem dX6_isBest_46 : decode cX6_isBest 46 = .ok (.imul, 1) := by decide +kernel
theorem dX6_isBest_47 : decode cX6_isBest 47 = .ok (.sipush 256, 3) := by decide +kernel
theorem dX6_isBest_50 : decode cX6_isBest 50 = .ok (.iadd, 1) := by decide +kernel
theorem dX6_isBest_51 : decode cX6_isBest 51 = .ok (.iload 4, 2) := by decide +kernel
theorem dX6_isBest_53 : decode cX6_isBest 53 = .ok (.iadd, 1) := by decide +kernel
theorem dX6_isBest_54 : decode cX6_isBest 54 = .ok (.iaload, 1) := by decide +kernel
theorem dX6_isBest_55 : decode cX6_isBest 55 = .ok (.aload_n 0, 1) := by decide +kernel
theorem dX6_isBest_56 : decode cX6_isBest 56 = .ok (.iload_n 1, 1) := by decide +kernel
theorem dX6_isBest_57 : decode cX6_isBest 57 = .ok (.iload_n 3, 1) := by decide +kernel
theorem dX6_isBest_58 : decode cX6_isBest 58 = .ok (.iconst 3, 1) := by decide +kernel
theorem dX6_isBest_59 : decode cX6_isBest 59 = .ok (.iconst 1, 1) := by decide +kernel
theorem dX6_isBest_60 : decode cX6_isBest 60 = .ok (.invokevirtual 141, 3) := by decide +kernel
theorem dX6_isBest_63 : decode cX6_isBest 63 = .ok (.iadd, 1) := by decide +kernel
theorem dX6_isBest_64 : decode cX6_isBest 64 = .ok (.aload_n 0, 1) := by decide +kernel
theorem dX6_isBest_65 : decode cX6_isBest 65 = .ok (.getfield 30, 3) := by decide +kernel
theorem dX6_isBest_68 : decode cX6_isBest 68 = .ok (.sipush 256, 3) := by decide +kernel
theorem dX6_isBest_71 : decode cX6_isBest 71 = .ok (.iload_n 1, 1) := by decide +kernel
theorem dX6_isBest_72 : decode cX6_isBest 72 = .ok (.imul, 1) := by decide +kernel
theorem dX6_isBest_73 : decode cX6_isBest 73 = .ok (.iload_n 2, 1) := by decide +kernel
theorem dX6_isBest_74 : decode cX6_isBest 74 = .ok (.iadd, 1) := by decide +kernel
theorem dX6_isBest_75 : decode cX6_isBest 75 = .ok (.iaload, 1) := by decide +kernel
theorem dX6_isBest_76 : decode cX6_isBest 76 = .ok (.if_icmp .ne 7, 3) := by decide +kernel
theorem dX6_isBest_79 : decode cX6_isBest 79 = .ok (.iconst 1, 1) := by decide +kernel
theorem dX6_isBest_80 : decode cX6_isBest 80 = .ok (.goto 4, 3) := by decide +kernel
theorem dX6_isBest_83 : decode cX6_isBest 83 = .ok (.iconst 0, 1) := by decide +kernel
theorem dX6_isBest_84 : decode cX6_isBest 84 = .ok (.ireturn, 1) := by decide +kernel
def f_X6_isBest_84 (s0 : Int32) (σ : St) : Option (Int32 × St) :=
  gz s0 <|
  some (s0, σ)
set_option maxRecDepth 100000 in
set_option maxHeartbeats 4000000 in
theorem b_X6_isBest_84 {g : Geo} {x : Cx} (C : Ok g x cX6_isBest RX6 5 (some .boolean) rm_X6_isBest) : ∀ (s0 : Int32) (σ : St) (r : Int32) (σ' : St), f_X6_isBest_84 s0 σ = some (r, σ') → V g x (qm g x (some (.int r)) σ') 5 σ [] [.int s0] 84 := by
  intro s0 σ r σ' h
  unfold f_X6_isBest_84 at h
  obtain ⟨hz, h⟩ := gz_some h
  cases h
  exact v_zret C hz dX6_isBest_84
def f_X6_isBest_83 (σ : St) : Option (Int32 × St) :=
  f_X6_isBest_84 (0 : Int32) σ
set_option maxRecDepth 100000 in
set_option maxHeartbeats 4000000 in
theorem b_X6_isBest_83 {g : Geo} {x : Cx} (C : Ok g x cX6_isBest RX6 5 (some .boolean) rm_X6_isBest) : ∀ (σ : St) (r : Int32) (σ' : St), f_X6_isBest_83 σ = some (r, σ') → V g x (qm g x (some (.int r)) σ') 5 σ [] [] 83 := by
  intro σ r σ' h
  unfold f_X6_isBest_83 at h
  refine v_iconst C (v := (0 : Int32)) dX6_isBest_83 (by decide) ?_
  refine V.sub (lv' := []) [] rfl ?_
  exact b_X6_isBest_84 C _  _ _ _ h
def f_X6_isBest (a1 : Int32) (a2 : Int32) (a3 : Int32) (σ : St) : Option (Int32 × St) :=
  bd (f_X6_then a1 a2 a3 σ) fun v1 σ2 =>
  if v1 = (-900009 : Int32) then
    f_X6_isBest_83 σ2
  else
    rdI σ2 33 ((((256 : Int32) * a1) + (256 : Int32)) + v1) fun v3 =>
    if v3 = (-900009 : Int32) then
      f_X6_isBest_83 σ2
    else
      rdI σ2 33 ((((256 : Int32) * a1) + (256 : Int32)) + v1) fun v4 =>
      bd (f_X6_worth a1 a3 (3 : Int32) (1 : Int32) σ2) fun v5 σ6 =>
      rdI σ6 33 (((256 : Int32) * a1) + a2) fun v7 =>
      if (v4 + v5) = v7 then
        f_X6_isBest_84 (1 : Int32) σ6
      else
        f_X6_isBest_83 σ6
set_option maxRecDepth 100000 in
set_option maxHeartbeats 4000000 in
theorem c_X6_isBest {g : Geo} {a1 : Int32} {a2 : Int32} {a3 : Int32} {σ : St} {r : Int32} {σ' : St} (h : f_X6_isBest a1 a2 a3 σ = some (r, σ')) : Ct g yX6_isBest cX6_isBest 5 (some .boolean) rm_X6_isBest [.ref (g.1 26), .int a1, .int a2, .int a3] σ (some (.int r)) σ' := by
  refine ct_of (own := RX6) (by decide) rfl (Nat.le_of_ble_eq_true rfl) (fun x C => ?_) ⟨rfl, rfl⟩
  show V g x _ 5 σ [(0, .ref (g.1 26)), (1, .int a1), (2, .int a2), (3, .int a3)] [] 0
  unfold f_X6_isBest at h
  refine v_aload_n C dX6_isBest_0 rfl 0 rfl ?_
  refine v_iload_n C dX6_isBest_1 rfl 1 rfl ?_
  refine v_iload_n C dX6_isBest_2 rfl 2 rfl ?_
  refine v_iload_n C dX6_isBest_3 rfl 3 rfl ?_
  obtain ⟨v1, σ2, cσ2, h⟩ := bd_some h
  refine callVi C (c_X6_then cσ2) km_X6_then kv_X6_then rfl ml_RX6_116 rfl rfl (by decide) (Nat.le_of_ble_eq_true rfl) dX6_isBest_4 ?_
  refine v_istore C (lv' := [(4, .int _), (0, .ref _), (1, .int _), (2, .int _), (3, .int _)]) dX6_isBest_7 (by decide) rfl ?_
  refine v_iload C dX6_isBest_9 0 rfl ?_
  refine v_ldc C (v := (-900009 : Int32)) con_RX6_112 dX6_isBest_11 ?_
  refine v_icmp_eq C (tgt := 83) dX6_isBest_13 (by decide) (fun q10 => ?_) (fun q10 => ?_)
  · rw [if_pos q10] at h
    refine V.sub (lv' := []) [] rfl ?_
    exact b_X6_isBest_83 C  _ _ _ h
  · rw [if_neg q10] at h
    refine v_aload_n C dX6_isBest_16 rfl 1 rfl ?_
    refine v_getR C (p' := 33) fl_RX6_30 rfl rfl dX6_isBest_17 ?_
    refine v_sipush C (v := (256 : Int32)) dX6_isBest_20 (by decide) ?_
    refine v_iload_n C dX6_isBest_23 rfl 2 rfl ?_
    refine v_imul C dX6_isBest_24 ?_
    refine v_sipush C (v := (256 : Int32)) dX6_isBest_25 (by decide) ?_
    refine v_iadd C dX6_isBest_28 ?_
    refine v_iload C dX6_isBest_29 0 rfl ?_
    refine v_iadd C dX6_isBest_31 ?_
    obtain ⟨nv3, v3, ev3, h⟩ := rdI_ex h
    refine x_iald C rfl nv3 ev3 dX6_isBest_32 ?_
    refine v_ldc C (v := (-900009 : Int32)) con_RX6_112 dX6_isBest_33 ?_
    refine v_icmp_eq C (tgt := 83) dX6_isBest_35 (by decide) (fun q9 => ?_) (fun q9 => ?_)
    · rw [if_pos q9] at h
      refine V.sub (lv' := []) [] rfl ?_
      exact b_X6_isBest_83 C  _ _ _ h
    · rw [if_neg q9] at h
      refine v_aload_n C dX6_isBest_38 rfl 1 rfl ?_
      refine v_getR C (p' := 33) fl_RX6_30 rfl rfl dX6_isBest_39 ?_
      refine v_sipush C (v := (256 : Int32)) dX6_isBest_42 (by decide) ?_
      refine v_iload_n C dX6_isBest_45 rfl 2 rfl ?_
      refine v_imul C dX6_isBest_46 ?_
      refine v_sipush C (v := (256 : Int32)) dX6_isBest_47 (by decide) ?_
      refine v_iadd C dX6_isBest_50 ?_
      refine v_iload C dX6_isBest_51 0 rfl ?_
      refine v_iadd C dX6_isBest_53 ?_
      obtain ⟨nv4, v4, ev4, h⟩ := rdI_ex h
      refine x_iald C rfl nv4 ev4 dX6_isBest_54 ?_
      refine v_aload_n C dX6_isBest_55 rfl 1 rfl ?_
      refine v_iload_n C dX6_isBest_56 rfl 2 rfl ?_
      refine v_iload_n C dX6_isBest_57 rfl 4 rfl ?_
      refine v_iconst C (v := (3 : Int32)) dX6_isBest_58 (by decide) ?_
      refine v_iconst C (v := (1 : Int32)) dX6_isBest_59 (by decide) ?_
      obtain ⟨v5, σ6, cσ6, h⟩ := bd_some h
      refine callVi C (c_X6_worth cσ6) km_X6_worth kv_X6_worth rfl ml_RX6_141 rfl rfl (by decide) (Nat.le_of_ble_eq_true rfl) dX6_isBest_60 ?_
      refine v_iadd C dX6_isBest_63 ?_
      refine v_aload_n C dX6_isBest_64 rfl 1 rfl ?_
      refine v_getR C (p' := 33) fl_RX6_30 rfl rfl dX6_isBest_65 ?_
      refine v_sipush C (v := (256 : Int32)) dX6_isBest_68 (by decide) ?_
      refine v_iload_n C dX6_isBest_71 rfl 2 rfl ?_
      refine v_imul C dX6_isBest_72 ?_
      refine v_iload_n C dX6_isBest_73 rfl 3 rfl ?_
      refine v_iadd C dX6_isBest_74 ?_
      obtain ⟨nv7, v7, ev7, h⟩ := rdI_ex h
      refine x_iald C rfl nv7 ev7 dX6_isBest_75 ?_
      refine v_icmp_ne C (tgt := 83) dX6_isBest_76 (by decide) (fun q8 => ?_) (fun q8 => ?_)
      · rw [if_neg q8] at h
        refine V.sub (lv' := []) [] rfl ?_
        exact b_X6_isBest_83 C  _ _ _ h
      · rw [if_pos q8] at h
        refine v_iconst C (v := (1 : Int32)) dX6_isBest_79 (by decide) ?_
        refine v_goto C (tgt := 84) dX6_isBest_80 (by decide) ?_
        refine V.sub (lv' := []) [] rfl ?_
        exact b_X6_isBest_84 C _  _ _ _ h
theorem dX6_layDearest_0 : decode cX6_layDearest 0 = .ok (.iload_n 1, 1) := by decide +kernel
theorem dX6_layDearest_1 : decode cX6_layDearest 1 = .ok (.invokestatic 155, 3) := by decide +kernel
theorem dX6_layDearest_4 : decode cX6_layDearest 4 = .ok (.ifCond .ne 6, 3) := by decide +kernel
theorem dX6_layDearest_7 : decode cX6_layDearest 7 = .ok (.ldc 97, 2) := by decide +kernel
theorem dX6_layDearest_9 : decode cX6_layDearest 9 = .ok (.ireturn, 1) := by decide +kernel
theorem dX6_layDearest_10 : decode cX6_layDearest 10 = .ok (.aload_n 0, 1) := by decide +kernel
theorem dX6_layDearest_11 : decode cX6_layDearest 11 = .ok (.iconst 3, 1) := by decide +kernel
theorem dX6_layDearest_12 : decode cX6_layDearest 12 = .ok (.iconst 1, 1) := by decide +kernel
theorem dX6_layDearest_13 : decode cX6_layDearest 13 = .ok (.invokevirtual 145, 3) := by decide +kernel
theorem dX6_layDearest_16 : decode cX6_layDearest 16 = .ok (.aload_n 0, 1) := by decide +kernel
theorem dX6_layDearest_17 : decode cX6_layDearest 17 = .ok (.getfield 30, 3) := by decide +kernel
theorem dX6_layDearest_20 : decode cX6_layDearest 20 = .ok (.iconst 0, 1) := by decide +kernel
theorem dX6_layDearest_21 : decode cX6_layDearest 21 = .ok (.iaload, 1) := by decide +kernel
theorem dX6_layDearest_22 : decode cX6_layDearest 22 = .ok (.ldc 112, 2) := by decide +kernel
theorem dX6_layDearest_24 : decode cX6_layDearest 24 = .ok (.if_icmp .ne 6, 3) := by decide +kernel
theorem dX6_layDearest_27 : decode cX6_layDearest 27 = .ok (.ldc 158, 2) := by decide +kernel
theorem dX6_layDearest_29 : decode cX6_layDearest 29 = .ok (.ireturn, 1) := by decide +kernel
theorem dX6_layDearest_30 : decode cX6_layDearest 30 = .ok (.iconst 0, 1) := by decide +kernel
theorem dX6_layDearest_31 : decode cX6_layDearest 31 = .ok (.istore_n 2, 1) := by decide +kernel
theorem dX6_layDearest_32 : decode cX6_layDearest 32 = .ok (.iconst 0, 1) := by decide +kernel
theorem dX6_layDearest_33 : decode cX6_layDearest 33 = .ok (.istore_n 3, 1) := by decide +kernel
theorem dX6_layDearest_34 : decode cX6_layDearest 34 = .ok (.iload_n 3, 1) := by decide +kernel
theorem dX6_layDearest_35 : decode cX6_layDearest 35 = .ok (.aload_n 0, 1) := by decide +kernel
theorem dX6_layDearest_36 : decode cX6_layDearest 36 = .ok (.invokevirtual 80, 3) := by decide +kernel
theorem dX6_layDearest_39 : decode cX6_layDearest 39 = .ok (.if_icmp .ge 51, 3) := by decide +kernel
theorem dX6_layDearest_42 : decode cX6_layDearest 42 = .ok (.iconst 0, 1) := by decide +kernel
theorem dX6_layDearest_43 : decode cX6_layDearest 43 = .ok (.istore 4, 2) := by decide +kernel
theorem dX6_layDearest_45 : decode cX6_layDearest 45 = .ok (.aload_n 0, 1) := by decide +kernel
theorem dX6_layDearest_46 : decode cX6_layDearest 46 = .ok (.iload_n 3, 1) := by decide +kernel
theorem dX6_layDearest_47 : decode cX6_layDearest 47 = .ok (.iload_n 2, 1) := by decide +kernel
theorem dX6_layDearest_48 : decode cX6_layDearest 48 = .ok (.iload 4, 2) := by decide +kernel
theorem dX6_layDearest_50 : decode cX6_layDearest 50 = .ok (.invokevirtual 159, 3) := by decide +kernel
theorem dX6_layDearest_53 : decode cX6_layDearest 53 = .ok (.ifCond .ne 9, 3) := by decide +kernel
theorem dX6_layDearest_56 : decode cX6_layDearest 56 = .ok (.iinc 4 1, 3) := by decide +kernel
theorem dX6_layDearest_59 : decode cX6_layDearest 59 = .ok (.goto (-14), 3) := by decide +kernel
theorem dX6_layDearest_62 : decode cX6_layDearest 62 = .ok (.aload_n 0, 1) := by decide +kernel
theorem dX6_layDearest_63 : decode cX6_layDearest 63 = .ok (.getfield 20, 3) := by decide +kernel
theorem dX6_layDearest_66 : decode cX6_layDearest 66 = .ok (.bipush 64, 2) := by decide +kernel
theorem dX6_layDearest_68 : decode cX6_layDearest 68 = .ok (.iload_n 1, 1) := by decide +kernel
theorem dX6_layDearest_69 : decode cX6_layDearest 69 = .ok (.imul, 1) := by decide +kernel
theorem dX6_layDearest_70 : decode cX6_layDearest 70 = .ok (.iload_n 3, 1) := by decide +kernel
theorem dX6_layDearest_71 : decode cX6_layDearest 71 = .ok (.iadd, 1) := by decide +kernel
theorem dX6_layDearest_72 : decode cX6_layDearest 72 = .ok (.iload 4, 2) := by decide +kernel
theorem dX6_layDearest_74 : decode cX6_layDearest 74 = .ok (.iastore, 1) := by decide +kernel
theorem dX6_layDearest_75 : decode cX6_layDearest 75 = .ok (.aload_n 0, 1) := by decide +kernel
theorem dX6_layDearest_76 : decode cX6_layDearest 76 = .ok (.iload_n 3, 1) := by decide +kernel
theorem dX6_layDearest_77 : decode cX6_layDearest 77 = .ok (.iload_n 2, 1) := by decide +kernel
theorem dX6_layDearest_78 : decode cX6_layDearest 78 = .ok (.iload 4, 2) := by decide +kernel
theorem dX6_layDearest_80 : decode cX6_layDearest 80 = .ok (.invokevirtual 116, 3) := by decide +kernel
theorem dX6_layDearest_83 : decode cX6_layDearest 83 = .ok (.istore_n 2, 1) := by decide +kernel
theorem dX6_layDearest_84 : decode cX6_layDearest 84 = .ok (.iinc 3 1, 3) := by decide +kernel
theorem dX6_layDearest_87 : decode cX6_layDearest 87 = .ok (.goto (-53), 3) := by decide +kernel
theorem dX6_layDearest_90 : decode cX6_layDearest 90 = .ok (.aload_n 0, 1) := by decide +kernel
theorem dX6_layDearest_91 : decode cX6_layDearest 91 = .ok (.getfield 17, 3) := by decide +kernel
theorem dX6_layDearest_94 : decode cX6_layDearest 94 = .ok (.iload_n 1, 1) := by decide +kernel
theorem dX6_layDearest_95 : decode cX6_layDearest 95 = .ok (.iconst 1, 1) := by decide +kernel
theorem dX6_layDearest_96 : decode cX6_layDearest 96 = .ok (.bastore, 1) := by decide +kernel
theorem dX6_layDearest_97 : decode cX6_layDearest 97 = .ok (.aload_n 0, 1) := by decide +kernel
theorem dX6_layDearest_98 : decode cX6_layDearest 98 = .ok (.getfield 30, 3) := by decide +kernel
theorem dX6_layDearest_101 : decode cX6_layDearest 101 = .ok (.iconst 0, 1) := by decide +kernel
theorem dX6_layDearest_102 : decode cX6_layDearest 102 = .ok (.iaload, 1) := by decide +kernel
theorem dX6_layDearest_103 : decode cX6_layDearest 103 = .ok (.ireturn, 1) := by decide +kernel
def f_X6_layDearest_45 (k34 : Int32 → Int32 → Int32 → St → Option (Int32 × St)) : Nat → Int32 → Int32 → Int32 → Int32 → St → Option (Int32 × St)
  | 0, _, _, _, _, _ => none
  | n + 1, x1, x2, x3, x4, σ =>
    bd (f_X6_isBest x3 x2 x4 σ) fun v1 σ2 =>
    if v1 = 0 then
      f_X6_layDearest_45 k34 n x1 x2 x3 (x4 + 1) σ2
    else
      wrI σ2 30 (((64 : Int32) * x1) + x3) x4 fun σ3 =>
      bd (f_X6_then x3 x2 x4 σ3) fun v4 σ5 =>
      k34 x1 v4 (x3 + 1) σ5
set_option maxRecDepth 100000 in
set_option maxHeartbeats 4000000 in
theorem b_X6_layDearest_45 {g : Geo} {x : Cx} (C : Ok g x cX6_layDearest RX6 5 (some .int) rm_X6_layDearest) (k34 : Int32 → Int32 → Int32 → St → Option (Int32 × St)) (hk34 : ∀ (x1 : Int32) (x2 : Int32) (x3 : Int32) (τ : St) (r : Int32) (τ' : St), k34 x1 x2 x3 τ = some (r, τ') → V g x (qm g x (some (.int r)) τ') 5 τ [(0, .ref (g.1 26)), (1, .int x1), (2, .int x2), (3, .int x3)] [] 34) : ∀ (n : Nat) (x1 : Int32) (x2 : Int32) (x3 : Int32) (x4 : Int32) (σ : St) (r : Int32) (σ' : St), f_X6_layDearest_45 k34 n x1 x2 x3 x4 σ = some (r, σ') → V g x (qm g x (some (.int r)) σ') 5 σ [(0, .ref (g.1 26)), (1, .int x1), (2, .int x2), (3, .int x3), (4, .int x4)] [] 45 := by
  intro n
  induction n with
  | zero =>
    intro x1 x2 x3 x4 σ r σ' h
    rw [f_X6_layDearest_45] at h
    cases h
  | succ n ih =>
    intro x1 x2 x3 x4 σ r σ' h
    rw [f_X6_layDearest_45] at h
    refine v_aload_n C dX6_layDearest_45 rfl 0 rfl ?_
    refine v_iload_n C dX6_layDearest_46 rfl 3 rfl ?_
    refine v_iload_n C dX6_layDearest_47 rfl 2 rfl ?_
    refine v_iload C dX6_layDearest_48 4 rfl ?_
    obtain ⟨v1, σ2, cσ2, h⟩ := bd_some h
    refine callVi C (c_X6_isBest cσ2) km_X6_isBest kv_X6_isBest rfl ml_RX6_159 rfl rfl (by decide) (Nat.le_of_ble_eq_true rfl) dX6_layDearest_50 ?_
    refine v_if_ne C (tgt := 62) dX6_layDearest_53 (by decide) (fun q6 => ?_) (fun q6 => ?_)
    · rw [if_neg q6] at h
      refine v_aload_n C dX6_layDearest_62 rfl 0 rfl ?_
      refine v_getR C (p' := 30) fl_RX6_20 rfl rfl dX6_layDearest_63 ?_
      refine v_bipush C (v := (64 : Int32)) dX6_layDearest_66 (by decide) ?_
      refine v_iload_n C dX6_layDearest_68 rfl 1 rfl ?_
      refine v_imul C dX6_layDearest_69 ?_
      refine v_iload_n C dX6_layDearest_70 rfl 3 rfl ?_
      refine v_iadd C dX6_layDearest_71 ?_
      refine v_iload C dX6_layDearest_72 4 rfl ?_
      obtain ⟨nσ3, σ3, eσ3, h⟩ := wrI_ex h
      refine x_iast C rfl nσ3 eσ3 dX6_layDearest_74 ?_
      refine v_aload_n C dX6_layDearest_75 rfl 0 rfl ?_
      refine v_iload_n C dX6_layDearest_76 rfl 3 rfl ?_
      refine v_iload_n C dX6_layDearest_77 rfl 2 rfl ?_
      refine v_iload C dX6_layDearest_78 4 rfl ?_
      obtain ⟨v4, σ5, cσ5, h⟩ := bd_some h
      refine callVi C (c_X6_then cσ5) km_X6_then kv_X6_then rfl ml_RX6_116 rfl rfl (by decide) (Nat.le_of_ble_eq_true rfl) dX6_layDearest_80 ?_
      refine v_istore_n C (lv' := [(2, .int _), (0, .ref _), (1, .int _), (3, .int _), (4, .int _)]) dX6_layDearest_83 rfl (by decide) rfl ?_
      refine v_iinc C (v := (x3 + 1)) (lv' := [(3, .int _), (2, .int _), (0, .ref _), (1, .int _), (4, .int _)]) dX6_layDearest_84 3 rfl rfl (by decide) rfl ?_
      refine v_goto C (tgt := 34) dX6_layDearest_87 (by decide) ?_
      refine V.sub (lv' := [(0, .ref _), (1, .int _), (2, .int _), (3, .int _)]) [2, 3, 1, 0] rfl ?_
      exact hk34 _ _ _  _ _ _ h
    · rw [if_pos q6] at h
      refine v_iinc C (v := (x4 + 1)) (lv' := [(4, .int _), (0, .ref _), (1, .int _), (2, .int _), (3, .int _)]) dX6_layDearest_56 4 rfl rfl (by decide) rfl ?_
      refine v_goto C (tgt := 45) dX6_layDearest_59 (by decide) ?_
      refine V.sub (lv' := [(0, .ref _), (1, .int _), (2, .int _), (3, .int _), (4, .int _)]) [1, 2, 3, 4, 0] rfl ?_
      exact ih _ _ _ _  _ _ _ h
def f_X6_layDearest_34 : Nat → Int32 → Int32 → Int32 → St → Option (Int32 × St)
  | 0, _, _, _, _ => none
  | n + 1, x1, x2, x3, σ =>
    bd (f_X6_cells σ) fun v1 σ2 =>
    if v1 ≤ x3 then
      wrZ σ2 29 x1 (1 : Int32) fun σ3 =>
      rdI σ3 33 (0 : Int32) fun v4 =>
      some (v4, σ3)
    else
      f_X6_layDearest_45 (f_X6_layDearest_34 n) FU x1 x2 x3 (0 : Int32) σ2
set_option maxRecDepth 100000 in
set_option maxHeartbeats 4000000 in
theorem b_X6_layDearest_34 {g : Geo} {x : Cx} (C : Ok g x cX6_layDearest RX6 5 (some .int) rm_X6_layDearest) : ∀ (n : Nat) (x1 : Int32) (x2 : Int32) (x3 : Int32) (σ : St) (r : Int32) (σ' : St), f_X6_layDearest_34 n x1 x2 x3 σ = some (r, σ') → V g x (qm g x (some (.int r)) σ') 5 σ [(0, .ref (g.1 26)), (1, .int x1), (2, .int x2), (3, .int x3)] [] 34 := by
  intro n
  induction n with
  | zero =>
    intro x1 x2 x3 σ r σ' h
    rw [f_X6_layDearest_34] at h
    cases h
  | succ n ih =>
    intro x1 x2 x3 σ r σ' h
    rw [f_X6_layDearest_34] at h
    refine v_iload_n C dX6_layDearest_34 rfl 3 rfl ?_
    refine v_aload_n C dX6_layDearest_35 rfl 0 rfl ?_
    obtain ⟨v1, σ2, cσ2, h⟩ := bd_some h
    refine callVi C (c_X6_cells cσ2) km_X6_cells kv_X6_cells rfl ml_RX6_80 rfl rfl (by decide) (Nat.le_of_ble_eq_true rfl) dX6_layDearest_36 ?_
    refine v_icmp_ge C (tgt := 90) dX6_layDearest_39 (by decide) (fun q5 => ?_) (fun q5 => ?_)
    · rw [if_pos q5] at h
      refine v_aload_n C dX6_layDearest_90 rfl 0 rfl ?_
      refine v_getR C (p' := 29) fl_RX6_17 rfl rfl dX6_layDearest_91 ?_
      refine v_iload_n C dX6_layDearest_94 rfl 1 rfl ?_
      refine v_iconst C (v := (1 : Int32)) dX6_layDearest_95 (by decide) ?_
      obtain ⟨nσ3, σ3, eσ3, h⟩ := wrZ_ex h
      refine x_zast C rfl nσ3 eσ3 dX6_layDearest_96 ?_
      refine v_aload_n C dX6_layDearest_97 rfl 0 rfl ?_
      refine v_getR C (p' := 33) fl_RX6_30 rfl rfl dX6_layDearest_98 ?_
      refine v_iconst C (v := (0 : Int32)) dX6_layDearest_101 (by decide) ?_
      obtain ⟨nv4, v4, ev4, h⟩ := rdI_ex h
      refine x_iald C rfl nv4 ev4 dX6_layDearest_102 ?_
      cases h
      exact v_iret C dX6_layDearest_103
    · rw [if_neg q5] at h
      refine v_iconst C (v := (0 : Int32)) dX6_layDearest_42 (by decide) ?_
      refine v_istore C (lv' := [(4, .int _), (0, .ref _), (1, .int _), (2, .int _), (3, .int _)]) dX6_layDearest_43 (by decide) rfl ?_
      refine V.sub (lv' := [(0, .ref _), (1, .int _), (2, .int _), (3, .int _), (4, .int _)]) [1, 2, 3, 4, 0] rfl ?_
      exact b_X6_layDearest_45 C _ ih FU _ _ _ _  _ _ _ h
def f_X6_layDearest (a1 : Int32) (σ : St) : Option (Int32 × St) :=
  bd (f_X6_isSlot a1 σ) fun v1 σ2 =>
  if v1 = 0 then
    some ((-900001 : Int32), σ2)
  else
    bd (f_X6_layBest (3 : Int32) (1 : Int32) σ2) fun _ σ4 =>
    rdI σ4 33 (0 : Int32) fun v5 =>
    if v5 = (-900009 : Int32) then
      some ((-900003 : Int32), σ4)
    else
      f_X6_layDearest_34 FU a1 (0 : Int32) (0 : Int32) σ4
set_option maxRecDepth 100000 in
set_option maxHeartbeats 4000000 in
theorem c_X6_layDearest {g : Geo} {a1 : Int32} {σ : St} {r : Int32} {σ' : St} (h : f_X6_layDearest a1 σ = some (r, σ')) : Ct g yX6_layDearest cX6_layDearest 5 (some .int) rm_X6_layDearest [.ref (g.1 26), .int a1] σ (some (.int r)) σ' := by
  refine ct_of (own := RX6) (by decide) rfl (Nat.le_of_ble_eq_true rfl) (fun x C => ?_) ⟨rfl, rfl⟩
  show V g x _ 5 σ [(0, .ref (g.1 26)), (1, .int a1)] [] 0
  unfold f_X6_layDearest at h
  refine v_iload_n C dX6_layDearest_0 rfl 1 rfl ?_
  obtain ⟨v1, σ2, cσ2, h⟩ := bd_some h
  refine callSi C (c_X6_isSlot cσ2) km_X6_isSlot ks_X6_isSlot ml_RX6_155 rfl rfl (by decide) (Nat.le_of_ble_eq_true rfl) dX6_layDearest_1 ?_
  refine v_if_ne C (tgt := 10) dX6_layDearest_4 (by decide) (fun q7 => ?_) (fun q7 => ?_)
  · rw [if_neg q7] at h
    refine v_aload_n C dX6_layDearest_10 rfl 0 rfl ?_
    refine v_iconst C (v := (3 : Int32)) dX6_layDearest_11 (by decide) ?_
    refine v_iconst C (v := (1 : Int32)) dX6_layDearest_12 (by decide) ?_
    obtain ⟨v3, σ4, cσ4, h⟩ := bd_some h
    refine callVv C (c_X6_layBest cσ4) km_X6_layBest kv_X6_layBest rfl ml_RX6_145 rfl rfl (by decide) (Nat.le_of_ble_eq_true rfl) dX6_layDearest_13 ?_
    refine v_aload_n C dX6_layDearest_16 rfl 0 rfl ?_
    refine v_getR C (p' := 33) fl_RX6_30 rfl rfl dX6_layDearest_17 ?_
    refine v_iconst C (v := (0 : Int32)) dX6_layDearest_20 (by decide) ?_
    obtain ⟨nv5, v5, ev5, h⟩ := rdI_ex h
    refine x_iald C rfl nv5 ev5 dX6_layDearest_21 ?_
    refine v_ldc C (v := (-900009 : Int32)) con_RX6_112 dX6_layDearest_22 ?_
    refine v_icmp_ne C (tgt := 30) dX6_layDearest_24 (by decide) (fun q6 => ?_) (fun q6 => ?_)
    · rw [if_neg q6] at h
      refine v_iconst C (v := (0 : Int32)) dX6_layDearest_30 (by decide) ?_
      refine v_istore_n C (lv' := [(2, .int _), (0, .ref _), (1, .int _)]) dX6_layDearest_31 rfl (by decide) rfl ?_
      refine v_iconst C (v := (0 : Int32)) dX6_layDearest_32 (by decide) ?_
      refine v_istore_n C (lv' := [(3, .int _), (2, .int _), (0, .ref _), (1, .int _)]) dX6_layDearest_33 rfl (by decide) rfl ?_
      refine V.sub (lv' := [(0, .ref _), (1, .int _), (2, .int _), (3, .int _)]) [2, 3, 1, 0] rfl ?_
      exact b_X6_layDearest_34 C FU _ _ _  _ _ _ h
    · rw [if_pos q6] at h
      refine v_ldc C (v := (-900003 : Int32)) con_RX6_158 dX6_layDearest_27 ?_
      cases h
      exact v_iret C dX6_layDearest_29
  · rw [if_pos q7] at h
    refine v_ldc C (v := (-900001 : Int32)) con_RX6_97 dX6_layDearest_7 ?_
    cases h
    exact v_iret C dX6_layDearest_9
theorem dX6_copy_0 : decode cX6_copy 0 = .ok (.iload_n 1, 1) := by decide +kernel
theorem dX6_copy_1 : decode cX6_copy 1 = .ok (.invokestatic 155, 3) := by decide +kernel
theorem dX6_copy_4 : decode cX6_copy 4 = .ok (.ifCond .eq 10, 3) := by decide +kernel
theorem dX6_copy_7 : decode cX6_copy 7 = .ok (.iload_n 2, 1) := by decide +kernel
theorem dX6_copy_8 : decode cX6_copy 8 = .ok (.invokestatic 155, 3) := by decide +kernel
theorem dX6_copy_11 : decode cX6_copy 11 = .ok (.ifCond .ne 6, 3) := by decide +kernel
theorem dX6_copy_14 : decode cX6_copy 14 = .ok (.ldc 97, 2) := by decide +kernel
theorem dX6_copy_16 : decode cX6_copy 16 = .ok (.ireturn, 1) := by decide +kernel
theorem dX6_copy_17 : decode cX6_copy 17 = .ok (.aload_n 0, 1) := by decide +kernel
theorem dX6_copy_18 : decode cX6_copy 18 = .ok (.getfield 17, 3) := by decide +kernel
theorem dX6_copy_21 : decode cX6_copy 21 = .ok (.iload_n 1, 1) := by decide +kernel
theorem dX6_copy_22 : decode cX6_copy 22 = .ok (.baload, 1) := by decide +kernel
theorem dX6_copy_23 : decode cX6_copy 23 = .ok (.ifCond .ne 6, 3) := by decide +kernel
theorem dX6_copy_26 : decode cX6_copy 26 = .ok (.ldc 158, 2) := by decide +kernel
theorem dX6_copy_28 : decode cX6_copy 28 = .ok (.ireturn, 1) := by decide +kernel
theorem dX6_copy_29 : decode cX6_copy 29 = .ok (.iconst 0, 1) := by decide +kernel
theorem dX6_copy_30 : decode cX6_copy 30 = .ok (.istore_n 3, 1) := by decide +kernel
theorem dX6_copy_31 : decode cX6_copy 31 = .ok (.iload_n 3, 1) := by decide +kernel
theorem dX6_copy_32 : decode cX6_copy 32 = .ok (.bipush 64, 2) := by decide +kernel
theorem dX6_copy_34 : decode cX6_copy 34 = .ok (.if_icmp .ge 31, 3) := by decide +kernel
theorem dX6_copy_37 : decode cX6_copy 37 = .ok (.aload_n 0, 1) := by decide +kernel
theorem dX6_copy_38 : decode cX6_copy 38 = .ok (.getfield 20, 3) := by decide +kernel
theorem dX6_copy_41 : decode cX6_copy 41 = .ok (.bipush 64, 2) := by decide +kernel
theorem dX6_copy_43 : decode cX6_copy 43 = .ok (.iload_n 2, 1) := by decide +kernel
theorem dX6_copy_44 : decode cX6_copy 44 = .ok (.imul, 1) := by decide +kernel
theorem dX6_copy_45 : decode cX6_copy 45 = .ok (.iload_n 3, 1) := by decide +kernel
theorem dX6_copy_46 : decode cX6_copy 46 = .ok (.iadd, 1) := by decide +kernel
theorem dX6_copy_47 : decode cX6_copy 47 = .ok (.aload_n 0, 1) := by decide +kernel
theorem dX6_copy_48 : decode cX6_copy 48 = .ok (.getfield 20, 3) := by decide +kernel
theorem dX6_copy_51 : decode cX6_copy 51 = .ok (.bipush 64, 2) := by decide +kernel
theorem dX6_copy_53 : decode cX6_copy 53 = .ok (.iload_n 1, 1) := by decide +kernel
theorem dX6_copy_54 : decode cX6_copy 54 = .ok (.imul, 1) := by decide +kernel
theorem dX6_copy_55 : decode cX6_copy 55 = .ok (.iload_n 3, 1) := by decide +kernel
theorem dX6_copy_56 : decode cX6_copy 56 = .ok (.iadd, 1) := by decide +kernel
theorem dX6_copy_57 : decode cX6_copy 57 = .ok (.iaload, 1) := by decide +kernel
theorem dX6_copy_58 : decode cX6_copy 58 = .ok (.iastore, 1) := by decide +kernel
theorem dX6_copy_59 : decode cX6_copy 59 = .ok (.iinc 3 1, 3) := by decide +kernel
theorem dX6_copy_62 : decode cX6_copy 62 = .ok (.goto (-31), 3) := by decide +kernel
theorem dX6_copy_65 : decode cX6_copy 65 = .ok (.aload_n 0, 1) := by decide +kernel
theorem dX6_copy_66 : decode cX6_copy 66 = .ok (.getfield 17, 3) := by decide +kernel
theorem dX6_copy_69 : decode cX6_copy 69 = .ok (.iload_n 2, 1) := by decide +kernel
theorem dX6_copy_70 : decode cX6_copy 70 = .ok (.iconst 1, 1) := by decide +kernel
theorem dX6_copy_71 : decode cX6_copy 71 = .ok (.bastore, 1) := by decide +kernel
theorem dX6_copy_72 : decode cX6_copy 72 = .ok (.iconst 1, 1) := by decide +kernel
theorem dX6_copy_73 : decode cX6_copy 73 = .ok (.ireturn, 1) := by decide +kernel
def f_X6_copy_31 : Nat → Int32 → Int32 → Int32 → St → Option (Int32 × St)
  | 0, _, _, _, _ => none
  | n + 1, x1, x2, x3, σ =>
    if (64 : Int32) ≤ x3 then
      wrZ σ 29 x2 (1 : Int32) fun σ1 =>
      some ((1 : Int32), σ1)
    else
      rdI σ 30 (((64 : Int32) * x1) + x3) fun v2 =>
      wrI σ 30 (((64 : Int32) * x2) + x3) v2 fun σ3 =>
      f_X6_copy_31 n x1 x2 (x3 + 1) σ3
set_option maxRecDepth 100000 in
set_option maxHeartbeats 4000000 in
theorem b_X6_copy_31 {g : Geo} {x : Cx} (C : Ok g x cX6_copy RX6 4 (some .int) rm_X6_copy) : ∀ (n : Nat) (x1 : Int32) (x2 : Int32) (x3 : Int32) (σ : St) (r : Int32) (σ' : St), f_X6_copy_31 n x1 x2 x3 σ = some (r, σ') → V g x (qm g x (some (.int r)) σ') 4 σ [(0, .ref (g.1 26)), (1, .int x1), (2, .int x2), (3, .int x3)] [] 31 := by
  intro n
  induction n with
  | zero =>
    intro x1 x2 x3 σ r σ' h
    rw [f_X6_copy_31] at h
    cases h
  | succ n ih =>
    intro x1 x2 x3 σ r σ' h
    rw [f_X6_copy_31] at h
    refine v_iload_n C dX6_copy_31 rfl 3 rfl ?_
    refine v_bipush C (v := (64 : Int32)) dX6_copy_32 (by decide) ?_
    refine v_icmp_ge C (tgt := 65) dX6_copy_34 (by decide) (fun q4 => ?_) (fun q4 => ?_)
    · rw [if_pos q4] at h
      refine v_aload_n C dX6_copy_65 rfl 0 rfl ?_
      refine v_getR C (p' := 29) fl_RX6_17 rfl rfl dX6_copy_66 ?_
      refine v_iload_n C dX6_copy_69 rfl 2 rfl ?_
      refine v_iconst C (v := (1 : Int32)) dX6_copy_70 (by decide) ?_
      obtain ⟨nσ1, σ1, eσ1, h⟩ := wrZ_ex h
      refine x_zast C rfl nσ1 eσ1 dX6_copy_71 ?_
      refine v_iconst C (v := (1 : Int32)) dX6_copy_72 (by decide) ?_
      cases h
      exact v_iret C dX6_copy_73
    · rw [if_neg q4] at h
      refine v_aload_n C dX6_copy_37 rfl 0 rfl ?_
      refine v_getR C (p' := 30) fl_RX6_20 rfl rfl dX6_copy_38 ?_
      refine v_bipush C (v := (64 : Int32)) dX6_copy_41 (by decide) ?_
      refine v_iload_n C dX6_copy_43 rfl 2 rfl ?_
      refine v_imul C dX6_copy_44 ?_
      refine v_iload_n C dX6_copy_45 rfl 3 rfl ?_
      refine v_iadd C dX6_copy_46 ?_
      refine v_aload_n C dX6_copy_47 rfl 0 rfl ?_
      refine v_getR C (p' := 30) fl_RX6_20 rfl rfl dX6_copy_48 ?_
      refine v_bipush C (v := (64 : Int32)) dX6_copy_51 (by decide) ?_
      refine v_iload_n C dX6_copy_53 rfl 1 rfl ?_
      refine v_imul C dX6_copy_54 ?_
      refine v_iload_n C dX6_copy_55 rfl 3 rfl ?_
      refine v_iadd C dX6_copy_56 ?_
      obtain ⟨nv2, v2, ev2, h⟩ := rdI_ex h
      refine x_iald C rfl nv2 ev2 dX6_copy_57 ?_
      obtain ⟨nσ3, σ3, eσ3, h⟩ := wrI_ex h
      refine x_iast C rfl nσ3 eσ3 dX6_copy_58 ?_
      refine v_iinc C (v := (x3 + 1)) (lv' := [(3, .int _), (0, .ref _), (1, .int _), (2, .int _)]) dX6_copy_59 3 rfl rfl (by decide) rfl ?_
      refine v_goto C (tgt := 31) dX6_copy_62 (by decide) ?_
      refine V.sub (lv' := [(0, .ref _), (1, .int _), (2, .int _), (3, .int _)]) [1, 2, 3, 0] rfl ?_
      exact ih _ _ _  _ _ _ h
def f_X6_copy_14 (σ : St) : Option (Int32 × St) :=
  some ((-900001 : Int32), σ)
set_option maxRecDepth 100000 in
set_option maxHeartbeats 4000000 in
theorem b_X6_copy_14 {g : Geo} {x : Cx} (C : Ok g x cX6_copy RX6 4 (some .int) rm_X6_copy) : ∀ (σ : St) (r : Int32) (σ' : St), f_X6_copy_14 σ = some (r, σ') → V g x (qm g x (some (.int r)) σ') 4 σ [] [] 14 := by
  intro σ r σ' h
  unfold f_X6_copy_14 at h
  refine v_ldc C (v := (-900001 : Int32)) con_RX6_97 dX6_copy_14 ?_
  cases h
  exact v_iret C dX6_copy_16
def f_X6_copy (a1 : Int32) (a2 : Int32) (σ : St) : Option (Int32 × St) :=
  bd (f_X6_isSlot a1 σ) fun v1 σ2 =>
  if v1 = 0 then
    f_X6_copy_14 σ2
  else
    bd (f_X6_isSlot a2 σ2) fun v3 σ4 =>
    if v3 = 0 then
      f_X6_copy_14 σ4
    else
      rdI σ4 29 a1 fun v5 =>
      if v5 = 0 then
        some ((-900003 : Int32), σ4)
      else
        f_X6_copy_31 FU a1 a2 (0 : Int32) σ4
set_option maxRecDepth 100000 in
set_option maxHeartbeats 4000000 in
theorem c_X6_copy {g : Geo} {a1 : Int32} {a2 : Int32} {σ : St} {r : Int32} {σ' : St} (h : f_X6_copy a1 a2 σ = some (r, σ')) : Ct g yX6_copy cX6_copy 4 (some .int) rm_X6_copy [.ref (g.1 26), .int a1, .int a2] σ (some (.int r)) σ' := by
  refine ct_of (own := RX6) (by decide) rfl (Nat.le_of_ble_eq_true rfl) (fun x C => ?_) ⟨rfl, rfl⟩
  show V g x _ 4 σ [(0, .ref (g.1 26)), (1, .int a1), (2, .int a2)] [] 0
  unfold f_X6_copy at h
  refine v_iload_n C dX6_copy_0 rfl 1 rfl ?_
  obtain ⟨v1, σ2, cσ2, h⟩ := bd_some h
  refine callSi C (c_X6_isSlot cσ2) km_X6_isSlot ks_X6_isSlot ml_RX6_155 rfl rfl (by decide) (Nat.le_of_ble_eq_true rfl) dX6_copy_1 ?_
  refine v_if_eq C (tgt := 14) dX6_copy_4 (by decide) (fun q8 => ?_) (fun q8 => ?_)
  · rw [if_pos q8] at h
    refine V.sub (lv' := []) [] rfl ?_
    exact b_X6_copy_14 C  _ _ _ h
  · rw [if_neg q8] at h
    refine v_iload_n C dX6_copy_7 rfl 2 rfl ?_
    obtain ⟨v3, σ4, cσ4, h⟩ := bd_some h
    refine callSi C (c_X6_isSlot cσ4) km_X6_isSlot ks_X6_isSlot ml_RX6_155 rfl rfl (by decide) (Nat.le_of_ble_eq_true rfl) dX6_copy_8 ?_
    refine v_if_ne C (tgt := 17) dX6_copy_11 (by decide) (fun q7 => ?_) (fun q7 => ?_)
    · rw [if_neg q7] at h
      refine v_aload_n C dX6_copy_17 rfl 0 rfl ?_
      refine v_getR C (p' := 29) fl_RX6_17 rfl rfl dX6_copy_18 ?_
      refine v_iload_n C dX6_copy_21 rfl 1 rfl ?_
      obtain ⟨nv5, v5, ev5, h⟩ := rdI_ex h
      refine x_zald C rfl nv5 ev5 dX6_copy_22 ?_
      refine v_if_ne C (tgt := 29) dX6_copy_23 (by decide) (fun q6 => ?_) (fun q6 => ?_)
      · rw [if_neg q6] at h
        refine v_iconst C (v := (0 : Int32)) dX6_copy_29 (by decide) ?_
        refine v_istore_n C (lv' := [(3, .int _), (0, .ref _), (1, .int _), (2, .int _)]) dX6_copy_30 rfl (by decide) rfl ?_
        refine V.sub (lv' := [(0, .ref _), (1, .int _), (2, .int _), (3, .int _)]) [1, 2, 3, 0] rfl ?_
        exact b_X6_copy_31 C FU _ _ _  _ _ _ h
      · rw [if_pos q6] at h
        refine v_ldc C (v := (-900003 : Int32)) con_RX6_158 dX6_copy_26 ?_
        cases h
        exact v_iret C dX6_copy_28
    · rw [if_pos q7] at h
      refine V.sub (lv' := []) [] rfl ?_
      exact b_X6_copy_14 C  _ _ _ h
theorem dX6_place_0 : decode cX6_place 0 = .ok (.iload_n 1, 1) := by decide +kernel
theorem dX6_place_1 : decode cX6_place 1 = .ok (.invokestatic 155, 3) := by decide +kernel
theorem dX6_place_4 : decode cX6_place 4 = .ok (.ifCond .ne 7, 3) := by decide +kernel
theorem dX6_place_7 : decode cX6_place 7 = .ok (.ldc2_w 128, 3) := by decide +kernel
theorem dX6_place_10 : decode cX6_place 10 = .ok (.lreturn, 1) := by decide +kernel
theorem dX6_place_11 : decode cX6_place 11 = .ok (.aload_n 0, 1) := by decide +kernel
theorem dX6_place_12 : decode cX6_place 12 = .ok (.getfield 17, 3) := by decide +kernel
theorem dX6_place_15 : decode cX6_place 15 = .ok (.iload_n 1, 1) := by decide +kernel
theorem dX6_place_16 : decode cX6_place 16 = .ok (.baload, 1) := by decide +kernel
theorem dX6_place_17 : decode cX6_place 17 = .ok (.ifCond .ne 7, 3) := by decide +kernel
theorem dX6_place_20 : decode cX6_place 20 = .ok (.ldc2_w 162, 3) := by decide +kernel
theorem dX6_place_23 : decode cX6_place 23 = .ok (.lreturn, 1) := by decide +kernel
theorem dX6_place_24 : decode cX6_place 24 = .ok (.aload_n 0, 1) := by decide +kernel
theorem dX6_place_25 : decode cX6_place 25 = .ok (.invokevirtual 120, 3) := by decide +kernel
theorem dX6_place_28 : decode cX6_place 28 = .ok (.lconst 0, 1) := by decide +kernel
theorem dX6_place_29 : decode cX6_place 29 = .ok (.lstore_n 2, 1) := by decide +kernel
theorem dX6_place_30 : decode cX6_place 30 = .ok (.iconst 0, 1) := by decide +kernel
theorem dX6_place_31 : decode cX6_place 31 = .ok (.istore 4, 2) := by decide +kernel
theorem dX6_place_33 : decode cX6_place 33 = .ok (.iconst 0, 1) := by decide +kernel
theorem dX6_place_34 : decode cX6_place 34 = .ok (.istore 5, 2) := by decide +kernel
theorem dX6_place_36 : decode cX6_place 36 = .ok (.iload 5, 2) := by decide +kernel
theorem dX6_place_38 : decode cX6_place 38 = .ok (.aload_n 0, 1) := by decide +kernel
theorem dX6_place_39 : decode cX6_place 39 = .ok (.invokevirtual 80, 3) := by decide +kernel
theorem dX6_place_42 : decode cX6_place 42 = .ok (.if_icmp .ge 101, 3) := by decide +kernel
theorem dX6_place_45 : decode cX6_place 45 = .ok (.iconst 0, 1) := by decide +kernel
theorem dX6_place_46 : decode cX6_place 46 = .ok (.istore 6, 2) := by decide +kernel
theorem dX6_place_48 : decode cX6_place 48 = .ok (.iload 6, 2) := by decide +kernel
theorem dX6_place_50 : decode cX6_place 50 = .ok (.aload_n 0, 1) := by decide +kernel
theorem dX6_place_51 : decode cX6_place 51 = .ok (.getfield 20, 3) := by decide +kernel
theorem dX6_place_54 : decode cX6_place 54 = .ok (.bipush 64, 2) := by decide +kernel
theorem dX6_place_56 : decode cX6_place 56 = .ok (.iload_n 1, 1) := by decide +kernel
theorem dX6_place_57 : decode cX6_place 57 = .ok (.imul, 1) := by decide +kernel
theorem dX6_place_58 : decode cX6_place 58 = .ok (.iload 5, 2) := by decide +kernel
theorem dX6_place_60 : decode cX6_place 60 = .ok (.iadd, 1) := by decide +kernel
theorem dX6_place_61 : decode cX6_place 61 = .ok (.iaload, 1) := by decide +kernel
theorem dX6_place_62 : decode cX6_place 62 = .ok (.if_icmp .ge 53, 3) := by decide +kernel
theorem dX6_place_65 : decode cX6_place 65 = .ok (.aload_n 0, 1) := by decide +kernel
theorem dX6_place_66 : decode cX6_place 66 = .ok (.iload 5, 2) := by decide +kernel
theorem dX6_place_68 : decode cX6_place 68 = .ok (.iload 4, 2) := by decide +kernel
theorem dX6_place_70 : decode cX6_place 70 = .ok (.iload 6, 2) := by decide +kernel
theorem dX6_place_72 : decode cX6_place 72 = .ok (.invokevirtual 116, 3) := by decide +kernel
theorem dX6_place_75 : decode cX6_place 75 = .ok (.istore 7, 2) := by decide +kernel
theorem dX6_place_77 : decode cX6_place 77 = .ok (.lload_n 2, 1) := by decide +kernel
theorem dX6_place_78 : decode cX6_place 78 = .ok (.iload 7, 2) := by decide +kernel
theorem dX6_place_80 : decode cX6_place 80 = .ok (.ldc 112, 2) := by decide +kernel
theorem dX6_place_82 : decode cX6_place 82 = .ok (.if_icmp .ne 7, 3) := by decide +kernel
theorem dX6_place_85 : decode cX6_place 85 = .ok (.lconst 0, 1) := by decide +kernel
theorem dX6_place_86 : decode cX6_place 86 = .ok (.goto 21, 3) := by decide +kernel
theorem dX6_place_89 : decode cX6_place 89 = .ok (.aload_n 0, 1) := by decide +kernel
theorem dX6_place_90 : decode cX6_place 90 = .ok (.getfield 23, 3) := by decide +kernel
theorem dX6_place_93 : decode cX6_place 93 = .ok (.sipush 256, 3) := by decide +kernel
theorem dX6_place_96 : decode cX6_place 96 = .ok (.iload 5, 2) := by decide +kernel
theorem dX6_place_98 : decode cX6_place 98 = .ok (.imul, 1) := by decide +kernel
theorem dX6_place_99 : decode cX6_place 99 = .ok (.sipush 256, 3) := by decide +kernel
theorem dX6_place_102 : decode cX6_place 102 = .ok (.iadd, 1) := by decide +kernel
theorem dX6_place_103 : decode cX6_place 103 = .ok (.iload 7, 2) := by decide +kernel
theorem dX6_place_105 : decode cX6_place 105 = .ok (.iadd, 1) := by decide +kernel
theorem dX6_place_106 : decode cX6_place 106 = .ok (.laload, 1) := by decide +kernel
theorem dX6_place_107 : decode cX6_place 107 = .ok (.ladd, 1) := by decide +kernel
theorem dX6_place_108 : decode cX6_place 108 = .ok (.lstore_n 2, 1) := by decide +kernel
theorem dX6_place_109 : decode cX6_place 109 = .ok (.iinc 6 1, 3) := by decide +kernel
theorem dX6_place_112 : decode cX6_place 112 = .ok (.goto (-64), 3) := by decide +kernel
theorem dX6_place_115 : decode cX6_place 115 = .ok (.aload_n 0, 1) := by decide +kernel
theorem dX6_place_116 : decode cX6_place 116 = .ok (.iload 5, 2) := by decide +kernel
theorem dX6_place_118 : decode cX6_place 118 = .ok (.iload 4, 2) := by decide +kernel
theorem dX6_place_120 : decode cX6_place 120 = .ok (.aload_n 0, 1) := by decide +kernel
theorem dX6_place_121 : decode cX6_place 121 = .ok (.getfield 20, 3) := by decide +kernel
theorem dX6_place_124 : decode cX6_place 124 = .ok (.bipush 64, 2) := by decide +kernel
theorem dX6_place_126 : decode cX6_place 126 = .ok (.iload_n 1, 1) := by decide +kernel
theorem dX6_place_127 : decode cX6_place 127 = .ok (.imul, 1) := by decide +kernel
theorem dX6_place_128 : decode cX6_place 128 = .ok (.iload 5, 2) := by decide +kernel
theorem dX6_place_130 : decode cX6_place 130 = .ok (.iadd, 1) := by decide +kernel
theorem dX6_place_131 : decode cX6_place 131 = .ok (.iaload, 1) := by decide +kernel
theorem dX6_place_132 : decode cX6_place 132 = .ok (.invokevirtual 116, 3) := by decide +kernel
theorem dX6_place_135 : decode cX6_place 135 = .ok (.istore 4, 2) := by decide +kernel
theorem dX6_place_137 : decode cX6_place 137 = .ok (.iinc 5 1, 3) := by decide +kernel
theorem dX6_place_140 : decode cX6_place 140 = .ok (.goto (-104), 3) := by decide +kernel
theorem dX6_place_143 : decode cX6_place 143 = .ok (.lload_n 2, 1) := by decide +kernel
theorem dX6_place_144 : decode cX6_place 144 = .ok (.lreturn, 1) := by decide +kernel
def f_X6_place_107 (k48 : Int32 → Int64 → Int32 → Int32 → Int32 → St → Option (Int64 × St)) (x1 : Int32) (x4 : Int32) (x5 : Int32) (x6 : Int32) (s0 : Int64) (s1 : Int64) (σ : St) : Option (Int64 × St) :=
  k48 x1 (s0 + s1) x4 x5 (x6 + 1) σ
set_option maxRecDepth 100000 in
set_option maxHeartbeats 4000000 in
theorem b_X6_place_107 {g : Geo} {x : Cx} (C : Ok g x cX6_place RX6 8 (some .long) rm_X6_place) (k48 : Int32 → Int64 → Int32 → Int32 → Int32 → St → Option (Int64 × St)) (hk48 : ∀ (x1 : Int32) (x2 : Int64) (x4 : Int32) (x5 : Int32) (x6 : Int32) (τ : St) (r : Int64) (τ' : St), k48 x1 x2 x4 x5 x6 τ = some (r, τ') → V g x (qm g x (some (.long r)) τ') 8 τ [(0, .ref (g.1 26)), (1, .int x1), (2, .long x2), (4, .int x4), (5, .int x5), (6, .int x6)] [] 48) : ∀ (x1 : Int32) (x4 : Int32) (x5 : Int32) (x6 : Int32) (s0 : Int64) (s1 : Int64) (σ : St) (r : Int64) (σ' : St), f_X6_place_107 k48 x1 x4 x5 x6 s0 s1 σ = some (r, σ') → V g x (qm g x (some (.long r)) σ') 8 σ [(0, .ref (g.1 26)), (1, .int x1), (4, .int x4), (5, .int x5), (6, .int x6)] [.long s1, .long s0] 107 := by
  intro x1 x4 x5 x6 s0 s1 σ r σ' h
  unfold f_X6_place_107 at h
  refine v_ladd C dX6_place_107 ?_
  refine v_lstore_n C (lv' := [(2, .long _), (0, .ref _), (1, .int _), (4, .int _), (5, .int _), (6, .int _)]) dX6_place_108 rfl (by decide) rfl ?_
  refine v_iinc C (v := (x6 + 1)) (lv' := [(6, .int _), (2, .long _), (0, .ref _), (1, .int _), (4, .int _), (5, .int _)]) dX6_place_109 5 rfl rfl (by decide) rfl ?_
  refine v_goto C (tgt := 48) dX6_place_112 (by decide) ?_
  refine V.sub (lv' := [(0, .ref _), (1, .int _), (2, .long _), (4, .int _), (5, .int _), (6, .int _)]) [2, 3, 1, 4, 5, 0] rfl ?_
  exact hk48 _ _ _ _ _  _ _ _ h
def f_X6_place_48 (k36 : Int32 → Int64 → Int32 → Int32 → St → Option (Int64 × St)) : Nat → Int32 → Int64 → Int32 → Int32 → Int32 → St → Option (Int64 × St)
  | 0, _, _, _, _, _, _ => none
  | n + 1, x1, x2, x4, x5, x6, σ =>
    rdI σ 30 (((64 : Int32) * x1) + x5) fun v1 =>
    if v1 ≤ x6 then
      rdI σ 30 (((64 : Int32) * x1) + x5) fun v2 =>
      bd (f_X6_then x5 x4 v2 σ) fun v3 σ4 =>
      k36 x1 x2 v3 (x5 + 1) σ4
    else
      bd (f_X6_then x5 x4 x6 σ) fun v5 σ6 =>
      if v5 = (-900009 : Int32) then
        f_X6_place_107 (f_X6_place_48 k36 n) x1 x4 x5 x6 x2 (0 : Int64) σ6
      else
        rdL σ6 31 ((((256 : Int32) * x5) + (256 : Int32)) + v5) fun v7 =>
        f_X6_place_107 (f_X6_place_48 k36 n) x1 x4 x5 x6 x2 v7 σ6
set_option maxRecDepth 100000 in
set_option maxHeartbeats 4000000 in
theorem b_X6_place_48 {g : Geo} {x : Cx} (C : Ok g x cX6_place RX6 8 (some .long) rm_X6_place) (k36 : Int32 → Int64 → Int32 → Int32 → St → Option (Int64 × St)) (hk36 : ∀ (x1 : Int32) (x2 : Int64) (x4 : Int32) (x5 : Int32) (τ : St) (r : Int64) (τ' : St), k36 x1 x2 x4 x5 τ = some (r, τ') → V g x (qm g x (some (.long r)) τ') 8 τ [(0, .ref (g.1 26)), (1, .int x1), (2, .long x2), (4, .int x4), (5, .int x5)] [] 36) : ∀ (n : Nat) (x1 : Int32) (x2 : Int64) (x4 : Int32) (x5 : Int32) (x6 : Int32) (σ : St) (r : Int64) (σ' : St), f_X6_place_48 k36 n x1 x2 x4 x5 x6 σ = some (r, σ') → V g x (qm g x (some (.long r)) σ') 8 σ [(0, .ref (g.1 26)), (1, .int x1), (2, .long x2), (4, .int x4), (5, .int x5), (6, .int x6)] [] 48 := by
  intro n
  induction n with
  | zero =>
    intro x1 x2 x4 x5 x6 σ r σ' h
    rw [f_X6_place_48] at h
    cases h
  | succ n ih =>
    intro x1 x2 x4 x5 x6 σ r σ' h
    rw [f_X6_place_48] at h
    refine v_iload C dX6_place_48 5 rfl ?_
    refine v_aload_n C dX6_place_50 rfl 0 rfl ?_
    refine v_getR C (p' := 30) fl_RX6_20 rfl rfl dX6_place_51 ?_
    refine v_bipush C (v := (64 : Int32)) dX6_place_54 (by decide) ?_
    refine v_iload_n C dX6_place_56 rfl 1 rfl ?_
    refine v_imul C dX6_place_57 ?_
    refine v_iload C dX6_place_58 4 rfl ?_
    refine v_iadd C dX6_place_60 ?_
    obtain ⟨nv1, v1, ev1, h⟩ := rdI_ex h
    refine x_iald C rfl nv1 ev1 dX6_place_61 ?_
    refine v_icmp_ge C (tgt := 115) dX6_place_62 (by decide) (fun q9 => ?_) (fun q9 => ?_)
    · rw [if_pos q9] at h
      refine v_aload_n C dX6_place_115 rfl 0 rfl ?_
      refine v_iload C dX6_place_116 4 rfl ?_
      refine v_iload C dX6_place_118 3 rfl ?_
      refine v_aload_n C dX6_place_120 rfl 0 rfl ?_
      refine v_getR C (p' := 30) fl_RX6_20 rfl rfl dX6_place_121 ?_
      refine v_bipush C (v := (64 : Int32)) dX6_place_124 (by decide) ?_
      refine v_iload_n C dX6_place_126 rfl 1 rfl ?_
      refine v_imul C dX6_place_127 ?_
      refine v_iload C dX6_place_128 4 rfl ?_
      refine v_iadd C dX6_place_130 ?_
      obtain ⟨nv2, v2, ev2, h⟩ := rdI_ex h
      refine x_iald C rfl nv2 ev2 dX6_place_131 ?_
      obtain ⟨v3, σ4, cσ4, h⟩ := bd_some h
      refine callVi C (c_X6_then cσ4) km_X6_then kv_X6_then rfl ml_RX6_116 rfl rfl (by decide) (Nat.le_of_ble_eq_true rfl) dX6_place_132 ?_
      refine v_istore C (lv' := [(4, .int _), (0, .ref _), (1, .int _), (2, .long _), (5, .int _), (6, .int _)]) dX6_place_135 (by decide) rfl ?_
      refine v_iinc C (v := (x5 + 1)) (lv' := [(5, .int _), (4, .int _), (0, .ref _), (1, .int _), (2, .long _), (6, .int _)]) dX6_place_137 4 rfl rfl (by decide) rfl ?_
      refine v_goto C (tgt := 36) dX6_place_140 (by decide) ?_
      refine V.sub (lv' := [(0, .ref _), (1, .int _), (2, .long _), (4, .int _), (5, .int _)]) [2, 3, 4, 1, 0] rfl ?_
      exact hk36 _ _ _ _  _ _ _ h
    · rw [if_neg q9] at h
      refine v_aload_n C dX6_place_65 rfl 0 rfl ?_
      refine v_iload C dX6_place_66 4 rfl ?_
      refine v_iload C dX6_place_68 3 rfl ?_
      refine v_iload C dX6_place_70 5 rfl ?_
      obtain ⟨v5, σ6, cσ6, h⟩ := bd_some h
      refine callVi C (c_X6_then cσ6) km_X6_then kv_X6_then rfl ml_RX6_116 rfl rfl (by decide) (Nat.le_of_ble_eq_true rfl) dX6_place_72 ?_
      refine v_istore C (lv' := [(7, .int _), (0, .ref _), (1, .int _), (2, .long _), (4, .int _), (5, .int _), (6, .int _)]) dX6_place_75 (by decide) rfl ?_
      refine v_lload_n C dX6_place_77 rfl 3 rfl ?_
      refine v_iload C dX6_place_78 0 rfl ?_
      refine v_ldc C (v := (-900009 : Int32)) con_RX6_112 dX6_place_80 ?_
      refine v_icmp_ne C (tgt := 89) dX6_place_82 (by decide) (fun q8 => ?_) (fun q8 => ?_)
      · rw [if_neg q8] at h
        refine v_aload_n C dX6_place_89 rfl 1 rfl ?_
        refine v_getR C (p' := 31) fl_RX6_23 rfl rfl dX6_place_90 ?_
        refine v_sipush C (v := (256 : Int32)) dX6_place_93 (by decide) ?_
        refine v_iload C dX6_place_96 5 rfl ?_
        refine v_imul C dX6_place_98 ?_
        refine v_sipush C (v := (256 : Int32)) dX6_place_99 (by decide) ?_
        refine v_iadd C dX6_place_102 ?_
        refine v_iload C dX6_place_103 0 rfl ?_
        refine v_iadd C dX6_place_105 ?_
        obtain ⟨nv7, v7, ev7, h⟩ := rdL_ex h
        refine x_lald C rfl nv7 ev7 dX6_place_106 ?_
        refine V.sub (lv' := [(0, .ref _), (1, .int _), (4, .int _), (5, .int _), (6, .int _)]) [1, 2, 4, 5, 6] rfl ?_
        exact b_X6_place_107 C _ ih _ _ _ _ _ _  _ _ _ h
      · rw [if_pos q8] at h
        refine v_lconst C (v := (0 : Int64)) dX6_place_85 (by decide) ?_
        refine v_goto C (tgt := 107) dX6_place_86 (by decide) ?_
        refine V.sub (lv' := [(0, .ref _), (1, .int _), (4, .int _), (5, .int _), (6, .int _)]) [1, 2, 4, 5, 6] rfl ?_
        exact b_X6_place_107 C _ ih _ _ _ _ _ _  _ _ _ h
def f_X6_place_36 : Nat → Int32 → Int64 → Int32 → Int32 → St → Option (Int64 × St)
  | 0, _, _, _, _, _ => none
  | n + 1, x1, x2, x4, x5, σ =>
    bd (f_X6_cells σ) fun v1 σ2 =>
    if v1 ≤ x5 then
      some (x2, σ2)
    else
      f_X6_place_48 (f_X6_place_36 n) FU x1 x2 x4 x5 (0 : Int32) σ2
set_option maxRecDepth 100000 in
set_option maxHeartbeats 4000000 in
theorem b_X6_place_36 {g : Geo} {x : Cx} (C : Ok g x cX6_place RX6 8 (some .long) rm_X6_place) : ∀ (n : Nat) (x1 : Int32) (x2 : Int64) (x4 : Int32) (x5 : Int32) (σ : St) (r : Int64) (σ' : St), f_X6_place_36 n x1 x2 x4 x5 σ = some (r, σ') → V g x (qm g x (some (.long r)) σ') 8 σ [(0, .ref (g.1 26)), (1, .int x1), (2, .long x2), (4, .int x4), (5, .int x5)] [] 36 := by
  intro n
  induction n with
  | zero =>
    intro x1 x2 x4 x5 σ r σ' h
    rw [f_X6_place_36] at h
    cases h
  | succ n ih =>
    intro x1 x2 x4 x5 σ r σ' h
    rw [f_X6_place_36] at h
    refine v_iload C dX6_place_36 4 rfl ?_
    refine v_aload_n C dX6_place_38 rfl 0 rfl ?_
    obtain ⟨v1, σ2, cσ2, h⟩ := bd_some h
    refine callVi C (c_X6_cells cσ2) km_X6_cells kv_X6_cells rfl ml_RX6_80 rfl rfl (by decide) (Nat.le_of_ble_eq_true rfl) dX6_place_39 ?_
    refine v_icmp_ge C (tgt := 143) dX6_place_42 (by decide) (fun q3 => ?_) (fun q3 => ?_)
    · rw [if_pos q3] at h
      refine v_lload_n C dX6_place_143 rfl 2 rfl ?_
      cases h
      exact v_lret C dX6_place_144
    · rw [if_neg q3] at h
      refine v_iconst C (v := (0 : Int32)) dX6_place_45 (by decide) ?_
      refine v_istore C (lv' := [(6, .int _), (0, .ref _), (1, .int _), (2, .long _), (4, .int _), (5, .int _)]) dX6_place_46 (by decide) rfl ?_
      refine V.sub (lv' := [(0, .ref _), (1, .int _), (2, .long _), (4, .int _), (5, .int _), (6, .int _)]) [1, 2, 3, 4, 5, 0] rfl ?_
      exact b_X6_place_48 C _ ih FU _ _ _ _ _  _ _ _ h
def f_X6_place (a1 : Int32) (σ : St) : Option (Int64 × St) :=
  bd (f_X6_isSlot a1 σ) fun v1 σ2 =>
  if v1 = 0 then
    some ((-900001 : Int64), σ2)
  else
    rdI σ2 29 a1 fun v3 =>
    if v3 = 0 then
      some ((-900003 : Int64), σ2)
    else
      bd (f_X6_layWays σ2) fun _ σ5 =>
      f_X6_place_36 FU a1 (0 : Int64) (0 : Int32) (0 : Int32) σ5
set_option maxRecDepth 100000 in
set_option maxHeartbeats 4000000 in
theorem c_X6_place {g : Geo} {a1 : Int32} {σ : St} {r : Int64} {σ' : St} (h : f_X6_place a1 σ = some (r, σ')) : Ct g yX6_place cX6_place 8 (some .long) rm_X6_place [.ref (g.1 26), .int a1] σ (some (.long r)) σ' := by
  refine ct_of (own := RX6) (by decide) rfl (Nat.le_of_ble_eq_true rfl) (fun x C => ?_) ⟨rfl, rfl⟩
  show V g x _ 8 σ [(0, .ref (g.1 26)), (1, .int a1)] [] 0
  unfold f_X6_place at h
  refine v_iload_n C dX6_place_0 rfl 1 rfl ?_
  obtain ⟨v1, σ2, cσ2, h⟩ := bd_some h
  refine callSi C (c_X6_isSlot cσ2) km_X6_isSlot ks_X6_isSlot ml_RX6_155 rfl rfl (by decide) (Nat.le_of_ble_eq_true rfl) dX6_place_1 ?_
  refine v_if_ne C (tgt := 11) dX6_place_4 (by decide) (fun q7 => ?_) (fun q7 => ?_)
  · rw [if_neg q7] at h
    refine v_aload_n C dX6_place_11 rfl 0 rfl ?_
    refine v_getR C (p' := 29) fl_RX6_17 rfl rfl dX6_place_12 ?_
    refine v_iload_n C dX6_place_15 rfl 1 rfl ?_
    obtain ⟨nv3, v3, ev3, h⟩ := rdI_ex h
    refine x_zald C rfl nv3 ev3 dX6_place_16 ?_
    refine v_if_ne C (tgt := 24) dX6_place_17 (by decide) (fun q6 => ?_) (fun q6 => ?_)
    · rw [if_neg q6] at h
      refine v_aload_n C dX6_place_24 rfl 0 rfl ?_
      obtain ⟨v4, σ5, cσ5, h⟩ := bd_some h
      refine callVv C (c_X6_layWays cσ5) km_X6_layWays kv_X6_layWays rfl ml_RX6_120 rfl rfl (by decide) (Nat.le_of_ble_eq_true rfl) dX6_place_25 ?_
      refine v_lconst C (v := (0 : Int64)) dX6_place_28 (by decide) ?_
      refine v_lstore_n C (lv' := [(2, .long _), (0, .ref _), (1, .int _)]) dX6_place_29 rfl (by decide) rfl ?_
      refine v_iconst C (v := (0 : Int32)) dX6_place_30 (by decide) ?_
      refine v_istore C (lv' := [(4, .int _), (2, .long _), (0, .ref _), (1, .int _)]) dX6_place_31 (by decide) rfl ?_
      refine v_iconst C (v := (0 : Int32)) dX6_place_33 (by decide) ?_
      refine v_istore C (lv' := [(5, .int _), (4, .int _), (2, .long _), (0, .ref _), (1, .int _)]) dX6_place_34 (by decide) rfl ?_
      refine V.sub (lv' := [(0, .ref _), (1, .int _), (2, .long _), (4, .int _), (5, .int _)]) [3, 4, 2, 1, 0] rfl ?_
      exact b_X6_place_36 C FU _ _ _ _  _ _ _ h
    · rw [if_pos q6] at h
      refine v_ldc2_w C (v := (-900003 : Int64)) conl_RX6_162 dX6_place_20 ?_
      cases h
      exact v_lret C dX6_place_23
  · rw [if_pos q7] at h
    refine v_ldc2_w C (v := (-900001 : Int64)) conl_RX6_128 dX6_place_7 ?_
    cases h
    exact v_lret C dX6_place_10
theorem dX6_kind_0 : decode cX6_kind 0 = .ok (.iload_n 1, 1) := by decide +kernel
theorem dX6_kind_1 : decode cX6_kind 1 = .ok (.invokestatic 155, 3) := by decide +kernel
theorem dX6_kind_4 : decode cX6_kind 4 = .ok (.ifCond .eq 11, 3) := by decide +kernel
theorem dX6_kind_7 : decode cX6_kind 7 = .ok (.aload_n 0, 1) := by decide +kernel
theorem dX6_kind_8 : decode cX6_kind 8 = .ok (.iload_n 2, 1) := by decide +kernel
theorem dX6_kind_9 : decode cX6_kind 9 = .ok (.invokevirtual 123, 3) := by decide +kernel
theorem dX6_kind_12 : decode cX6_kind 12 = .ok (.ifCond .ne 6, 3) := by decide +kernel
theorem dX6_kind_15 : decode cX6_kind 15 = .ok (.ldc 97, 2) := by decide +kernel
theorem dX6_kind_17 : decode cX6_kind 17 = .ok (.ireturn, 1) := by decide +kernel
theorem dX6_kind_18 : decode cX6_kind 18 = .ok (.aload_n 0, 1) := by decide +kernel
theorem dX6_kind_19 : decode cX6_kind 19 = .ok (.getfield 17, 3) := by decide +kernel
theorem dX6_kind_22 : decode cX6_kind 22 = .ok (.iload_n 1, 1) := by decide +kernel
theorem dX6_kind_23 : decode cX6_kind 23 = .ok (.baload, 1) := by decide +kernel
theorem dX6_kind_24 : decode cX6_kind 24 = .ok (.ifCond .ne 8, 3) := by decide +kernel
theorem dX6_kind_27 : decode cX6_kind 27 = .ok (.ldc 158, 2) := by decide +kernel
theorem dX6_kind_29 : decode cX6_kind 29 = .ok (.goto 27, 3) := by decide +kernel
theorem dX6_kind_32 : decode cX6_kind 32 = .ok (.aload_n 0, 1) := by decide +kernel
theorem dX6_kind_33 : decode cX6_kind 33 = .ok (.iload_n 2, 1) := by decide +kernel
theorem dX6_kind_34 : decode cX6_kind 34 = .ok (.invokevirtual 108, 3) := by decide +kernel
theorem dX6_kind_37 : decode cX6_kind 37 = .ok (.ifCond .eq 17, 3) := by decide +kernel
theorem dX6_kind_40 : decode cX6_kind 40 = .ok (.aload_n 0, 1) := by decide +kernel
theorem dX6_kind_41 : decode cX6_kind 41 = .ok (.getfield 20, 3) := by decide +kernel
theorem dX6_kind_44 : decode cX6_kind 44 = .ok (.bipush 64, 2) := by decide +kernel
theorem dX6_kind_46 : decode cX6_kind 46 = .ok (.iload_n 1, 1) := by decide +kernel
theorem dX6_kind_47 : decode cX6_kind 47 = .ok (.imul, 1) := by decide +kernel
theorem dX6_kind_48 : decode cX6_kind 48 = .ok (.iload_n 2, 1) := by decide +kernel
theorem dX6_kind_49 : decode cX6_kind 49 = .ok (.iadd, 1) := by decide +kernel
theorem dX6_kind_50 : decode cX6_kind 50 = .ok (.iaload, 1) := by decide +kernel
theorem dX6_kind_51 : decode cX6_kind 51 = .ok (.goto 5, 3) := by decide +kernel
theorem dX6_kind_54 : decode cX6_kind 54 = .ok (.ldc 112, 2) := by decide +kernel
theorem dX6_kind_56 : decode cX6_kind 56 = .ok (.ireturn, 1) := by decide +kernel
def f_X6_kind_56 (s0 : Int32) (σ : St) : Option (Int32 × St) :=
  some (s0, σ)
set_option maxRecDepth 100000 in
set_option maxHeartbeats 4000000 in
theorem b_X6_kind_56 {g : Geo} {x : Cx} (C : Ok g x cX6_kind RX6 3 (some .int) rm_X6_kind) : ∀ (s0 : Int32) (σ : St) (r : Int32) (σ' : St), f_X6_kind_56 s0 σ = some (r, σ') → V g x (qm g x (some (.int r)) σ') 3 σ [] [.int s0] 56 := by
  intro s0 σ r σ' h
  unfold f_X6_kind_56 at h
  cases h
  exact v_iret C dX6_kind_56
def f_X6_kind_15 (σ : St) : Option (Int32 × St) :=
  some ((-900001 : Int32), σ)
set_option maxRecDepth 100000 in
set_option maxHeartbeats 4000000 in
theorem b_X6_kind_15 {g : Geo} {x : Cx} (C : Ok g x cX6_kind RX6 3 (some .int) rm_X6_kind) : ∀ (σ : St) (r : Int32) (σ' : St), f_X6_kind_15 σ = some (r, σ') → V g x (qm g x (some (.int r)) σ') 3 σ [] [] 15 := by
  intro σ r σ' h
  unfold f_X6_kind_15 at h
  refine v_ldc C (v := (-900001 : Int32)) con_RX6_97 dX6_kind_15 ?_
  cases h
  exact v_iret C dX6_kind_17
def f_X6_kind (a1 : Int32) (a2 : Int32) (σ : St) : Option (Int32 × St) :=
  bd (f_X6_isSlot a1 σ) fun v1 σ2 =>
  if v1 = 0 then
    f_X6_kind_15 σ2
  else
    bd (f_X6_isCell a2 σ2) fun v3 σ4 =>
    if v3 = 0 then
      f_X6_kind_15 σ4
    else
      rdI σ4 29 a1 fun v5 =>
      if v5 = 0 then
        f_X6_kind_56 (-900003 : Int32) σ4
      else
        bd (f_X6_isUp a2 σ4) fun v6 σ7 =>
        if v6 = 0 then
          f_X6_kind_56 (-900009 : Int32) σ7
        else
          rdI σ7 30 (((64 : Int32) * a1) + a2) fun v8 =>
          f_X6_kind_56 v8 σ7
set_option maxRecDepth 100000 in
set_option maxHeartbeats 4000000 in
theorem c_X6_kind {g : Geo} {a1 : Int32} {a2 : Int32} {σ : St} {r : Int32} {σ' : St} (h : f_X6_kind a1 a2 σ = some (r, σ')) : Ct g yX6_kind cX6_kind 3 (some .int) rm_X6_kind [.ref (g.1 26), .int a1, .int a2] σ (some (.int r)) σ' := by
  refine ct_of (own := RX6) (by decide) rfl (Nat.le_of_ble_eq_true rfl) (fun x C => ?_) ⟨rfl, rfl⟩
  show V g x _ 3 σ [(0, .ref (g.1 26)), (1, .int a1), (2, .int a2)] [] 0
  unfold f_X6_kind at h
  refine v_iload_n C dX6_kind_0 rfl 1 rfl ?_
  obtain ⟨v1, σ2, cσ2, h⟩ := bd_some h
  refine callSi C (c_X6_isSlot cσ2) km_X6_isSlot ks_X6_isSlot ml_RX6_155 rfl rfl (by decide) (Nat.le_of_ble_eq_true rfl) dX6_kind_1 ?_
  refine v_if_eq C (tgt := 15) dX6_kind_4 (by decide) (fun q12 => ?_) (fun q12 => ?_)
  · rw [if_pos q12] at h
    refine V.sub (lv' := []) [] rfl ?_
    exact b_X6_kind_15 C  _ _ _ h
  · rw [if_neg q12] at h
    refine v_aload_n C dX6_kind_7 rfl 0 rfl ?_
    refine v_iload_n C dX6_kind_8 rfl 2 rfl ?_
    obtain ⟨v3, σ4, cσ4, h⟩ := bd_some h
    refine callVi C (c_X6_isCell cσ4) km_X6_isCell kv_X6_isCell rfl ml_RX6_123 rfl rfl (by decide) (Nat.le_of_ble_eq_true rfl) dX6_kind_9 ?_
    refine v_if_ne C (tgt := 18) dX6_kind_12 (by decide) (fun q11 => ?_) (fun q11 => ?_)
    · rw [if_neg q11] at h
      refine v_aload_n C dX6_kind_18 rfl 0 rfl ?_
      refine v_getR C (p' := 29) fl_RX6_17 rfl rfl dX6_kind_19 ?_
      refine v_iload_n C dX6_kind_22 rfl 1 rfl ?_
      obtain ⟨nv5, v5, ev5, h⟩ := rdI_ex h
      refine x_zald C rfl nv5 ev5 dX6_kind_23 ?_
      refine v_if_ne C (tgt := 32) dX6_kind_24 (by decide) (fun q10 => ?_) (fun q10 => ?_)
      · rw [if_neg q10] at h
        refine v_aload_n C dX6_kind_32 rfl 0 rfl ?_
        refine v_iload_n C dX6_kind_33 rfl 2 rfl ?_
        obtain ⟨v6, σ7, cσ7, h⟩ := bd_some h
        refine callVi C (c_X6_isUp cσ7) km_X6_isUp kv_X6_isUp rfl ml_RX6_108 rfl rfl (by decide) (Nat.le_of_ble_eq_true rfl) dX6_kind_34 ?_
        refine v_if_eq C (tgt := 54) dX6_kind_37 (by decide) (fun q9 => ?_) (fun q9 => ?_)
        · rw [if_pos q9] at h
          refine v_ldc C (v := (-900009 : Int32)) con_RX6_112 dX6_kind_54 ?_
          refine V.sub (lv' := []) [] rfl ?_
          exact b_X6_kind_56 C _  _ _ _ h
        · rw [if_neg q9] at h
          refine v_aload_n C dX6_kind_40 rfl 0 rfl ?_
          refine v_getR C (p' := 30) fl_RX6_20 rfl rfl dX6_kind_41 ?_
          refine v_bipush C (v := (64 : Int32)) dX6_kind_44 (by decide) ?_
          refine v_iload_n C dX6_kind_46 rfl 1 rfl ?_
          refine v_imul C dX6_kind_47 ?_
          refine v_iload_n C dX6_kind_48 rfl 2 rfl ?_
          refine v_iadd C dX6_kind_49 ?_
          obtain ⟨nv8, v8, ev8, h⟩ := rdI_ex h
          refine x_iald C rfl nv8 ev8 dX6_kind_50 ?_
          refine v_goto C (tgt := 56) dX6_kind_51 (by decide) ?_
          refine V.sub (lv' := []) [] rfl ?_
          exact b_X6_kind_56 C _  _ _ _ h
      · rw [if_pos q10] at h
        refine v_ldc C (v := (-900003 : Int32)) con_RX6_158 dX6_kind_27 ?_
        refine v_goto C (tgt := 56) dX6_kind_29 (by decide) ?_
        refine V.sub (lv' := []) [] rfl ?_
        exact b_X6_kind_56 C _  _ _ _ h
    · rw [if_pos q11] at h
      refine V.sub (lv' := []) [] rfl ?_
      exact b_X6_kind_15 C  _ _ _ h
theorem dX6_count__0 : decode cX6_count_ 0 = .ok (.iload_n 1, 1) := by decide +kernel
theorem dX6_count__1 : decode cX6_count_ 1 = .ok (.invokestatic 155, 3) := by decide +kernel
theorem dX6_count__4 : decode cX6_count_ 4 = .ok (.ifCond .eq 15, 3) := by decide +kernel
theorem dX6_count__7 : decode cX6_count_ 7 = .ok (.iload_n 2, 1) := by decide +kernel
theorem dX6_count__8 : decode cX6_count_ 8 = .ok (.i2l, 1) := by decide +kernel
theorem dX6_count__9 : decode cX6_count_ 9 = .ok (.lconst 0, 1) := by decide +kernel
theorem dX6_count__10 : decode cX6_count_ 10 = .ok (.ldc2_w 126, 3) := by decide +kernel
theorem dX6_count__13 : decode cX6_count_ 13 = .ok (.invokestatic 84, 3) := by decide +kernel
theorem dX6_count__16 : decode cX6_count_ 16 = .ok (.ifCond .ne 6, 3) := by decide +kernel
theorem dX6_count__19 : decode cX6_count_ 19 = .ok (.ldc 97, 2) := by decide +kernel
theorem dX6_count__21 : decode cX6_count_ 21 = .ok (.ireturn, 1) := by decide +kernel
theorem dX6_count__22 : decode cX6_count_ 22 = .ok (.aload_n 0, 1) := by decide +kernel
theorem dX6_count__23 : decode cX6_count_ 23 = .ok (.getfield 17, 3) := by decide +kernel
theorem dX6_count__26 : decode cX6_count_ 26 = .ok (.iload_n 1, 1) := by decide +kernel
theorem dX6_count__27 : decode cX6_count_ 27 = .ok (.baload, 1) := by decide +kernel
theorem dX6_count__28 : decode cX6_count_ 28 = .ok (.ifCond .ne 6, 3) := by decide +kernel
theorem dX6_count__31 : decode cX6_count_ 31 = .ok (.ldc 158, 2) := by decide +kernel
theorem dX6_count__33 : decode cX6_count_ 33 = .ok (.ireturn, 1) := by decide +kernel
theorem dX6_count__34 : decode cX6_count_ 34 = .ok (.iconst 0, 1) := by decide +kernel
theorem dX6_count__35 : decode cX6_count_ 35 = .ok (.istore_n 3, 1) := by decide +kernel
theorem dX6_count__36 : decode cX6_count_ 36 = .ok (.iconst 0, 1) := by decide +kernel
theorem dX6_count__37 : decode cX6_count_ 37 = .ok (.istore 4, 2) := by decide +kernel
theorem dX6_count__39 : decode cX6_count_ 39 = .ok (.iload 4, 2) := by decide +kernel
theorem dX6_count__41 : decode cX6_count_ 41 = .ok (.aload_n 0, 1) := by decide +kernel
theorem dX6_count__42 : decode cX6_count_ 42 = .ok (.invokevirtual 80, 3) := by decide +kernel
theorem dX6_count__45 : decode cX6_count_ 45 = .ok (.if_icmp .ge 33, 3) := by decide +kernel
theorem dX6_count__48 : decode cX6_count_ 48 = .ok (.iload_n 3, 1) := by decide +kernel
theorem dX6_count__49 : decode cX6_count_ 49 = .ok (.aload_n 0, 1) := by decide +kernel
theorem dX6_count__50 : decode cX6_count_ 50 = .ok (.getfield 20, 3) := by decide +kernel
theorem dX6_count__53 : decode cX6_count_ 53 = .ok (.bipush 64, 2) := by decide +kernel
theorem dX6_count__55 : decode cX6_count_ 55 = .ok (.iload_n 1, 1) := by decide +kernel
theorem dX6_count__56 : decode cX6_count_ 56 = .ok (.imul, 1) := by decide +kernel
theorem dX6_count__57 : decode cX6_count_ 57 = .ok (.iload 4, 2) := by decide +kernel
theorem dX6_count__59 : decode cX6_count_ 59 = .ok (.iadd, 1) := by decide +kernel
theorem dX6_count__60 : decode cX6_count_ 60 = .ok (.iaload, 1) := by decide +kernel
theorem dX6_count__61 : decode cX6_count_ 61 = .ok (.iload_n 2, 1) := by decide +kernel
theorem dX6_count__62 : decode cX6_count_ 62 = .ok (.if_icmp .ne 7, 3) := by decide +kernel
theorem dX6_count__65 : decode cX6_count_ 65 = .ok (.iconst 1, 1) := by decide +kernel
theorem dX6_count__66 : decode cX6_count_ 66 = .ok (.goto 4, 3) := by decide +kernel
theorem dX6_count__69 : decode cX6_count_ 69 = .ok (.iconst 0, 1) := by decide +kernel
theorem dX6_count__70 : decode cX6_count_ 70 = .ok (.iadd, 1) := by decide +kernel
theorem dX6_count__71 : decode cX6_count_ 71 = .ok (.istore_n 3, 1) := by decide +kernel
theorem dX6_count__72 : decode cX6_count_ 72 = .ok (.iinc 4 1, 3) := by decide +kernel
theorem dX6_count__75 : decode cX6_count_ 75 = .ok (.goto (-36), 3) := by decide +kernel
theorem dX6_count__78 : decode cX6_count_ 78 = .ok (.iload_n 3, 1) := by decide +kernel
theorem dX6_count__79 : decode cX6_count_ 79 = .ok (.ireturn, 1) := by decide +kernel
def f_X6_count__70 (k39 : Int32 → Int32 → Int32 → Int32 → St → Option (Int32 × St)) (x1 : Int32) (x2 : Int32) (x4 : Int32) (s0 : Int32) (s1 : Int32) (σ : St) : Option (Int32 × St) :=
  k39 x1 x2 (s0 + s1) (x4 + 1) σ
set_option maxRecDepth 100000 in
set_option maxHeartbeats 4000000 in
theorem b_X6_count__70 {g : Geo} {x : Cx} (C : Ok g x cX6_count_ RX6 5 (some .int) rm_X6_count_) (k39 : Int32 → Int32 → Int32 → Int32 → St → Option (Int32 × St)) (hk39 : ∀ (x1 : Int32) (x2 : Int32) (x3 : Int32) (x4 : Int32) (τ : St) (r : Int32) (τ' : St), k39 x1 x2 x3 x4 τ = some (r, τ') → V g x (qm g x (some (.int r)) τ') 5 τ [(0, .ref (g.1 26)), (1, .int x1), (2, .int x2), (3, .int x3), (4, .int x4)] [] 39) : ∀ (x1 : Int32) (x2 : Int32) (x4 : Int32) (s0 : Int32) (s1 : Int32) (σ : St) (r : Int32) (σ' : St), f_X6_count__70 k39 x1 x2 x4 s0 s1 σ = some (r, σ') → V g x (qm g x (some (.int r)) σ') 5 σ [(0, .ref (g.1 26)), (1, .int x1), (2, .int x2), (4, .int x4)] [.int s1, .int s0] 70 := by
  intro x1 x2 x4 s0 s1 σ r σ' h
  unfold f_X6_count__70 at h
  refine v_iadd C dX6_count__70 ?_
  refine v_istore_n C (lv' := [(3, .int _), (0, .ref _), (1, .int _), (2, .int _), (4, .int _)]) dX6_count__71 rfl (by decide) rfl ?_
  refine v_iinc C (v := (x4 + 1)) (lv' := [(4, .int _), (3, .int _), (0, .ref _), (1, .int _), (2, .int _)]) dX6_count__72 4 rfl rfl (by decide) rfl ?_
  refine v_goto C (tgt := 39) dX6_count__75 (by decide) ?_
  refine V.sub (lv' := [(0, .ref _), (1, .int _), (2, .int _), (3, .int _), (4, .int _)]) [2, 3, 4, 1, 0] rfl ?_
  exact hk39 _ _ _ _  _ _ _ h
def f_X6_count__39 : Nat → Int32 → Int32 → Int32 → Int32 → St → Option (Int32 × St)
  | 0, _, _, _, _, _ => none
  | n + 1, x1, x2, x3, x4, σ =>
    bd (f_X6_cells σ) fun v1 σ2 =>
    if v1 ≤ x4 then
      some (x3, σ2)
    else
      rdI σ2 30 (((64 : Int32) * x1) + x4) fun v3 =>
      if v3 = x2 then
        f_X6_count__70 (f_X6_count__39 n) x1 x2 x4 x3 (1 : Int32) σ2
      else
        f_X6_count__70 (f_X6_count__39 n) x1 x2 x4 x3 (0 : Int32) σ2
set_option maxRecDepth 100000 in
set_option maxHeartbeats 4000000 in
theorem b_X6_count__39 {g : Geo} {x : Cx} (C : Ok g x cX6_count_ RX6 5 (some .int) rm_X6_count_) : ∀ (n : Nat) (x1 : Int32) (x2 : Int32) (x3 : Int32) (x4 : Int32) (σ : St) (r : Int32) (σ' : St), f_X6_count__39 n x1 x2 x3 x4 σ = some (r, σ') → V g x (qm g x (some (.int r)) σ') 5 σ [(0, .ref (g.1 26)), (1, .int x1), (2, .int x2), (3, .int x3), (4, .int x4)] [] 39 := by
  intro n
  induction n with
  | zero =>
    intro x1 x2 x3 x4 σ r σ' h
    rw [f_X6_count__39] at h
    cases h
  | succ n ih =>
    intro x1 x2 x3 x4 σ r σ' h
    rw [f_X6_count__39] at h
    refine v_iload C dX6_count__39 4 rfl ?_
    refine v_aload_n C dX6_count__41 rfl 0 rfl ?_
    obtain ⟨v1, σ2, cσ2, h⟩ := bd_some h
    refine callVi C (c_X6_cells cσ2) km_X6_cells kv_X6_cells rfl ml_RX6_80 rfl rfl (by decide) (Nat.le_of_ble_eq_true rfl) dX6_count__42 ?_
    refine v_icmp_ge C (tgt := 78) dX6_count__45 (by decide) (fun q5 => ?_) (fun q5 => ?_)
    · rw [if_pos q5] at h
      refine v_iload_n C dX6_count__78 rfl 3 rfl ?_
      cases h
      exact v_iret C dX6_count__79
    · rw [if_neg q5] at h
      refine v_iload_n C dX6_count__48 rfl 3 rfl ?_
      refine v_aload_n C dX6_count__49 rfl 0 rfl ?_
      refine v_getR C (p' := 30) fl_RX6_20 rfl rfl dX6_count__50 ?_
      refine v_bipush C (v := (64 : Int32)) dX6_count__53 (by decide) ?_
      refine v_iload_n C dX6_count__55 rfl 1 rfl ?_
      refine v_imul C dX6_count__56 ?_
      refine v_iload C dX6_count__57 4 rfl ?_
      refine v_iadd C dX6_count__59 ?_
      obtain ⟨nv3, v3, ev3, h⟩ := rdI_ex h
      refine x_iald C rfl nv3 ev3 dX6_count__60 ?_
      refine v_iload_n C dX6_count__61 rfl 2 rfl ?_
      refine v_icmp_ne C (tgt := 69) dX6_count__62 (by decide) (fun q4 => ?_) (fun q4 => ?_)
      · rw [if_neg q4] at h
        refine v_iconst C (v := (0 : Int32)) dX6_count__69 (by decide) ?_
        refine V.sub (lv' := [(0, .ref _), (1, .int _), (2, .int _), (4, .int _)]) [0, 1, 2, 4] rfl ?_
        exact b_X6_count__70 C _ ih _ _ _ _ _  _ _ _ h
      · rw [if_pos q4] at h
        refine v_iconst C (v := (1 : Int32)) dX6_count__65 (by decide) ?_
        refine v_goto C (tgt := 70) dX6_count__66 (by decide) ?_
        refine V.sub (lv' := [(0, .ref _), (1, .int _), (2, .int _), (4, .int _)]) [0, 1, 2, 4] rfl ?_
        exact b_X6_count__70 C _ ih _ _ _ _ _  _ _ _ h
def f_X6_count__19 (σ : St) : Option (Int32 × St) :=
  some ((-900001 : Int32), σ)
set_option maxRecDepth 100000 in
set_option maxHeartbeats 4000000 in
theorem b_X6_count__19 {g : Geo} {x : Cx} (C : Ok g x cX6_count_ RX6 5 (some .int) rm_X6_count_) : ∀ (σ : St) (r : Int32) (σ' : St), f_X6_count__19 σ = some (r, σ') → V g x (qm g x (some (.int r)) σ') 5 σ [] [] 19 := by
  intro σ r σ' h
  unfold f_X6_count__19 at h
  refine v_ldc C (v := (-900001 : Int32)) con_RX6_97 dX6_count__19 ?_
  cases h
  exact v_iret C dX6_count__21
def f_X6_count_ (a1 : Int32) (a2 : Int32) (σ : St) : Option (Int32 × St) :=
  bd (f_X6_isSlot a1 σ) fun v1 σ2 =>
  if v1 = 0 then
    f_X6_count__19 σ2
  else
    bd (f_X6_in ((a2).toInt64) (0 : Int64) (2 : Int64) σ2) fun v3 σ4 =>
    if v3 = 0 then
      f_X6_count__19 σ4
    else
      rdI σ4 29 a1 fun v5 =>
      if v5 = 0 then
        some ((-900003 : Int32), σ4)
      else
        f_X6_count__39 FU a1 a2 (0 : Int32) (0 : Int32) σ4
set_option maxRecDepth 100000 in
set_option maxHeartbeats 4000000 in
theorem c_X6_count_ {g : Geo} {a1 : Int32} {a2 : Int32} {σ : St} {r : Int32} {σ' : St} (h : f_X6_count_ a1 a2 σ = some (r, σ')) : Ct g yX6_count_ cX6_count_ 5 (some .int) rm_X6_count_ [.ref (g.1 26), .int a1, .int a2] σ (some (.int r)) σ' := by
  refine ct_of (own := RX6) (by decide) rfl (Nat.le_of_ble_eq_true rfl) (fun x C => ?_) ⟨rfl, rfl⟩
  show V g x _ 5 σ [(0, .ref (g.1 26)), (1, .int a1), (2, .int a2)] [] 0
  unfold f_X6_count_ at h
  refine v_iload_n C dX6_count__0 rfl 1 rfl ?_
  obtain ⟨v1, σ2, cσ2, h⟩ := bd_some h
  refine callSi C (c_X6_isSlot cσ2) km_X6_isSlot ks_X6_isSlot ml_RX6_155 rfl rfl (by decide) (Nat.le_of_ble_eq_true rfl) dX6_count__1 ?_
  refine v_if_eq C (tgt := 19) dX6_count__4 (by decide) (fun q8 => ?_) (fun q8 => ?_)
  · rw [if_pos q8] at h
    refine V.sub (lv' := []) [] rfl ?_
    exact b_X6_count__19 C  _ _ _ h
  · rw [if_neg q8] at h
    refine v_iload_n C dX6_count__7 rfl 2 rfl ?_
    refine v_i2l C dX6_count__8 ?_
    refine v_lconst C (v := (0 : Int64)) dX6_count__9 (by decide) ?_
    refine v_ldc2_w C (v := (2 : Int64)) conl_RX6_126 dX6_count__10 ?_
    obtain ⟨v3, σ4, cσ4, h⟩ := bd_some h
    refine callSi C (c_X6_in cσ4) km_X6_in ks_X6_in ml_RX6_84 rfl rfl (by decide) (Nat.le_of_ble_eq_true rfl) dX6_count__13 ?_
    refine v_if_ne C (tgt := 22) dX6_count__16 (by decide) (fun q7 => ?_) (fun q7 => ?_)
    · rw [if_neg q7] at h
      refine v_aload_n C dX6_count__22 rfl 0 rfl ?_
      refine v_getR C (p' := 29) fl_RX6_17 rfl rfl dX6_count__23 ?_
      refine v_iload_n C dX6_count__26 rfl 1 rfl ?_
      obtain ⟨nv5, v5, ev5, h⟩ := rdI_ex h
      refine x_zald C rfl nv5 ev5 dX6_count__27 ?_
      refine v_if_ne C (tgt := 34) dX6_count__28 (by decide) (fun q6 => ?_) (fun q6 => ?_)
      · rw [if_neg q6] at h
        refine v_iconst C (v := (0 : Int32)) dX6_count__34 (by decide) ?_
        refine v_istore_n C (lv' := [(3, .int _), (0, .ref _), (1, .int _), (2, .int _)]) dX6_count__35 rfl (by decide) rfl ?_
        refine v_iconst C (v := (0 : Int32)) dX6_count__36 (by decide) ?_
        refine v_istore C (lv' := [(4, .int _), (3, .int _), (0, .ref _), (1, .int _), (2, .int _)]) dX6_count__37 (by decide) rfl ?_
        refine V.sub (lv' := [(0, .ref _), (1, .int _), (2, .int _), (3, .int _), (4, .int _)]) [2, 3, 4, 1, 0] rfl ?_
        exact b_X6_count__39 C FU _ _ _ _  _ _ _ h
      · rw [if_pos q6] at h
        refine v_ldc C (v := (-900003 : Int32)) con_RX6_158 dX6_count__31 ?_
        cases h
        exact v_iret C dX6_count__33
    · rw [if_pos q7] at h
      refine V.sub (lv' := []) [] rfl ?_
      exact b_X6_count__19 C  _ _ _ h
