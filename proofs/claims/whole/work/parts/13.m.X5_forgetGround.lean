/-! ===== printed: X5_forgetGround, X5_ground, X5_hexagonFits, X5_hexagon, X5_set, X5_isIn, X5_ups, X5_size, X5_powerIn, X5_powerInProduct, X5_product, X5_makeSteps, X5_layings, X5_isKind, X5_with, X5_kinds, J6_bitCount_0f7a4, X5_forced, X5_span, X5_weight, X5_dearest, X5_isSlot, X5_lay, X5_layDearest, X5_copy, X5_place, X5_kind ===== -/
theorem dX5_forgetGround_0 : decode cX5_forgetGround 0 = .ok (.iconst 0, 1) := by decide +kernel
theorem dX5_forgetGround_1 : decode cX5_forgetGround 1 = .ok (.istore_n 1, 1) := by decide +kernel
theorem dX5_forgetGround_2 : decode cX5_forgetGround 2 = .ok (.iload_n 1, 1) := by decide +kernel
theorem dX5_forgetGround_3 : decode cX5_forgetGround 3 = .ok (.iconst 4, 1) := by decide +kernel
theorem dX5_forgetGround_4 : decode cX5_forgetGround 4 = .ok (.if_icmp .ge 18, 3) := by decide +kernel
theorem dX5_forgetGround_7 : decode cX5_forgetGround 7 = .ok (.aload_n 0, 1) := by decide +kernel
theorem dX5_forgetGround_8 : decode cX5_forgetGround 8 = .ok (.getfield 39, 3) := by decide +kernel
theorem dX5_forgetGround_11 : decode cX5_forgetGround 11 = .ok (.iload_n 1, 1) := by decide +kernel
theorem dX5_forgetGround_12 : decode cX5_forgetGround 12 = .ok (.aaload, 1) := by decide +kernel
theorem dX5_forgetGround_13 : decode cX5_forgetGround 13 = .ok (.invokevirtual 260, 3) := by decide +kernel
theorem dX5_forgetGround_16 : decode cX5_forgetGround 16 = .ok (.iinc 1 1, 3) := by decide +kernel
theorem dX5_forgetGround_19 : decode cX5_forgetGround 19 = .ok (.goto (-17), 3) := by decide +kernel
theorem dX5_forgetGround_22 : decode cX5_forgetGround 22 = .ok (.aload_n 0, 1) := by decide +kernel
theorem dX5_forgetGround_23 : decode cX5_forgetGround 23 = .ok (.getfield 33, 3) := by decide +kernel
theorem dX5_forgetGround_26 : decode cX5_forgetGround 26 = .ok (.invokevirtual 263, 3) := by decide +kernel
theorem dX5_forgetGround_29 : decode cX5_forgetGround 29 = .ok (.aload_n 0, 1) := by decide +kernel
theorem dX5_forgetGround_30 : decode cX5_forgetGround 30 = .ok (.iconst 0, 1) := by decide +kernel
theorem dX5_forgetGround_31 : decode cX5_forgetGround 31 = .ok (.putfield 266, 3) := by decide +kernel
theorem dX5_forgetGround_34 : decode cX5_forgetGround 34 = .ok (.aload_n 0, 1) := by decide +kernel
theorem dX5_forgetGround_35 : decode cX5_forgetGround 35 = .ok (.iconst 0, 1) := by decide +kernel
theorem dX5_forgetGround_36 : decode cX5_forgetGround 36 = .ok (.putfield 269, 3) := by decide +kernel
theorem dX5_forgetGround_39 : decode cX5_forgetGround 39 = .ok (.return_, 1) := by decide +kernel
def f_X5_forgetGround_2 : Nat → Int32 → St → Option (Unit × St)
  | 0, _, _ => none
  | n + 1, x1, σ =>
    if (4 : Int32) ≤ x1 then
      bd (f_X4_forget σ) fun _ σ2 =>
      fI σ2 0 8 (0 : Int32) fun σ3 =>
      fI σ3 0 9 (0 : Int32) fun σ4 =>
      some ((), σ4)
    else
      rdR x1 fun p5 =>
      bd (f_X2_clear p5 σ) fun _ σ7 =>
      f_X5_forgetGround_2 n (x1 + 1) σ7
set_option maxRecDepth 100000 in
set_option maxHeartbeats 4000000 in
theorem b_X5_forgetGround_2 {g : Geo} {x : Cx} (C : Ok g x cX5_forgetGround RX5 2 none rm_X5_forgetGround) : ∀ (n : Nat) (x1 : Int32) (σ : St) (r : Unit) (σ' : St), f_X5_forgetGround_2 n x1 σ = some (r, σ') → V g x (qm g x none σ') 2 σ [(0, .ref (g.1 0)), (1, .int x1)] [] 2 := by
  intro n
  induction n with
  | zero =>
    intro x1 σ r σ' h
    rw [f_X5_forgetGround_2] at h
    cases h
  | succ n ih =>
    intro x1 σ r σ' h
    rw [f_X5_forgetGround_2] at h
    refine v_iload_n C dX5_forgetGround_2 rfl 1 rfl ?_
    refine v_iconst C (v := (4 : Int32)) dX5_forgetGround_3 (by decide) ?_
    refine v_icmp_ge C (tgt := 22) dX5_forgetGround_4 (by decide) (fun q8 => ?_) (fun q8 => ?_)
    · rw [if_pos q8] at h
      refine v_aload_n C dX5_forgetGround_22 rfl 0 rfl ?_
      refine v_getR C (p' := 4) fl_RX5_33 rfl rfl dX5_forgetGround_23 ?_
      obtain ⟨v1, σ2, cσ2, h⟩ := bd_some h
      refine callVv C (c_X4_forget cσ2) km_X4_forget kv_X4_forget rfl ml_RX5_263 rfl rfl (by decide) (Nat.le_of_ble_eq_true rfl) dX5_forgetGround_26 ?_
      refine v_aload_n C dX5_forgetGround_29 rfl 0 rfl ?_
      refine v_iconst C (v := (0 : Int32)) dX5_forgetGround_30 (by decide) ?_
      obtain ⟨σ3, eσ3, h⟩ := fI_ex h
      refine x_putZ C fl_RX5_266 fw_5_8 rfl (Or.inl rfl) eσ3 dX5_forgetGround_31 ?_
      refine v_aload_n C dX5_forgetGround_34 rfl 0 rfl ?_
      refine v_iconst C (v := (0 : Int32)) dX5_forgetGround_35 (by decide) ?_
      obtain ⟨σ4, eσ4, h⟩ := fI_ex h
      refine x_putZ C fl_RX5_269 fw_5_9 rfl (Or.inl rfl) eσ4 dX5_forgetGround_36 ?_
      cases h
      exact v_vret C dX5_forgetGround_39
    · rw [if_neg q8] at h
      refine v_aload_n C dX5_forgetGround_7 rfl 0 rfl ?_
      refine v_getR C (p' := 14) fl_RX5_39 rfl rfl dX5_forgetGround_8 ?_
      refine v_iload_n C dX5_forgetGround_11 rfl 1 rfl ?_
      obtain ⟨np5, p5, ep5, hp5, h⟩ := rdR_ex h
      refine x_aald C np5 ep5 dX5_forgetGround_12 ?_
      obtain ⟨v6, σ7, cσ7, h⟩ := bd_some h
      refine callVv C (c_X2_clear hp5 cσ7) km_X2_clear kv_X2_clear hp5 ml_RX5_260 rfl rfl (by decide) (Nat.le_of_ble_eq_true rfl) dX5_forgetGround_13 ?_
      refine v_iinc C (v := (x1 + 1)) (lv' := [(1, .int _), (0, .ref _)]) dX5_forgetGround_16 1 rfl rfl (by decide) rfl ?_
      refine v_goto C (tgt := 2) dX5_forgetGround_19 (by decide) ?_
      refine V.sub (lv' := [(0, .ref _), (1, .int _)]) [1, 0] rfl ?_
      exact ih _  _ _ _ h
def f_X5_forgetGround (σ : St) : Option (Unit × St) :=
  f_X5_forgetGround_2 FU (0 : Int32) σ
set_option maxRecDepth 100000 in
set_option maxHeartbeats 4000000 in
theorem c_X5_forgetGround {g : Geo} {σ : St} {r : Unit} {σ' : St} (h : f_X5_forgetGround σ = some (r, σ')) : Ct g yX5_forgetGround cX5_forgetGround 2 none rm_X5_forgetGround [.ref (g.1 0)] σ none σ' := by
  refine ct_of (own := RX5) (by decide) rfl (Nat.le_of_ble_eq_true rfl) (fun x C => ?_) ⟨rfl, rfl⟩
  show V g x _ 2 σ [(0, .ref (g.1 0))] [] 0
  unfold f_X5_forgetGround at h
  refine v_iconst C (v := (0 : Int32)) dX5_forgetGround_0 (by decide) ?_
  refine v_istore_n C (lv' := [(1, .int _), (0, .ref _)]) dX5_forgetGround_1 rfl (by decide) rfl ?_
  refine V.sub (lv' := [(0, .ref _), (1, .int _)]) [1, 0] rfl ?_
  exact b_X5_forgetGround_2 C FU _  _ _ _ h
theorem dX5_ground_0 : decode cX5_ground 0 = .ok (.iload_n 1, 1) := by decide +kernel
theorem dX5_ground_1 : decode cX5_ground 1 = .ok (.iconst 1, 1) := by decide +kernel
theorem dX5_ground_2 : decode cX5_ground 2 = .ok (.if_icmp .lt 20, 3) := by decide +kernel
theorem dX5_ground_5 : decode cX5_ground 5 = .ok (.iload_n 1, 1) := by decide +kernel
theorem dX5_ground_6 : decode cX5_ground 6 = .ok (.bipush 8, 2) := by decide +kernel
theorem dX5_ground_8 : decode cX5_ground 8 = .ok (.if_icmp .gt 14, 3) := by decide +kernel
theorem dX5_ground_11 : decode cX5_ground 11 = .ok (.iload_n 2, 1) := by decide +kernel
theorem dX5_ground_12 : decode cX5_ground 12 = .ok (.iconst 1, 1) := by decide +kernel
theorem dX5_ground_13 : decode cX5_ground 13 = .ok (.if_icmp .lt 9, 3) := by decide +kernel
theorem dX5_ground_16 : decode cX5_ground 16 = .ok (.iload_n 2, 1) := by decide +kernel
theorem dX5_ground_17 : decode cX5_ground 17 = .ok (.bipush 8, 2) := by decide +kernel
theorem dX5_ground_19 : decode cX5_ground 19 = .ok (.if_icmp .le 6, 3) := by decide +kernel
theorem dX5_ground_22 : decode cX5_ground 22 = .ok (.ldc 59, 2) := by decide +kernel
theorem dX5_ground_24 : decode cX5_ground 24 = .ok (.ireturn, 1) := by decide +kernel
theorem dX5_ground_25 : decode cX5_ground 25 = .ok (.aload_n 0, 1) := by decide +kernel
theorem dX5_ground_26 : decode cX5_ground 26 = .ok (.getfield 12, 3) := by decide +kernel
theorem dX5_ground_29 : decode cX5_ground 29 = .ok (.iload_n 1, 1) := by decide +kernel
theorem dX5_ground_30 : decode cX5_ground 30 = .ok (.iload_n 2, 1) := by decide +kernel
theorem dX5_ground_31 : decode cX5_ground 31 = .ok (.invokevirtual 55, 3) := by decide +kernel
theorem dX5_ground_34 : decode cX5_ground 34 = .ok (.aload_n 0, 1) := by decide +kernel
theorem dX5_ground_35 : decode cX5_ground 35 = .ok (.invokevirtual 60, 3) := by decide +kernel
theorem dX5_ground_38 : decode cX5_ground 38 = .ok (.aload_n 0, 1) := by decide +kernel
theorem dX5_ground_39 : decode cX5_ground 39 = .ok (.invokevirtual 63, 3) := by decide +kernel
theorem dX5_ground_42 : decode cX5_ground 42 = .ok (.aload_n 0, 1) := by decide +kernel
theorem dX5_ground_43 : decode cX5_ground 43 = .ok (.getfield 12, 3) := by decide +kernel
theorem dX5_ground_46 : decode cX5_ground 46 = .ok (.getfield 66, 3) := by decide +kernel
theorem dX5_ground_49 : decode cX5_ground 49 = .ok (.ireturn, 1) := by decide +kernel
def f_X5_ground_22 (σ : St) : Option (Int32 × St) :=
  some ((-900002 : Int32), σ)
set_option maxRecDepth 100000 in
set_option maxHeartbeats 4000000 in
theorem b_X5_ground_22 {g : Geo} {x : Cx} (C : Ok g x cX5_ground RX5 3 (some .int) rm_X5_ground) : ∀ (σ : St) (r : Int32) (σ' : St), f_X5_ground_22 σ = some (r, σ') → V g x (qm g x (some (.int r)) σ') 3 σ [] [] 22 := by
  intro σ r σ' h
  unfold f_X5_ground_22 at h
  refine v_ldc C (v := (-900002 : Int32)) con_RX5_59 dX5_ground_22 ?_
  cases h
  exact v_iret C dX5_ground_24
def f_X5_ground (a1 : Int32) (a2 : Int32) (σ : St) : Option (Int32 × St) :=
  if a1 < (1 : Int32) then
    f_X5_ground_22 σ
  else
    if (8 : Int32) < a1 then
      f_X5_ground_22 σ
    else
      if a2 < (1 : Int32) then
        f_X5_ground_22 σ
      else
        if a2 ≤ (8 : Int32) then
          bd (f_X1_shape a1 a2 σ) fun _ σ2 =>
          bd (f_X5_forgetWeights σ2) fun _ σ4 =>
          bd (f_X5_forgetGround σ4) fun _ σ6 =>
          some ((gi σ6 1 2), σ6)
        else
          f_X5_ground_22 σ
set_option maxRecDepth 100000 in
set_option maxHeartbeats 4000000 in
theorem c_X5_ground {g : Geo} {a1 : Int32} {a2 : Int32} {σ : St} {r : Int32} {σ' : St} (h : f_X5_ground a1 a2 σ = some (r, σ')) : Ct g yX5_ground cX5_ground 3 (some .int) rm_X5_ground [.ref (g.1 0), .int a1, .int a2] σ (some (.int r)) σ' := by
  refine ct_of (own := RX5) (by decide) rfl (Nat.le_of_ble_eq_true rfl) (fun x C => ?_) ⟨rfl, rfl⟩
  show V g x _ 3 σ [(0, .ref (g.1 0)), (1, .int a1), (2, .int a2)] [] 0
  unfold f_X5_ground at h
  refine v_iload_n C dX5_ground_0 rfl 1 rfl ?_
  refine v_iconst C (v := (1 : Int32)) dX5_ground_1 (by decide) ?_
  refine v_icmp_lt C (tgt := 22) dX5_ground_2 (by decide) (fun q10 => ?_) (fun q10 => ?_)
  · rw [if_pos q10] at h
    refine V.sub (lv' := []) [] rfl ?_
    exact b_X5_ground_22 C  _ _ _ h
  · rw [if_neg q10] at h
    refine v_iload_n C dX5_ground_5 rfl 1 rfl ?_
    refine v_bipush C (v := (8 : Int32)) dX5_ground_6 (by decide) ?_
    refine v_icmp_gt C (tgt := 22) dX5_ground_8 (by decide) (fun q9 => ?_) (fun q9 => ?_)
    · rw [if_pos q9] at h
      refine V.sub (lv' := []) [] rfl ?_
      exact b_X5_ground_22 C  _ _ _ h
    · rw [if_neg q9] at h
      refine v_iload_n C dX5_ground_11 rfl 2 rfl ?_
      refine v_iconst C (v := (1 : Int32)) dX5_ground_12 (by decide) ?_
      refine v_icmp_lt C (tgt := 22) dX5_ground_13 (by decide) (fun q8 => ?_) (fun q8 => ?_)
      · rw [if_pos q8] at h
        refine V.sub (lv' := []) [] rfl ?_
        exact b_X5_ground_22 C  _ _ _ h
      · rw [if_neg q8] at h
        refine v_iload_n C dX5_ground_16 rfl 2 rfl ?_
        refine v_bipush C (v := (8 : Int32)) dX5_ground_17 (by decide) ?_
        refine v_icmp_le C (tgt := 25) dX5_ground_19 (by decide) (fun q7 => ?_) (fun q7 => ?_)
        · rw [if_pos q7] at h
          refine v_aload_n C dX5_ground_25 rfl 0 rfl ?_
          refine v_getR C (p' := 1) fl_RX5_12 rfl rfl dX5_ground_26 ?_
          refine v_iload_n C dX5_ground_29 rfl 1 rfl ?_
          refine v_iload_n C dX5_ground_30 rfl 2 rfl ?_
          obtain ⟨v1, σ2, cσ2, h⟩ := bd_some h
          refine callVv C (c_X1_shape cσ2) km_X1_shape kv_X1_shape rfl ml_RX5_55 rfl rfl (by decide) (Nat.le_of_ble_eq_true rfl) dX5_ground_31 ?_
          refine v_aload_n C dX5_ground_34 rfl 0 rfl ?_
          obtain ⟨v3, σ4, cσ4, h⟩ := bd_some h
          refine callVv C (c_X5_forgetWeights cσ4) km_X5_forgetWeights kv_X5_forgetWeights rfl ml_RX5_60 rfl rfl (by decide) (Nat.le_of_ble_eq_true rfl) dX5_ground_35 ?_
          refine v_aload_n C dX5_ground_38 rfl 0 rfl ?_
          obtain ⟨v5, σ6, cσ6, h⟩ := bd_some h
          refine callVv C (c_X5_forgetGround cσ6) km_X5_forgetGround kv_X5_forgetGround rfl ml_RX5_63 rfl rfl (by decide) (Nat.le_of_ble_eq_true rfl) dX5_ground_39 ?_
          refine v_aload_n C dX5_ground_42 rfl 0 rfl ?_
          refine v_getR C (p' := 1) fl_RX5_12 rfl rfl dX5_ground_43 ?_
          refine v_getI C fl_RX5_66 rfl dX5_ground_46 ?_
          cases h
          exact v_iret C dX5_ground_49
        · rw [if_neg q7] at h
          refine V.sub (lv' := []) [] rfl ?_
          exact b_X5_ground_22 C  _ _ _ h
theorem dX5_hexagonFits_0 : decode cX5_hexagonFits 0 = .ok (.iload_n 0, 1) := by decide +kernel
theorem dX5_hexagonFits_1 : decode cX5_hexagonFits 1 = .ok (.iconst 1, 1) := by decide +kernel
theorem dX5_hexagonFits_2 : decode cX5_hexagonFits 2 = .ok (.if_icmp .lt 35, 3) := by decide +kernel
theorem dX5_hexagonFits_5 : decode cX5_hexagonFits 5 = .ok (.iload_n 0, 1) := by decide +kernel
theorem dX5_hexagonFits_6 : decode cX5_hexagonFits 6 = .ok (.bipush 8, 2) := by decide +kernel
theorem dX5_hexagonFits_8 : decode cX5_hexagonFits 8 = .ok (.if_icmp .ge 29, 3) := by decide +kernel
theorem dX5_hexagonFits_11 : decode cX5_hexagonFits 11 = .ok (.iload_n 1, 1) := by decide +kernel
theorem dX5_hexagonFits_12 : decode cX5_hexagonFits 12 = .ok (.iconst 1, 1) := by decide +kernel
theorem dX5_hexagonFits_13 : decode cX5_hexagonFits 13 = .ok (.if_icmp .lt 24, 3) := by decide +kernel
theorem dX5_hexagonFits_16 : decode cX5_hexagonFits 16 = .ok (.iload_n 1, 1) := by decide +kernel
theorem dX5_hexagonFits_17 : decode cX5_hexagonFits 17 = .ok (.bipush 8, 2) := by decide +kernel
theorem dX5_hexagonFits_19 : decode cX5_hexagonFits 19 = .ok (.if_icmp .ge 18, 3) := by decide +kernel
theorem dX5_hexagonFits_22 : decode cX5_hexagonFits 22 = .ok (.iload_n 2, 1) := by decide +kernel
theorem dX5_hexagonFits_23 : decode cX5_hexagonFits 23 = .ok (.iconst 1, 1) := by decide +kernel
theorem dX5_hexagonFits_24 : decode cX5_hexagonFits 24 = .ok (.if_icmp .lt 13, 3) := by decide +kernel
theorem dX5_hexagonFits_27 : decode cX5_hexagonFits 27 = .ok (.iload_n 2, 1) := by decide +kernel
theorem dX5_hexagonFits_28 : decode cX5_hexagonFits 28 = .ok (.bipush 8, 2) := by decide +kernel
theorem dX5_hexagonFits_30 : decode cX5_hexagonFits 30 = .ok (.if_icmp .ge 7, 3) := by decide +kernel
theorem dX5_hexagonFits_33 : decode cX5_hexagonFits 33 = .ok (.iconst 1, 1) := by decide +kernel
theorem dX5_hexagonFits_34 : decode cX5_hexagonFits 34 = .ok (.goto 4, 3) := by decide +kernel
theorem dX5_hexagonFits_37 : decode cX5_hexagonFits 37 = .ok (.iconst 0, 1) := by decide +kernel
theorem dX5_hexagonFits_38 : decode cX5_hexagonFits 38 = .ok (.istore_n 3, 1) := by decide +kernel
theorem dX5_hexagonFits_39 : decode cX5_hexagonFits 39 = .ok (.iload_n 3, 1) := by decide +kernel
theorem dX5_hexagonFits_40 : decode cX5_hexagonFits 40 = .ok (.ifCond .eq 23, 3) := by decide +kernel
theorem dX5_hexagonFits_43 : decode cX5_hexagonFits 43 = .ok (.iload_n 0, 1) := by decide +kernel
theorem dX5_hexagonFits_44 : decode cX5_hexagonFits 44 = .ok (.iload_n 2, 1) := by decide +kernel
theorem dX5_hexagonFits_45 : decode cX5_hexagonFits 45 = .ok (.iadd, 1) := by decide +kernel
theorem dX5_hexagonFits_46 : decode cX5_hexagonFits 46 = .ok (.bipush 8, 2) := by decide +kernel
theorem dX5_hexagonFits_48 : decode cX5_hexagonFits 48 = .ok (.if_icmp .gt 15, 3) := by decide +kernel
theorem dX5_hexagonFits_51 : decode cX5_hexagonFits 51 = .ok (.iload_n 1, 1) := by decide +kernel
theorem dX5_hexagonFits_52 : decode cX5_hexagonFits 52 = .ok (.iload_n 2, 1) := by decide +kernel
theorem dX5_hexagonFits_53 : decode cX5_hexagonFits 53 = .ok (.iadd, 1) := by decide +kernel
theorem dX5_hexagonFits_54 : decode cX5_hexagonFits 54 = .ok (.bipush 8, 2) := by decide +kernel
theorem dX5_hexagonFits_56 : decode cX5_hexagonFits 56 = .ok (.if_icmp .gt 7, 3) := by decide +kernel
theorem dX5_hexagonFits_59 : decode cX5_hexagonFits 59 = .ok (.iconst 1, 1) := by decide +kernel
theorem dX5_hexagonFits_60 : decode cX5_hexagonFits 60 = .ok (.goto 4, 3) := by decide +kernel
theorem dX5_hexagonFits_63 : decode cX5_hexagonFits 63 = .ok (.iconst 0, 1) := by decide +kernel
theorem dX5_hexagonFits_64 : decode cX5_hexagonFits 64 = .ok (.ireturn, 1) := by decide +kernel
def f_X5_hexagonFits_64 (s0 : Int32) (σ : St) : Option (Int32 × St) :=
  gz s0 <|
  some (s0, σ)
set_option maxRecDepth 100000 in
set_option maxHeartbeats 4000000 in
theorem b_X5_hexagonFits_64 {g : Geo} {x : Cx} (C : Ok g x cX5_hexagonFits RX5 4 (some .boolean) rm_X5_hexagonFits) : ∀ (s0 : Int32) (σ : St) (r : Int32) (σ' : St), f_X5_hexagonFits_64 s0 σ = some (r, σ') → V g x (qm g x (some (.int r)) σ') 4 σ [] [.int s0] 64 := by
  intro s0 σ r σ' h
  unfold f_X5_hexagonFits_64 at h
  obtain ⟨hz, h⟩ := gz_some h
  cases h
  exact v_zret C hz dX5_hexagonFits_64
def f_X5_hexagonFits_63 (σ : St) : Option (Int32 × St) :=
  f_X5_hexagonFits_64 (0 : Int32) σ
set_option maxRecDepth 100000 in
set_option maxHeartbeats 4000000 in
theorem b_X5_hexagonFits_63 {g : Geo} {x : Cx} (C : Ok g x cX5_hexagonFits RX5 4 (some .boolean) rm_X5_hexagonFits) : ∀ (σ : St) (r : Int32) (σ' : St), f_X5_hexagonFits_63 σ = some (r, σ') → V g x (qm g x (some (.int r)) σ') 4 σ [] [] 63 := by
  intro σ r σ' h
  unfold f_X5_hexagonFits_63 at h
  refine v_iconst C (v := (0 : Int32)) dX5_hexagonFits_63 (by decide) ?_
  refine V.sub (lv' := []) [] rfl ?_
  exact b_X5_hexagonFits_64 C _  _ _ _ h
def f_X5_hexagonFits_38 (x0 : Int32) (x1 : Int32) (x2 : Int32) (s0 : Int32) (σ : St) : Option (Int32 × St) :=
  if s0 = 0 then
    f_X5_hexagonFits_63 σ
  else
    if (8 : Int32) < (x0 + x2) then
      f_X5_hexagonFits_63 σ
    else
      if (8 : Int32) < (x1 + x2) then
        f_X5_hexagonFits_63 σ
      else
        f_X5_hexagonFits_64 (1 : Int32) σ
set_option maxRecDepth 100000 in
set_option maxHeartbeats 4000000 in
theorem b_X5_hexagonFits_38 {g : Geo} {x : Cx} (C : Ok g x cX5_hexagonFits RX5 4 (some .boolean) rm_X5_hexagonFits) : ∀ (x0 : Int32) (x1 : Int32) (x2 : Int32) (s0 : Int32) (σ : St) (r : Int32) (σ' : St), f_X5_hexagonFits_38 x0 x1 x2 s0 σ = some (r, σ') → V g x (qm g x (some (.int r)) σ') 4 σ [(0, .int x0), (1, .int x1), (2, .int x2)] [.int s0] 38 := by
  intro x0 x1 x2 s0 σ r σ' h
  unfold f_X5_hexagonFits_38 at h
  refine v_istore_n C (lv' := [(3, .int _), (0, .int _), (1, .int _), (2, .int _)]) dX5_hexagonFits_38 rfl (by decide) rfl ?_
  refine v_iload_n C dX5_hexagonFits_39 rfl 0 rfl ?_
  refine v_if_eq C (tgt := 63) dX5_hexagonFits_40 (by decide) (fun q3 => ?_) (fun q3 => ?_)
  · rw [if_pos q3] at h
    refine V.sub (lv' := []) [] rfl ?_
    exact b_X5_hexagonFits_63 C  _ _ _ h
  · rw [if_neg q3] at h
    refine v_iload_n C dX5_hexagonFits_43 rfl 1 rfl ?_
    refine v_iload_n C dX5_hexagonFits_44 rfl 3 rfl ?_
    refine v_iadd C dX5_hexagonFits_45 ?_
    refine v_bipush C (v := (8 : Int32)) dX5_hexagonFits_46 (by decide) ?_
    refine v_icmp_gt C (tgt := 63) dX5_hexagonFits_48 (by decide) (fun q2 => ?_) (fun q2 => ?_)
    · rw [if_pos q2] at h
      refine V.sub (lv' := []) [] rfl ?_
      exact b_X5_hexagonFits_63 C  _ _ _ h
    · rw [if_neg q2] at h
      refine v_iload_n C dX5_hexagonFits_51 rfl 2 rfl ?_
      refine v_iload_n C dX5_hexagonFits_52 rfl 3 rfl ?_
      refine v_iadd C dX5_hexagonFits_53 ?_
      refine v_bipush C (v := (8 : Int32)) dX5_hexagonFits_54 (by decide) ?_
      refine v_icmp_gt C (tgt := 63) dX5_hexagonFits_56 (by decide) (fun q1 => ?_) (fun q1 => ?_)
      · rw [if_pos q1] at h
        refine V.sub (lv' := []) [] rfl ?_
        exact b_X5_hexagonFits_63 C  _ _ _ h
      · rw [if_neg q1] at h
        refine v_iconst C (v := (1 : Int32)) dX5_hexagonFits_59 (by decide) ?_
        refine v_goto C (tgt := 64) dX5_hexagonFits_60 (by decide) ?_
        refine V.sub (lv' := []) [] rfl ?_
        exact b_X5_hexagonFits_64 C _  _ _ _ h
def f_X5_hexagonFits_37 (x0 : Int32) (x1 : Int32) (x2 : Int32) (σ : St) : Option (Int32 × St) :=
  f_X5_hexagonFits_38 x0 x1 x2 (0 : Int32) σ
set_option maxRecDepth 100000 in
set_option maxHeartbeats 4000000 in
theorem b_X5_hexagonFits_37 {g : Geo} {x : Cx} (C : Ok g x cX5_hexagonFits RX5 4 (some .boolean) rm_X5_hexagonFits) : ∀ (x0 : Int32) (x1 : Int32) (x2 : Int32) (σ : St) (r : Int32) (σ' : St), f_X5_hexagonFits_37 x0 x1 x2 σ = some (r, σ') → V g x (qm g x (some (.int r)) σ') 4 σ [(0, .int x0), (1, .int x1), (2, .int x2)] [] 37 := by
  intro x0 x1 x2 σ r σ' h
  unfold f_X5_hexagonFits_37 at h
  refine v_iconst C (v := (0 : Int32)) dX5_hexagonFits_37 (by decide) ?_
  refine V.sub (lv' := [(0, .int _), (1, .int _), (2, .int _)]) [0, 1, 2] rfl ?_
  exact b_X5_hexagonFits_38 C _ _ _ _  _ _ _ h
def f_X5_hexagonFits (a1 : Int32) (a2 : Int32) (a3 : Int32) (σ : St) : Option (Int32 × St) :=
  if a1 < (1 : Int32) then
    f_X5_hexagonFits_37 a1 a2 a3 σ
  else
    if (8 : Int32) ≤ a1 then
      f_X5_hexagonFits_37 a1 a2 a3 σ
    else
      if a2 < (1 : Int32) then
        f_X5_hexagonFits_37 a1 a2 a3 σ
      else
        if (8 : Int32) ≤ a2 then
          f_X5_hexagonFits_37 a1 a2 a3 σ
        else
          if a3 < (1 : Int32) then
            f_X5_hexagonFits_37 a1 a2 a3 σ
          else
            if (8 : Int32) ≤ a3 then
              f_X5_hexagonFits_37 a1 a2 a3 σ
            else
              f_X5_hexagonFits_38 a1 a2 a3 (1 : Int32) σ
set_option maxRecDepth 100000 in
set_option maxHeartbeats 4000000 in
theorem c_X5_hexagonFits {g : Geo} {a1 : Int32} {a2 : Int32} {a3 : Int32} {σ : St} {r : Int32} {σ' : St} (h : f_X5_hexagonFits a1 a2 a3 σ = some (r, σ')) : Ct g yX5_hexagonFits cX5_hexagonFits 4 (some .boolean) rm_X5_hexagonFits [.int a1, .int a2, .int a3] σ (some (.int r)) σ' := by
  refine ct_of (own := RX5) (by decide) rfl (Nat.le_of_ble_eq_true rfl) (fun x C => ?_) ⟨rfl, rfl⟩
  show V g x _ 4 σ [(0, .int a1), (1, .int a2), (2, .int a3)] [] 0
  unfold f_X5_hexagonFits at h
  refine v_iload_n C dX5_hexagonFits_0 rfl 0 rfl ?_
  refine v_iconst C (v := (1 : Int32)) dX5_hexagonFits_1 (by decide) ?_
  refine v_icmp_lt C (tgt := 37) dX5_hexagonFits_2 (by decide) (fun q6 => ?_) (fun q6 => ?_)
  · rw [if_pos q6] at h
    refine V.sub (lv' := [(0, .int _), (1, .int _), (2, .int _)]) [0, 1, 2] rfl ?_
    exact b_X5_hexagonFits_37 C _ _ _  _ _ _ h
  · rw [if_neg q6] at h
    refine v_iload_n C dX5_hexagonFits_5 rfl 0 rfl ?_
    refine v_bipush C (v := (8 : Int32)) dX5_hexagonFits_6 (by decide) ?_
    refine v_icmp_ge C (tgt := 37) dX5_hexagonFits_8 (by decide) (fun q5 => ?_) (fun q5 => ?_)
    · rw [if_pos q5] at h
      refine V.sub (lv' := [(0, .int _), (1, .int _), (2, .int _)]) [0, 1, 2] rfl ?_
      exact b_X5_hexagonFits_37 C _ _ _  _ _ _ h
    · rw [if_neg q5] at h
      refine v_iload_n C dX5_hexagonFits_11 rfl 1 rfl ?_
      refine v_iconst C (v := (1 : Int32)) dX5_hexagonFits_12 (by decide) ?_
      refine v_icmp_lt C (tgt := 37) dX5_hexagonFits_13 (by decide) (fun q4 => ?_) (fun q4 => ?_)
      · rw [if_pos q4] at h
        refine V.sub (lv' := [(0, .int _), (1, .int _), (2, .int _)]) [0, 1, 2] rfl ?_
        exact b_X5_hexagonFits_37 C _ _ _  _ _ _ h
      · rw [if_neg q4] at h
        refine v_iload_n C dX5_hexagonFits_16 rfl 1 rfl ?_
        refine v_bipush C (v := (8 : Int32)) dX5_hexagonFits_17 (by decide) ?_
        refine v_icmp_ge C (tgt := 37) dX5_hexagonFits_19 (by decide) (fun q3 => ?_) (fun q3 => ?_)
        · rw [if_pos q3] at h
          refine V.sub (lv' := [(0, .int _), (1, .int _), (2, .int _)]) [0, 1, 2] rfl ?_
          exact b_X5_hexagonFits_37 C _ _ _  _ _ _ h
        · rw [if_neg q3] at h
          refine v_iload_n C dX5_hexagonFits_22 rfl 2 rfl ?_
          refine v_iconst C (v := (1 : Int32)) dX5_hexagonFits_23 (by decide) ?_
          refine v_icmp_lt C (tgt := 37) dX5_hexagonFits_24 (by decide) (fun q2 => ?_) (fun q2 => ?_)
          · rw [if_pos q2] at h
            refine V.sub (lv' := [(0, .int _), (1, .int _), (2, .int _)]) [0, 1, 2] rfl ?_
            exact b_X5_hexagonFits_37 C _ _ _  _ _ _ h
          · rw [if_neg q2] at h
            refine v_iload_n C dX5_hexagonFits_27 rfl 2 rfl ?_
            refine v_bipush C (v := (8 : Int32)) dX5_hexagonFits_28 (by decide) ?_
            refine v_icmp_ge C (tgt := 37) dX5_hexagonFits_30 (by decide) (fun q1 => ?_) (fun q1 => ?_)
            · rw [if_pos q1] at h
              refine V.sub (lv' := [(0, .int _), (1, .int _), (2, .int _)]) [0, 1, 2] rfl ?_
              exact b_X5_hexagonFits_37 C _ _ _  _ _ _ h
            · rw [if_neg q1] at h
              refine v_iconst C (v := (1 : Int32)) dX5_hexagonFits_33 (by decide) ?_
              refine v_goto C (tgt := 38) dX5_hexagonFits_34 (by decide) ?_
              refine V.sub (lv' := [(0, .int _), (1, .int _), (2, .int _)]) [0, 1, 2] rfl ?_
              exact b_X5_hexagonFits_38 C _ _ _ _  _ _ _ h
theorem dX5_hexagon_0 : decode cX5_hexagon 0 = .ok (.iload_n 1, 1) := by decide +kernel
theorem dX5_hexagon_1 : decode cX5_hexagon 1 = .ok (.iload_n 2, 1) := by decide +kernel
theorem dX5_hexagon_2 : decode cX5_hexagon 2 = .ok (.iload_n 3, 1) := by decide +kernel
theorem dX5_hexagon_3 : decode cX5_hexagon 3 = .ok (.invokestatic 70, 3) := by decide +kernel
theorem dX5_hexagon_6 : decode cX5_hexagon 6 = .ok (.ifCond .ne 6, 3) := by decide +kernel
theorem dX5_hexagon_9 : decode cX5_hexagon 9 = .ok (.ldc 59, 2) := by decide +kernel
theorem dX5_hexagon_11 : decode cX5_hexagon 11 = .ok (.ireturn, 1) := by decide +kernel
theorem dX5_hexagon_12 : decode cX5_hexagon 12 = .ok (.aload_n 0, 1) := by decide +kernel
theorem dX5_hexagon_13 : decode cX5_hexagon 13 = .ok (.getfield 12, 3) := by decide +kernel
theorem dX5_hexagon_16 : decode cX5_hexagon 16 = .ok (.iload_n 1, 1) := by decide +kernel
theorem dX5_hexagon_17 : decode cX5_hexagon 17 = .ok (.iload_n 2, 1) := by decide +kernel
theorem dX5_hexagon_18 : decode cX5_hexagon 18 = .ok (.iload_n 3, 1) := by decide +kernel
theorem dX5_hexagon_19 : decode cX5_hexagon 19 = .ok (.invokevirtual 74, 3) := by decide +kernel
theorem dX5_hexagon_22 : decode cX5_hexagon 22 = .ok (.aload_n 0, 1) := by decide +kernel
theorem dX5_hexagon_23 : decode cX5_hexagon 23 = .ok (.invokevirtual 60, 3) := by decide +kernel
theorem dX5_hexagon_26 : decode cX5_hexagon 26 = .ok (.aload_n 0, 1) := by decide +kernel
theorem dX5_hexagon_27 : decode cX5_hexagon 27 = .ok (.invokevirtual 63, 3) := by decide +kernel
theorem dX5_hexagon_30 : decode cX5_hexagon 30 = .ok (.aload_n 0, 1) := by decide +kernel
theorem dX5_hexagon_31 : decode cX5_hexagon 31 = .ok (.getfield 12, 3) := by decide +kernel
theorem dX5_hexagon_34 : decode cX5_hexagon 34 = .ok (.getfield 78, 3) := by decide +kernel
theorem dX5_hexagon_37 : decode cX5_hexagon 37 = .ok (.invokestatic 82, 3) := by decide +kernel
theorem dX5_hexagon_40 : decode cX5_hexagon 40 = .ok (.aload_n 0, 1) := by decide +kernel
theorem dX5_hexagon_41 : decode cX5_hexagon 41 = .ok (.getfield 12, 3) := by decide +kernel
theorem dX5_hexagon_44 : decode cX5_hexagon 44 = .ok (.getfield 88, 3) := by decide +kernel
theorem dX5_hexagon_47 : decode cX5_hexagon 47 = .ok (.invokestatic 82, 3) := by decide +kernel
theorem dX5_hexagon_50 : decode cX5_hexagon 50 = .ok (.iadd, 1) := by decide +kernel
theorem dX5_hexagon_51 : decode cX5_hexagon 51 = .ok (.ireturn, 1) := by decide +kernel
def f_X5_hexagon (a1 : Int32) (a2 : Int32) (a3 : Int32) (σ : St) : Option (Int32 × St) :=
  bd (f_X5_hexagonFits a1 a2 a3 σ) fun v1 σ2 =>
  if v1 = 0 then
    some ((-900002 : Int32), σ2)
  else
    bd (f_X1_shapeHexagon a1 a2 a3 σ2) fun _ σ4 =>
    bd (f_X5_forgetWeights σ4) fun _ σ6 =>
    bd (f_X5_forgetGround σ6) fun _ σ8 =>
    bd (f_J13_bitCount_95d88 (gl σ8 1 3) σ8) fun v9 σ10 =>
    bd (f_J13_bitCount_95d88 (gl σ10 1 4) σ10) fun v11 σ12 =>
    some ((v9 + v11), σ12)
set_option maxRecDepth 100000 in
set_option maxHeartbeats 4000000 in
theorem c_X5_hexagon {g : Geo} {a1 : Int32} {a2 : Int32} {a3 : Int32} {σ : St} {r : Int32} {σ' : St} (h : f_X5_hexagon a1 a2 a3 σ = some (r, σ')) : Ct g yX5_hexagon cX5_hexagon 4 (some .int) rm_X5_hexagon [.ref (g.1 0), .int a1, .int a2, .int a3] σ (some (.int r)) σ' := by
  refine ct_of (own := RX5) (by decide) rfl (Nat.le_of_ble_eq_true rfl) (fun x C => ?_) ⟨rfl, rfl⟩
  show V g x _ 4 σ [(0, .ref (g.1 0)), (1, .int a1), (2, .int a2), (3, .int a3)] [] 0
  unfold f_X5_hexagon at h
  refine v_iload_n C dX5_hexagon_0 rfl 1 rfl ?_
  refine v_iload_n C dX5_hexagon_1 rfl 2 rfl ?_
  refine v_iload_n C dX5_hexagon_2 rfl 3 rfl ?_
  obtain ⟨v1, σ2, cσ2, h⟩ := bd_some h
  refine callSi C (c_X5_hexagonFits cσ2) km_X5_hexagonFits ks_X5_hexagonFits ml_RX5_70 rfl rfl (by decide) (Nat.le_of_ble_eq_true rfl) dX5_hexagon_3 ?_
  refine v_if_ne C (tgt := 12) dX5_hexagon_6 (by decide) (fun q13 => ?_) (fun q13 => ?_)
  · rw [if_neg q13] at h
    refine v_aload_n C dX5_hexagon_12 rfl 0 rfl ?_
    refine v_getR C (p' := 1) fl_RX5_12 rfl rfl dX5_hexagon_13 ?_
    refine v_iload_n C dX5_hexagon_16 rfl 1 rfl ?_
    refine v_iload_n C dX5_hexagon_17 rfl 2 rfl ?_
    refine v_iload_n C dX5_hexagon_18 rfl 3 rfl ?_
    obtain ⟨v3, σ4, cσ4, h⟩ := bd_some h
    refine callVv C (c_X1_shapeHexagon cσ4) km_X1_shapeHexagon kv_X1_shapeHexagon rfl ml_RX5_74 rfl rfl (by decide) (Nat.le_of_ble_eq_true rfl) dX5_hexagon_19 ?_
    refine v_aload_n C dX5_hexagon_22 rfl 0 rfl ?_
    obtain ⟨v5, σ6, cσ6, h⟩ := bd_some h
    refine callVv C (c_X5_forgetWeights cσ6) km_X5_forgetWeights kv_X5_forgetWeights rfl ml_RX5_60 rfl rfl (by decide) (Nat.le_of_ble_eq_true rfl) dX5_hexagon_23 ?_
    refine v_aload_n C dX5_hexagon_26 rfl 0 rfl ?_
    obtain ⟨v7, σ8, cσ8, h⟩ := bd_some h
    refine callVv C (c_X5_forgetGround cσ8) km_X5_forgetGround kv_X5_forgetGround rfl ml_RX5_63 rfl rfl (by decide) (Nat.le_of_ble_eq_true rfl) dX5_hexagon_27 ?_
    refine v_aload_n C dX5_hexagon_30 rfl 0 rfl ?_
    refine v_getR C (p' := 1) fl_RX5_12 rfl rfl dX5_hexagon_31 ?_
    refine v_getL C fl_RX5_78 rfl dX5_hexagon_34 ?_
    obtain ⟨v9, σ10, cσ10, h⟩ := bd_some h
    refine callSi C (c_J13_bitCount_95d88 cσ10) km_J13_bitCount_95d88 ks_J13_bitCount_95d88 ml_RX5_82 rfl rfl (by decide) (Nat.le_of_ble_eq_true rfl) dX5_hexagon_37 ?_
    refine v_aload_n C dX5_hexagon_40 rfl 0 rfl ?_
    refine v_getR C (p' := 1) fl_RX5_12 rfl rfl dX5_hexagon_41 ?_
    refine v_getL C fl_RX5_88 rfl dX5_hexagon_44 ?_
    obtain ⟨v11, σ12, cσ12, h⟩ := bd_some h
    refine callSi C (c_J13_bitCount_95d88 cσ12) km_J13_bitCount_95d88 ks_J13_bitCount_95d88 ml_RX5_82 rfl rfl (by decide) (Nat.le_of_ble_eq_true rfl) dX5_hexagon_47 ?_
    refine v_iadd C dX5_hexagon_50 ?_
    cases h
    exact v_iret C dX5_hexagon_51
  · rw [if_pos q13] at h
    refine v_ldc C (v := (-900002 : Int32)) con_RX5_59 dX5_hexagon_9 ?_
    cases h
    exact v_iret C dX5_hexagon_11
theorem dX5_set_0 : decode cX5_set 0 = .ok (.aload_n 0, 1) := by decide +kernel
theorem dX5_set_1 : decode cX5_set 1 = .ok (.getfield 12, 3) := by decide +kernel
theorem dX5_set_4 : decode cX5_set 4 = .ok (.iload_n 1, 1) := by decide +kernel
theorem dX5_set_5 : decode cX5_set 5 = .ok (.invokevirtual 91, 3) := by decide +kernel
theorem dX5_set_8 : decode cX5_set 8 = .ok (.ifCond .ne 6, 3) := by decide +kernel
theorem dX5_set_11 : decode cX5_set 11 = .ok (.ldc 95, 2) := by decide +kernel
theorem dX5_set_13 : decode cX5_set 13 = .ok (.ireturn, 1) := by decide +kernel
theorem dX5_set_14 : decode cX5_set 14 = .ok (.aload_n 0, 1) := by decide +kernel
theorem dX5_set_15 : decode cX5_set 15 = .ok (.getfield 12, 3) := by decide +kernel
theorem dX5_set_18 : decode cX5_set 18 = .ok (.iload_n 1, 1) := by decide +kernel
theorem dX5_set_19 : decode cX5_set 19 = .ok (.invokevirtual 96, 3) := by decide +kernel
theorem dX5_set_22 : decode cX5_set 22 = .ok (.istore_n 3, 1) := by decide +kernel
theorem dX5_set_23 : decode cX5_set 23 = .ok (.iload_n 3, 1) := by decide +kernel
theorem dX5_set_24 : decode cX5_set 24 = .ok (.iload_n 2, 1) := by decide +kernel
theorem dX5_set_25 : decode cX5_set 25 = .ok (.if_icmp .eq 15, 3) := by decide +kernel
theorem dX5_set_28 : decode cX5_set 28 = .ok (.aload_n 0, 1) := by decide +kernel
theorem dX5_set_29 : decode cX5_set 29 = .ok (.getfield 12, 3) := by decide +kernel
theorem dX5_set_32 : decode cX5_set 32 = .ok (.iload_n 1, 1) := by decide +kernel
theorem dX5_set_33 : decode cX5_set 33 = .ok (.invokevirtual 99, 3) := by decide +kernel
theorem dX5_set_36 : decode cX5_set 36 = .ok (.aload_n 0, 1) := by decide +kernel
theorem dX5_set_37 : decode cX5_set 37 = .ok (.invokevirtual 63, 3) := by decide +kernel
theorem dX5_set_40 : decode cX5_set 40 = .ok (.iload_n 3, 1) := by decide +kernel
theorem dX5_set_41 : decode cX5_set 41 = .ok (.ifCond .eq 7, 3) := by decide +kernel
theorem dX5_set_44 : decode cX5_set 44 = .ok (.iconst 1, 1) := by decide +kernel
theorem dX5_set_45 : decode cX5_set 45 = .ok (.goto 4, 3) := by decide +kernel
theorem dX5_set_48 : decode cX5_set 48 = .ok (.iconst 0, 1) := by decide +kernel
theorem dX5_set_49 : decode cX5_set 49 = .ok (.ireturn, 1) := by decide +kernel
def f_X5_set_49 (s0 : Int32) (σ : St) : Option (Int32 × St) :=
  some (s0, σ)
set_option maxRecDepth 100000 in
set_option maxHeartbeats 4000000 in
theorem b_X5_set_49 {g : Geo} {x : Cx} (C : Ok g x cX5_set RX5 4 (some .int) rm_X5_set) : ∀ (s0 : Int32) (σ : St) (r : Int32) (σ' : St), f_X5_set_49 s0 σ = some (r, σ') → V g x (qm g x (some (.int r)) σ') 4 σ [] [.int s0] 49 := by
  intro s0 σ r σ' h
  unfold f_X5_set_49 at h
  cases h
  exact v_iret C dX5_set_49
def f_X5_set_40 (x3 : Int32) (σ : St) : Option (Int32 × St) :=
  if x3 = 0 then
    f_X5_set_49 (0 : Int32) σ
  else
    f_X5_set_49 (1 : Int32) σ
set_option maxRecDepth 100000 in
set_option maxHeartbeats 4000000 in
theorem b_X5_set_40 {g : Geo} {x : Cx} (C : Ok g x cX5_set RX5 4 (some .int) rm_X5_set) : ∀ (x3 : Int32) (σ : St) (r : Int32) (σ' : St), f_X5_set_40 x3 σ = some (r, σ') → V g x (qm g x (some (.int r)) σ') 4 σ [(3, .int x3)] [] 40 := by
  intro x3 σ r σ' h
  unfold f_X5_set_40 at h
  refine v_iload_n C dX5_set_40 rfl 0 rfl ?_
  refine v_if_eq C (tgt := 48) dX5_set_41 (by decide) (fun q1 => ?_) (fun q1 => ?_)
  · rw [if_pos q1] at h
    refine v_iconst C (v := (0 : Int32)) dX5_set_48 (by decide) ?_
    refine V.sub (lv' := []) [] rfl ?_
    exact b_X5_set_49 C _  _ _ _ h
  · rw [if_neg q1] at h
    refine v_iconst C (v := (1 : Int32)) dX5_set_44 (by decide) ?_
    refine v_goto C (tgt := 49) dX5_set_45 (by decide) ?_
    refine V.sub (lv' := []) [] rfl ?_
    exact b_X5_set_49 C _  _ _ _ h
def f_X5_set (a1 : Int32) (a2 : Int32) (σ : St) : Option (Int32 × St) :=
  bd (f_X1_hasTriangle a1 σ) fun v1 σ2 =>
  if v1 = 0 then
    some ((-900001 : Int32), σ2)
  else
    bd (f_X1_holds a1 σ2) fun v3 σ4 =>
    if v3 = a2 then
      f_X5_set_40 v3 σ4
    else
      bd (f_X1_change a1 σ4) fun _ σ6 =>
      bd (f_X5_forgetGround σ6) fun _ σ8 =>
      f_X5_set_40 v3 σ8
set_option maxRecDepth 100000 in
set_option maxHeartbeats 4000000 in
theorem c_X5_set {g : Geo} {a1 : Int32} {a2 : Int32} {σ : St} {r : Int32} {σ' : St} (h : f_X5_set a1 a2 σ = some (r, σ')) : Ct g yX5_set cX5_set 4 (some .int) rm_X5_set [.ref (g.1 0), .int a1, .int a2] σ (some (.int r)) σ' := by
  refine ct_of (own := RX5) (by decide) rfl (Nat.le_of_ble_eq_true rfl) (fun x C => ?_) ⟨rfl, rfl⟩
  show V g x _ 4 σ [(0, .ref (g.1 0)), (1, .int a1), (2, .int a2)] [] 0
  unfold f_X5_set at h
  refine v_aload_n C dX5_set_0 rfl 0 rfl ?_
  refine v_getR C (p' := 1) fl_RX5_12 rfl rfl dX5_set_1 ?_
  refine v_iload_n C dX5_set_4 rfl 1 rfl ?_
  obtain ⟨v1, σ2, cσ2, h⟩ := bd_some h
  refine callVi C (c_X1_hasTriangle cσ2) km_X1_hasTriangle kv_X1_hasTriangle rfl ml_RX5_91 rfl rfl (by decide) (Nat.le_of_ble_eq_true rfl) dX5_set_5 ?_
  refine v_if_ne C (tgt := 14) dX5_set_8 (by decide) (fun q10 => ?_) (fun q10 => ?_)
  · rw [if_neg q10] at h
    refine v_aload_n C dX5_set_14 rfl 0 rfl ?_
    refine v_getR C (p' := 1) fl_RX5_12 rfl rfl dX5_set_15 ?_
    refine v_iload_n C dX5_set_18 rfl 1 rfl ?_
    obtain ⟨v3, σ4, cσ4, h⟩ := bd_some h
    refine callVi C (c_X1_holds cσ4) km_X1_holds kv_X1_holds rfl ml_RX5_96 rfl rfl (by decide) (Nat.le_of_ble_eq_true rfl) dX5_set_19 ?_
    refine v_istore_n C (lv' := [(3, .int _), (0, .ref _), (1, .int _), (2, .int _)]) dX5_set_22 rfl (by decide) rfl ?_
    refine v_iload_n C dX5_set_23 rfl 0 rfl ?_
    refine v_iload_n C dX5_set_24 rfl 3 rfl ?_
    refine v_icmp_eq C (tgt := 40) dX5_set_25 (by decide) (fun q9 => ?_) (fun q9 => ?_)
    · rw [if_pos q9] at h
      refine V.sub (lv' := [(3, .int _)]) [0] rfl ?_
      exact b_X5_set_40 C _  _ _ _ h
    · rw [if_neg q9] at h
      refine v_aload_n C dX5_set_28 rfl 1 rfl ?_
      refine v_getR C (p' := 1) fl_RX5_12 rfl rfl dX5_set_29 ?_
      refine v_iload_n C dX5_set_32 rfl 2 rfl ?_
      obtain ⟨v5, σ6, cσ6, h⟩ := bd_some h
      refine callVv C (c_X1_change cσ6) km_X1_change kv_X1_change rfl ml_RX5_99 rfl rfl (by decide) (Nat.le_of_ble_eq_true rfl) dX5_set_33 ?_
      refine v_aload_n C dX5_set_36 rfl 1 rfl ?_
      obtain ⟨v7, σ8, cσ8, h⟩ := bd_some h
      refine callVv C (c_X5_forgetGround cσ8) km_X5_forgetGround kv_X5_forgetGround rfl ml_RX5_63 rfl rfl (by decide) (Nat.le_of_ble_eq_true rfl) dX5_set_37 ?_
      refine V.sub (lv' := [(3, .int _)]) [0] rfl ?_
      exact b_X5_set_40 C _  _ _ _ h
  · rw [if_pos q10] at h
    refine v_ldc C (v := (-900001 : Int32)) con_RX5_95 dX5_set_11 ?_
    cases h
    exact v_iret C dX5_set_13
theorem dX5_isIn_0 : decode cX5_isIn 0 = .ok (.aload_n 0, 1) := by decide +kernel
theorem dX5_isIn_1 : decode cX5_isIn 1 = .ok (.getfield 12, 3) := by decide +kernel
theorem dX5_isIn_4 : decode cX5_isIn 4 = .ok (.iload_n 1, 1) := by decide +kernel
theorem dX5_isIn_5 : decode cX5_isIn 5 = .ok (.invokevirtual 91, 3) := by decide +kernel
theorem dX5_isIn_8 : decode cX5_isIn 8 = .ok (.ifCond .ne 6, 3) := by decide +kernel
theorem dX5_isIn_11 : decode cX5_isIn 11 = .ok (.ldc 95, 2) := by decide +kernel
theorem dX5_isIn_13 : decode cX5_isIn 13 = .ok (.ireturn, 1) := by decide +kernel
theorem dX5_isIn_14 : decode cX5_isIn 14 = .ok (.aload_n 0, 1) := by decide +kernel
theorem dX5_isIn_15 : decode cX5_isIn 15 = .ok (.getfield 12, 3) := by decide +kernel
theorem dX5_isIn_18 : decode cX5_isIn 18 = .ok (.iload_n 1, 1) := by decide +kernel
theorem dX5_isIn_19 : decode cX5_isIn 19 = .ok (.invokevirtual 96, 3) := by decide +kernel
theorem dX5_isIn_22 : decode cX5_isIn 22 = .ok (.ifCond .eq 7, 3) := by decide +kernel
theorem dX5_isIn_25 : decode cX5_isIn 25 = .ok (.iconst 1, 1) := by decide +kernel
theorem dX5_isIn_26 : decode cX5_isIn 26 = .ok (.goto 4, 3) := by decide +kernel
theorem dX5_isIn_29 : decode cX5_isIn 29 = .ok (.iconst 0, 1) := by decide +kernel
theorem dX5_isIn_30 : decode cX5_isIn 30 = .ok (.ireturn, 1) := by decide +kernel
def f_X5_isIn_30 (s0 : Int32) (σ : St) : Option (Int32 × St) :=
  some (s0, σ)
set_option maxRecDepth 100000 in
set_option maxHeartbeats 4000000 in
theorem b_X5_isIn_30 {g : Geo} {x : Cx} (C : Ok g x cX5_isIn RX5 2 (some .int) rm_X5_isIn) : ∀ (s0 : Int32) (σ : St) (r : Int32) (σ' : St), f_X5_isIn_30 s0 σ = some (r, σ') → V g x (qm g x (some (.int r)) σ') 2 σ [] [.int s0] 30 := by
  intro s0 σ r σ' h
  unfold f_X5_isIn_30 at h
  cases h
  exact v_iret C dX5_isIn_30
def f_X5_isIn (a1 : Int32) (σ : St) : Option (Int32 × St) :=
  bd (f_X1_hasTriangle a1 σ) fun v1 σ2 =>
  if v1 = 0 then
    some ((-900001 : Int32), σ2)
  else
    bd (f_X1_holds a1 σ2) fun v3 σ4 =>
    if v3 = 0 then
      f_X5_isIn_30 (0 : Int32) σ4
    else
      f_X5_isIn_30 (1 : Int32) σ4
set_option maxRecDepth 100000 in
set_option maxHeartbeats 4000000 in
theorem c_X5_isIn {g : Geo} {a1 : Int32} {σ : St} {r : Int32} {σ' : St} (h : f_X5_isIn a1 σ = some (r, σ')) : Ct g yX5_isIn cX5_isIn 2 (some .int) rm_X5_isIn [.ref (g.1 0), .int a1] σ (some (.int r)) σ' := by
  refine ct_of (own := RX5) (by decide) rfl (Nat.le_of_ble_eq_true rfl) (fun x C => ?_) ⟨rfl, rfl⟩
  show V g x _ 2 σ [(0, .ref (g.1 0)), (1, .int a1)] [] 0
  unfold f_X5_isIn at h
  refine v_aload_n C dX5_isIn_0 rfl 0 rfl ?_
  refine v_getR C (p' := 1) fl_RX5_12 rfl rfl dX5_isIn_1 ?_
  refine v_iload_n C dX5_isIn_4 rfl 1 rfl ?_
  obtain ⟨v1, σ2, cσ2, h⟩ := bd_some h
  refine callVi C (c_X1_hasTriangle cσ2) km_X1_hasTriangle kv_X1_hasTriangle rfl ml_RX5_91 rfl rfl (by decide) (Nat.le_of_ble_eq_true rfl) dX5_isIn_5 ?_
  refine v_if_ne C (tgt := 14) dX5_isIn_8 (by decide) (fun q6 => ?_) (fun q6 => ?_)
  · rw [if_neg q6] at h
    refine v_aload_n C dX5_isIn_14 rfl 0 rfl ?_
    refine v_getR C (p' := 1) fl_RX5_12 rfl rfl dX5_isIn_15 ?_
    refine v_iload_n C dX5_isIn_18 rfl 1 rfl ?_
    obtain ⟨v3, σ4, cσ4, h⟩ := bd_some h
    refine callVi C (c_X1_holds cσ4) km_X1_holds kv_X1_holds rfl ml_RX5_96 rfl rfl (by decide) (Nat.le_of_ble_eq_true rfl) dX5_isIn_19 ?_
    refine v_if_eq C (tgt := 29) dX5_isIn_22 (by decide) (fun q5 => ?_) (fun q5 => ?_)
    · rw [if_pos q5] at h
      refine v_iconst C (v := (0 : Int32)) dX5_isIn_29 (by decide) ?_
      refine V.sub (lv' := []) [] rfl ?_
      exact b_X5_isIn_30 C _  _ _ _ h
    · rw [if_neg q5] at h
      refine v_iconst C (v := (1 : Int32)) dX5_isIn_25 (by decide) ?_
      refine v_goto C (tgt := 30) dX5_isIn_26 (by decide) ?_
      refine V.sub (lv' := []) [] rfl ?_
      exact b_X5_isIn_30 C _  _ _ _ h
  · rw [if_pos q6] at h
    refine v_ldc C (v := (-900001 : Int32)) con_RX5_95 dX5_isIn_11 ?_
    cases h
    exact v_iret C dX5_isIn_13
theorem dX5_ups_0 : decode cX5_ups 0 = .ok (.iload_n 1, 1) := by decide +kernel
theorem dX5_ups_1 : decode cX5_ups 1 = .ok (.ifCond .eq 13, 3) := by decide +kernel
theorem dX5_ups_4 : decode cX5_ups 4 = .ok (.aload_n 0, 1) := by decide +kernel
theorem dX5_ups_5 : decode cX5_ups 5 = .ok (.getfield 12, 3) := by decide +kernel
theorem dX5_ups_8 : decode cX5_ups 8 = .ok (.getfield 78, 3) := by decide +kernel
theorem dX5_ups_11 : decode cX5_ups 11 = .ok (.goto 10, 3) := by decide +kernel
theorem dX5_ups_14 : decode cX5_ups 14 = .ok (.aload_n 0, 1) := by decide +kernel
theorem dX5_ups_15 : decode cX5_ups 15 = .ok (.getfield 12, 3) := by decide +kernel
theorem dX5_ups_18 : decode cX5_ups 18 = .ok (.getfield 88, 3) := by decide +kernel
theorem dX5_ups_21 : decode cX5_ups 21 = .ok (.invokestatic 82, 3) := by decide +kernel
theorem dX5_ups_24 : decode cX5_ups 24 = .ok (.ireturn, 1) := by decide +kernel
def f_X5_ups_21 (s0 : Int64) (σ : St) : Option (Int32 × St) :=
  bd (f_J13_bitCount_95d88 s0 σ) fun v1 σ2 =>
  some (v1, σ2)
set_option maxRecDepth 100000 in
set_option maxHeartbeats 4000000 in
theorem b_X5_ups_21 {g : Geo} {x : Cx} (C : Ok g x cX5_ups RX5 2 (some .int) rm_X5_ups) : ∀ (s0 : Int64) (σ : St) (r : Int32) (σ' : St), f_X5_ups_21 s0 σ = some (r, σ') → V g x (qm g x (some (.int r)) σ') 2 σ [] [.long s0] 21 := by
  intro s0 σ r σ' h
  unfold f_X5_ups_21 at h
  obtain ⟨v1, σ2, cσ2, h⟩ := bd_some h
  refine callSi C (c_J13_bitCount_95d88 cσ2) km_J13_bitCount_95d88 ks_J13_bitCount_95d88 ml_RX5_82 rfl rfl (by decide) (Nat.le_of_ble_eq_true rfl) dX5_ups_21 ?_
  cases h
  exact v_iret C dX5_ups_24
def f_X5_ups (a1 : Int32) (σ : St) : Option (Int32 × St) :=
  if a1 = 0 then
    f_X5_ups_21 (gl σ 1 4) σ
  else
    f_X5_ups_21 (gl σ 1 3) σ
set_option maxRecDepth 100000 in
set_option maxHeartbeats 4000000 in
theorem c_X5_ups {g : Geo} {a1 : Int32} {σ : St} {r : Int32} {σ' : St} (h : f_X5_ups a1 σ = some (r, σ')) : Ct g yX5_ups cX5_ups 2 (some .int) rm_X5_ups [.ref (g.1 0), .int a1] σ (some (.int r)) σ' := by
  refine ct_of (own := RX5) (by decide) rfl (Nat.le_of_ble_eq_true rfl) (fun x C => ?_) ⟨rfl, rfl⟩
  show V g x _ 2 σ [(0, .ref (g.1 0)), (1, .int a1)] [] 0
  unfold f_X5_ups at h
  refine v_iload_n C dX5_ups_0 rfl 1 rfl ?_
  refine v_if_eq C (tgt := 14) dX5_ups_1 (by decide) (fun q1 => ?_) (fun q1 => ?_)
  · rw [if_pos q1] at h
    refine v_aload_n C dX5_ups_14 rfl 0 rfl ?_
    refine v_getR C (p' := 1) fl_RX5_12 rfl rfl dX5_ups_15 ?_
    refine v_getL C fl_RX5_88 rfl dX5_ups_18 ?_
    refine V.sub (lv' := []) [] rfl ?_
    exact b_X5_ups_21 C _  _ _ _ h
  · rw [if_neg q1] at h
    refine v_aload_n C dX5_ups_4 rfl 0 rfl ?_
    refine v_getR C (p' := 1) fl_RX5_12 rfl rfl dX5_ups_5 ?_
    refine v_getL C fl_RX5_78 rfl dX5_ups_8 ?_
    refine v_goto C (tgt := 21) dX5_ups_11 (by decide) ?_
    refine V.sub (lv' := []) [] rfl ?_
    exact b_X5_ups_21 C _  _ _ _ h
theorem dX5_size_0 : decode cX5_size 0 = .ok (.iload_n 1, 1) := by decide +kernel
theorem dX5_size_1 : decode cX5_size 1 = .ok (.ifCond .lt 8, 3) := by decide +kernel
theorem dX5_size_4 : decode cX5_size 4 = .ok (.iload_n 1, 1) := by decide +kernel
theorem dX5_size_5 : decode cX5_size 5 = .ok (.iconst 1, 1) := by decide +kernel
theorem dX5_size_6 : decode cX5_size 6 = .ok (.if_icmp .le 6, 3) := by decide +kernel
theorem dX5_size_9 : decode cX5_size 9 = .ok (.ldc 59, 2) := by decide +kernel
theorem dX5_size_11 : decode cX5_size 11 = .ok (.ireturn, 1) := by decide +kernel
theorem dX5_size_12 : decode cX5_size 12 = .ok (.iload_n 1, 1) := by decide +kernel
theorem dX5_size_13 : decode cX5_size 13 = .ok (.ifCond .ne 13, 3) := by decide +kernel
theorem dX5_size_16 : decode cX5_size 16 = .ok (.aload_n 0, 1) := by decide +kernel
theorem dX5_size_17 : decode cX5_size 17 = .ok (.getfield 12, 3) := by decide +kernel
theorem dX5_size_20 : decode cX5_size 20 = .ok (.getfield 103, 3) := by decide +kernel
theorem dX5_size_23 : decode cX5_size 23 = .ok (.goto 10, 3) := by decide +kernel
theorem dX5_size_26 : decode cX5_size 26 = .ok (.aload_n 0, 1) := by decide +kernel
theorem dX5_size_27 : decode cX5_size 27 = .ok (.getfield 12, 3) := by decide +kernel
theorem dX5_size_30 : decode cX5_size 30 = .ok (.getfield 106, 3) := by decide +kernel
theorem dX5_size_33 : decode cX5_size 33 = .ok (.ireturn, 1) := by decide +kernel
def f_X5_size_33 (s0 : Int32) (σ : St) : Option (Int32 × St) :=
  some (s0, σ)
set_option maxRecDepth 100000 in
set_option maxHeartbeats 4000000 in
theorem b_X5_size_33 {g : Geo} {x : Cx} (C : Ok g x cX5_size RX5 2 (some .int) rm_X5_size) : ∀ (s0 : Int32) (σ : St) (r : Int32) (σ' : St), f_X5_size_33 s0 σ = some (r, σ') → V g x (qm g x (some (.int r)) σ') 2 σ [] [.int s0] 33 := by
  intro s0 σ r σ' h
  unfold f_X5_size_33 at h
  cases h
  exact v_iret C dX5_size_33
def f_X5_size_9 (σ : St) : Option (Int32 × St) :=
  some ((-900002 : Int32), σ)
set_option maxRecDepth 100000 in
set_option maxHeartbeats 4000000 in
theorem b_X5_size_9 {g : Geo} {x : Cx} (C : Ok g x cX5_size RX5 2 (some .int) rm_X5_size) : ∀ (σ : St) (r : Int32) (σ' : St), f_X5_size_9 σ = some (r, σ') → V g x (qm g x (some (.int r)) σ') 2 σ [] [] 9 := by
  intro σ r σ' h
  unfold f_X5_size_9 at h
  refine v_ldc C (v := (-900002 : Int32)) con_RX5_59 dX5_size_9 ?_
  cases h
  exact v_iret C dX5_size_11
def f_X5_size (a1 : Int32) (σ : St) : Option (Int32 × St) :=
  if a1 < 0 then
    f_X5_size_9 σ
  else
    if a1 ≤ (1 : Int32) then
      if a1 = 0 then
        f_X5_size_33 (gi σ 1 0) σ
      else
        f_X5_size_33 (gi σ 1 1) σ
    else
      f_X5_size_9 σ
set_option maxRecDepth 100000 in
set_option maxHeartbeats 4000000 in
theorem c_X5_size {g : Geo} {a1 : Int32} {σ : St} {r : Int32} {σ' : St} (h : f_X5_size a1 σ = some (r, σ')) : Ct g yX5_size cX5_size 2 (some .int) rm_X5_size [.ref (g.1 0), .int a1] σ (some (.int r)) σ' := by
  refine ct_of (own := RX5) (by decide) rfl (Nat.le_of_ble_eq_true rfl) (fun x C => ?_) ⟨rfl, rfl⟩
  show V g x _ 2 σ [(0, .ref (g.1 0)), (1, .int a1)] [] 0
  unfold f_X5_size at h
  refine v_iload_n C dX5_size_0 rfl 1 rfl ?_
  refine v_if_lt C (tgt := 9) dX5_size_1 (by decide) (fun q3 => ?_) (fun q3 => ?_)
  · rw [if_pos q3] at h
    refine V.sub (lv' := []) [] rfl ?_
    exact b_X5_size_9 C  _ _ _ h
  · rw [if_neg q3] at h
    refine v_iload_n C dX5_size_4 rfl 1 rfl ?_
    refine v_iconst C (v := (1 : Int32)) dX5_size_5 (by decide) ?_
    refine v_icmp_le C (tgt := 12) dX5_size_6 (by decide) (fun q2 => ?_) (fun q2 => ?_)
    · rw [if_pos q2] at h
      refine v_iload_n C dX5_size_12 rfl 1 rfl ?_
      refine v_if_ne C (tgt := 26) dX5_size_13 (by decide) (fun q1 => ?_) (fun q1 => ?_)
      · rw [if_neg q1] at h
        refine v_aload_n C dX5_size_26 rfl 0 rfl ?_
        refine v_getR C (p' := 1) fl_RX5_12 rfl rfl dX5_size_27 ?_
        refine v_getI C fl_RX5_106 rfl dX5_size_30 ?_
        refine V.sub (lv' := []) [] rfl ?_
        exact b_X5_size_33 C _  _ _ _ h
      · rw [if_pos q1] at h
        refine v_aload_n C dX5_size_16 rfl 0 rfl ?_
        refine v_getR C (p' := 1) fl_RX5_12 rfl rfl dX5_size_17 ?_
        refine v_getI C fl_RX5_103 rfl dX5_size_20 ?_
        refine v_goto C (tgt := 33) dX5_size_23 (by decide) ?_
        refine V.sub (lv' := []) [] rfl ?_
        exact b_X5_size_33 C _  _ _ _ h
    · rw [if_neg q2] at h
      refine V.sub (lv' := []) [] rfl ?_
      exact b_X5_size_9 C  _ _ _ h
theorem dX5_powerIn_0 : decode cX5_powerIn 0 = .ok (.iconst 0, 1) := by decide +kernel
theorem dX5_powerIn_1 : decode cX5_powerIn 1 = .ok (.istore_n 2, 1) := by decide +kernel
theorem dX5_powerIn_2 : decode cX5_powerIn 2 = .ok (.iload_n 1, 1) := by decide +kernel
theorem dX5_powerIn_3 : decode cX5_powerIn 3 = .ok (.istore_n 3, 1) := by decide +kernel
theorem dX5_powerIn_4 : decode cX5_powerIn 4 = .ok (.iload_n 3, 1) := by decide +kernel
theorem dX5_powerIn_5 : decode cX5_powerIn 5 = .ok (.iconst 1, 1) := by decide +kernel
theorem dX5_powerIn_6 : decode cX5_powerIn 6 = .ok (.if_icmp .le 24, 3) := by decide +kernel
theorem dX5_powerIn_9 : decode cX5_powerIn 9 = .ok (.iload_n 3, 1) := by decide +kernel
theorem dX5_powerIn_10 : decode cX5_powerIn 10 = .ok (.iload_n 0, 1) := by decide +kernel
theorem dX5_powerIn_11 : decode cX5_powerIn 11 = .ok (.if_icmp .gt 19, 3) := by decide +kernel
theorem dX5_powerIn_14 : decode cX5_powerIn 14 = .ok (.iload_n 0, 1) := by decide +kernel
theorem dX5_powerIn_15 : decode cX5_powerIn 15 = .ok (.iload_n 3, 1) := by decide +kernel
theorem dX5_powerIn_16 : decode cX5_powerIn 16 = .ok (.irem, 1) := by decide +kernel
theorem dX5_powerIn_17 : decode cX5_powerIn 17 = .ok (.ifCond .ne 13, 3) := by decide +kernel
theorem dX5_powerIn_20 : decode cX5_powerIn 20 = .ok (.iinc 2 1, 3) := by decide +kernel
theorem dX5_powerIn_23 : decode cX5_powerIn 23 = .ok (.iload_n 3, 1) := by decide +kernel
theorem dX5_powerIn_24 : decode cX5_powerIn 24 = .ok (.iload_n 1, 1) := by decide +kernel
theorem dX5_powerIn_25 : decode cX5_powerIn 25 = .ok (.imul, 1) := by decide +kernel
theorem dX5_powerIn_26 : decode cX5_powerIn 26 = .ok (.istore_n 3, 1) := by decide +kernel
theorem dX5_powerIn_27 : decode cX5_powerIn 27 = .ok (.goto (-23), 3) := by decide +kernel
theorem dX5_powerIn_30 : decode cX5_powerIn 30 = .ok (.iload_n 2, 1) := by decide +kernel
theorem dX5_powerIn_31 : decode cX5_powerIn 31 = .ok (.ireturn, 1) := by decide +kernel
def f_X5_powerIn_30 (x2 : Int32) (σ : St) : Option (Int32 × St) :=
  some (x2, σ)
set_option maxRecDepth 100000 in
set_option maxHeartbeats 4000000 in
theorem b_X5_powerIn_30 {g : Geo} {x : Cx} (C : Ok g x cX5_powerIn RX5 4 (some .int) rm_X5_powerIn) : ∀ (x2 : Int32) (σ : St) (r : Int32) (σ' : St), f_X5_powerIn_30 x2 σ = some (r, σ') → V g x (qm g x (some (.int r)) σ') 4 σ [(2, .int x2)] [] 30 := by
  intro x2 σ r σ' h
  unfold f_X5_powerIn_30 at h
  refine v_iload_n C dX5_powerIn_30 rfl 0 rfl ?_
  cases h
  exact v_iret C dX5_powerIn_31
def f_X5_powerIn_4 : Nat → Int32 → Int32 → Int32 → Int32 → St → Option (Int32 × St)
  | 0, _, _, _, _, _ => none
  | n + 1, x0, x1, x2, x3, σ =>
    if x3 ≤ (1 : Int32) then
      f_X5_powerIn_30 x2 σ
    else
      if x0 < x3 then
        f_X5_powerIn_30 x2 σ
      else
        rmI x0 x3 fun v1 =>
        if v1 = 0 then
          f_X5_powerIn_4 n x0 x1 (x2 + 1) (x3 * x1) σ
        else
          f_X5_powerIn_30 x2 σ
set_option maxRecDepth 100000 in
set_option maxHeartbeats 4000000 in
theorem b_X5_powerIn_4 {g : Geo} {x : Cx} (C : Ok g x cX5_powerIn RX5 4 (some .int) rm_X5_powerIn) : ∀ (n : Nat) (x0 : Int32) (x1 : Int32) (x2 : Int32) (x3 : Int32) (σ : St) (r : Int32) (σ' : St), f_X5_powerIn_4 n x0 x1 x2 x3 σ = some (r, σ') → V g x (qm g x (some (.int r)) σ') 4 σ [(0, .int x0), (1, .int x1), (2, .int x2), (3, .int x3)] [] 4 := by
  intro n
  induction n with
  | zero =>
    intro x0 x1 x2 x3 σ r σ' h
    rw [f_X5_powerIn_4] at h
    cases h
  | succ n ih =>
    intro x0 x1 x2 x3 σ r σ' h
    rw [f_X5_powerIn_4] at h
    refine v_iload_n C dX5_powerIn_4 rfl 3 rfl ?_
    refine v_iconst C (v := (1 : Int32)) dX5_powerIn_5 (by decide) ?_
    refine v_icmp_le C (tgt := 30) dX5_powerIn_6 (by decide) (fun q4 => ?_) (fun q4 => ?_)
    · rw [if_pos q4] at h
      refine V.sub (lv' := [(2, .int _)]) [2] rfl ?_
      exact b_X5_powerIn_30 C _  _ _ _ h
    · rw [if_neg q4] at h
      refine v_iload_n C dX5_powerIn_9 rfl 3 rfl ?_
      refine v_iload_n C dX5_powerIn_10 rfl 0 rfl ?_
      refine v_icmp_gt C (tgt := 30) dX5_powerIn_11 (by decide) (fun q3 => ?_) (fun q3 => ?_)
      · rw [if_pos q3] at h
        refine V.sub (lv' := [(2, .int _)]) [2] rfl ?_
        exact b_X5_powerIn_30 C _  _ _ _ h
      · rw [if_neg q3] at h
        refine v_iload_n C dX5_powerIn_14 rfl 0 rfl ?_
        refine v_iload_n C dX5_powerIn_15 rfl 3 rfl ?_
        obtain ⟨nv1, v1, ev1, h⟩ := rmI_ex h
        refine x_irem C nv1 ev1 dX5_powerIn_16 ?_
        refine v_if_ne C (tgt := 30) dX5_powerIn_17 (by decide) (fun q2 => ?_) (fun q2 => ?_)
        · rw [if_neg q2] at h
          refine V.sub (lv' := [(2, .int _)]) [2] rfl ?_
          exact b_X5_powerIn_30 C _  _ _ _ h
        · rw [if_pos q2] at h
          refine v_iinc C (v := (x2 + 1)) (lv' := [(2, .int _), (0, .int _), (1, .int _), (3, .int _)]) dX5_powerIn_20 2 rfl rfl (by decide) rfl ?_
          refine v_iload_n C dX5_powerIn_23 rfl 3 rfl ?_
          refine v_iload_n C dX5_powerIn_24 rfl 2 rfl ?_
          refine v_imul C dX5_powerIn_25 ?_
          refine v_istore_n C (lv' := [(3, .int _), (2, .int _), (0, .int _), (1, .int _)]) dX5_powerIn_26 rfl (by decide) rfl ?_
          refine v_goto C (tgt := 4) dX5_powerIn_27 (by decide) ?_
          refine V.sub (lv' := [(0, .int _), (1, .int _), (2, .int _), (3, .int _)]) [2, 3, 1, 0] rfl ?_
          exact ih _ _ _ _  _ _ _ h
def f_X5_powerIn (a1 : Int32) (a2 : Int32) (σ : St) : Option (Int32 × St) :=
  f_X5_powerIn_4 FU a1 a2 (0 : Int32) a2 σ
set_option maxRecDepth 100000 in
set_option maxHeartbeats 4000000 in
theorem c_X5_powerIn {g : Geo} {a1 : Int32} {a2 : Int32} {σ : St} {r : Int32} {σ' : St} (h : f_X5_powerIn a1 a2 σ = some (r, σ')) : Ct g yX5_powerIn cX5_powerIn 4 (some .int) rm_X5_powerIn [.int a1, .int a2] σ (some (.int r)) σ' := by
  refine ct_of (own := RX5) (by decide) rfl (Nat.le_of_ble_eq_true rfl) (fun x C => ?_) ⟨rfl, rfl⟩
  show V g x _ 4 σ [(0, .int a1), (1, .int a2)] [] 0
  unfold f_X5_powerIn at h
  refine v_iconst C (v := (0 : Int32)) dX5_powerIn_0 (by decide) ?_
  refine v_istore_n C (lv' := [(2, .int _), (0, .int _), (1, .int _)]) dX5_powerIn_1 rfl (by decide) rfl ?_
  refine v_iload_n C dX5_powerIn_2 rfl 2 rfl ?_
  refine v_istore_n C (lv' := [(3, .int _), (2, .int _), (0, .int _), (1, .int _)]) dX5_powerIn_3 rfl (by decide) rfl ?_
  refine V.sub (lv' := [(0, .int _), (1, .int _), (2, .int _), (3, .int _)]) [2, 3, 1, 0] rfl ?_
  exact b_X5_powerIn_4 C FU _ _ _ _  _ _ _ h
theorem dX5_powerInProduct_0 : decode cX5_powerInProduct 0 = .ok (.iconst 0, 1) := by decide +kernel
theorem dX5_powerInProduct_1 : decode cX5_powerInProduct 1 = .ok (.istore 4, 2) := by decide +kernel
theorem dX5_powerInProduct_3 : decode cX5_powerInProduct 3 = .ok (.iconst 1, 1) := by decide +kernel
theorem dX5_powerInProduct_4 : decode cX5_powerInProduct 4 = .ok (.istore 5, 2) := by decide +kernel
theorem dX5_powerInProduct_6 : decode cX5_powerInProduct 6 = .ok (.iload 5, 2) := by decide +kernel
theorem dX5_powerInProduct_8 : decode cX5_powerInProduct 8 = .ok (.iload_n 0, 1) := by decide +kernel
theorem dX5_powerInProduct_9 : decode cX5_powerInProduct 9 = .ok (.if_icmp .gt 54, 3) := by decide +kernel
theorem dX5_powerInProduct_12 : decode cX5_powerInProduct 12 = .ok (.iconst 1, 1) := by decide +kernel
theorem dX5_powerInProduct_13 : decode cX5_powerInProduct 13 = .ok (.istore 6, 2) := by decide +kernel
theorem dX5_powerInProduct_15 : decode cX5_powerInProduct 15 = .ok (.iload 6, 2) := by decide +kernel
theorem dX5_powerInProduct_17 : decode cX5_powerInProduct 17 = .ok (.iload_n 1, 1) := by decide +kernel
theorem dX5_powerInProduct_18 : decode cX5_powerInProduct 18 = .ok (.if_icmp .gt 39, 3) := by decide +kernel
theorem dX5_powerInProduct_21 : decode cX5_powerInProduct 21 = .ok (.iload 4, 2) := by decide +kernel
theorem dX5_powerInProduct_23 : decode cX5_powerInProduct 23 = .ok (.iload 5, 2) := by decide +kernel
theorem dX5_powerInProduct_25 : decode cX5_powerInProduct 25 = .ok (.iload 6, 2) := by decide +kernel
theorem dX5_powerInProduct_27 : decode cX5_powerInProduct 27 = .ok (.iadd, 1) := by decide +kernel
theorem dX5_powerInProduct_28 : decode cX5_powerInProduct 28 = .ok (.iload_n 2, 1) := by decide +kernel
theorem dX5_powerInProduct_29 : decode cX5_powerInProduct 29 = .ok (.iadd, 1) := by decide +kernel
theorem dX5_powerInProduct_30 : decode cX5_powerInProduct 30 = .ok (.iconst 1, 1) := by decide +kernel
theorem dX5_powerInProduct_31 : decode cX5_powerInProduct 31 = .ok (.isub, 1) := by decide +kernel
theorem dX5_powerInProduct_32 : decode cX5_powerInProduct 32 = .ok (.iload_n 3, 1) := by decide +kernel
theorem dX5_powerInProduct_33 : decode cX5_powerInProduct 33 = .ok (.invokestatic 250, 3) := by decide +kernel
theorem dX5_powerInProduct_36 : decode cX5_powerInProduct 36 = .ok (.iload 5, 2) := by decide +kernel
theorem dX5_powerInProduct_38 : decode cX5_powerInProduct 38 = .ok (.iload 6, 2) := by decide +kernel
theorem dX5_powerInProduct_40 : decode cX5_powerInProduct 40 = .ok (.iadd, 1) := by decide +kernel
theorem dX5_powerInProduct_41 : decode cX5_powerInProduct 41 = .ok (.iconst 1, 1) := by decide +kernel
theorem dX5_powerInProduct_42 : decode cX5_powerInProduct 42 = .ok (.isub, 1) := by decide +kernel
theorem dX5_powerInProduct_43 : decode cX5_powerInProduct 43 = .ok (.iload_n 3, 1) := by decide +kernel
theorem dX5_powerInProduct_44 : decode cX5_powerInProduct 44 = .ok (.invokestatic 250, 3) := by decide +kernel
theorem dX5_powerInProduct_47 : decode cX5_powerInProduct 47 = .ok (.isub, 1) := by decide +kernel
theorem dX5_powerInProduct_48 : decode cX5_powerInProduct 48 = .ok (.iadd, 1) := by decide +kernel
theorem dX5_powerInProduct_49 : decode cX5_powerInProduct 49 = .ok (.istore 4, 2) := by decide +kernel
theorem dX5_powerInProduct_51 : decode cX5_powerInProduct 51 = .ok (.iinc 6 1, 3) := by decide +kernel
theorem dX5_powerInProduct_54 : decode cX5_powerInProduct 54 = .ok (.goto (-39), 3) := by decide +kernel
theorem dX5_powerInProduct_57 : decode cX5_powerInProduct 57 = .ok (.iinc 5 1, 3) := by decide +kernel
theorem dX5_powerInProduct_60 : decode cX5_powerInProduct 60 = .ok (.goto (-54), 3) := by decide +kernel
theorem dX5_powerInProduct_63 : decode cX5_powerInProduct 63 = .ok (.iload 4, 2) := by decide +kernel
theorem dX5_powerInProduct_65 : decode cX5_powerInProduct 65 = .ok (.ireturn, 1) := by decide +kernel
def f_X5_powerInProduct_15 (k6 : Int32 → Int32 → Int32 → Int32 → Int32 → Int32 → St → Option (Int32 × St)) : Nat → Int32 → Int32 → Int32 → Int32 → Int32 → Int32 → Int32 → St → Option (Int32 × St)
  | 0, _, _, _, _, _, _, _, _ => none
  | n + 1, x0, x1, x2, x3, x4, x5, x6, σ =>
    if x1 < x6 then
      k6 x0 x1 x2 x3 x4 (x5 + 1) σ
    else
      bd (f_X5_powerIn (((x5 + x6) + x2) - (1 : Int32)) x3 σ) fun v1 σ2 =>
      bd (f_X5_powerIn ((x5 + x6) - (1 : Int32)) x3 σ2) fun v3 σ4 =>
      f_X5_powerInProduct_15 k6 n x0 x1 x2 x3 (x4 + (v1 - v3)) x5 (x6 + 1) σ4
set_option maxRecDepth 100000 in
set_option maxHeartbeats 4000000 in
theorem b_X5_powerInProduct_15 {g : Geo} {x : Cx} (C : Ok g x cX5_powerInProduct RX5 7 (some .int) rm_X5_powerInProduct) (k6 : Int32 → Int32 → Int32 → Int32 → Int32 → Int32 → St → Option (Int32 × St)) (hk6 : ∀ (x0 : Int32) (x1 : Int32) (x2 : Int32) (x3 : Int32) (x4 : Int32) (x5 : Int32) (τ : St) (r : Int32) (τ' : St), k6 x0 x1 x2 x3 x4 x5 τ = some (r, τ') → V g x (qm g x (some (.int r)) τ') 7 τ [(0, .int x0), (1, .int x1), (2, .int x2), (3, .int x3), (4, .int x4), (5, .int x5)] [] 6) : ∀ (n : Nat) (x0 : Int32) (x1 : Int32) (x2 : Int32) (x3 : Int32) (x4 : Int32) (x5 : Int32) (x6 : Int32) (σ : St) (r : Int32) (σ' : St), f_X5_powerInProduct_15 k6 n x0 x1 x2 x3 x4 x5 x6 σ = some (r, σ') → V g x (qm g x (some (.int r)) σ') 7 σ [(0, .int x0), (1, .int x1), (2, .int x2), (3, .int x3), (4, .int x4), (5, .int x5), (6, .int x6)] [] 15 := by
  intro n
  induction n with
  | zero =>
    intro x0 x1 x2 x3 x4 x5 x6 σ r σ' h
    rw [f_X5_powerInProduct_15] at h
    cases h
  | succ n ih =>
    intro x0 x1 x2 x3 x4 x5 x6 σ r σ' h
    rw [f_X5_powerInProduct_15] at h
    refine v_iload C dX5_powerInProduct_15 6 rfl ?_
    refine v_iload_n C dX5_powerInProduct_17 rfl 1 rfl ?_
    refine v_icmp_gt C (tgt := 57) dX5_powerInProduct_18 (by decide) (fun q5 => ?_) (fun q5 => ?_)
    · rw [if_pos q5] at h
      refine v_iinc C (v := (x5 + 1)) (lv' := [(5, .int _), (0, .int _), (1, .int _), (2, .int _), (3, .int _), (4, .int _), (6, .int _)]) dX5_powerInProduct_57 5 rfl rfl (by decide) rfl ?_
      refine v_goto C (tgt := 6) dX5_powerInProduct_60 (by decide) ?_
      refine V.sub (lv' := [(0, .int _), (1, .int _), (2, .int _), (3, .int _), (4, .int _), (5, .int _)]) [1, 2, 3, 4, 5, 0] rfl ?_
      exact hk6 _ _ _ _ _ _  _ _ _ h
    · rw [if_neg q5] at h
      refine v_iload C dX5_powerInProduct_21 4 rfl ?_
      refine v_iload C dX5_powerInProduct_23 5 rfl ?_
      refine v_iload C dX5_powerInProduct_25 6 rfl ?_
      refine v_iadd C dX5_powerInProduct_27 ?_
      refine v_iload_n C dX5_powerInProduct_28 rfl 2 rfl ?_
      refine v_iadd C dX5_powerInProduct_29 ?_
      refine v_iconst C (v := (1 : Int32)) dX5_powerInProduct_30 (by decide) ?_
      refine v_isub C dX5_powerInProduct_31 ?_
      refine v_iload_n C dX5_powerInProduct_32 rfl 3 rfl ?_
      obtain ⟨v1, σ2, cσ2, h⟩ := bd_some h
      refine callSi C (c_X5_powerIn cσ2) km_X5_powerIn ks_X5_powerIn ml_RX5_250 rfl rfl (by decide) (Nat.le_of_ble_eq_true rfl) dX5_powerInProduct_33 ?_
      refine v_iload C dX5_powerInProduct_36 5 rfl ?_
      refine v_iload C dX5_powerInProduct_38 6 rfl ?_
      refine v_iadd C dX5_powerInProduct_40 ?_
      refine v_iconst C (v := (1 : Int32)) dX5_powerInProduct_41 (by decide) ?_
      refine v_isub C dX5_powerInProduct_42 ?_
      refine v_iload_n C dX5_powerInProduct_43 rfl 3 rfl ?_
      obtain ⟨v3, σ4, cσ4, h⟩ := bd_some h
      refine callSi C (c_X5_powerIn cσ4) km_X5_powerIn ks_X5_powerIn ml_RX5_250 rfl rfl (by decide) (Nat.le_of_ble_eq_true rfl) dX5_powerInProduct_44 ?_
      refine v_isub C dX5_powerInProduct_47 ?_
      refine v_iadd C dX5_powerInProduct_48 ?_
      refine v_istore C (lv' := [(4, .int _), (0, .int _), (1, .int _), (2, .int _), (3, .int _), (5, .int _), (6, .int _)]) dX5_powerInProduct_49 (by decide) rfl ?_
      refine v_iinc C (v := (x6 + 1)) (lv' := [(6, .int _), (4, .int _), (0, .int _), (1, .int _), (2, .int _), (3, .int _), (5, .int _)]) dX5_powerInProduct_51 6 rfl rfl (by decide) rfl ?_
      refine v_goto C (tgt := 15) dX5_powerInProduct_54 (by decide) ?_
      refine V.sub (lv' := [(0, .int _), (1, .int _), (2, .int _), (3, .int _), (4, .int _), (5, .int _), (6, .int _)]) [2, 3, 4, 5, 1, 6, 0] rfl ?_
      exact ih _ _ _ _ _ _ _  _ _ _ h
def f_X5_powerInProduct_6 : Nat → Int32 → Int32 → Int32 → Int32 → Int32 → Int32 → St → Option (Int32 × St)
  | 0, _, _, _, _, _, _, _ => none
  | n + 1, x0, x1, x2, x3, x4, x5, σ =>
    if x0 < x5 then
      some (x4, σ)
    else
      f_X5_powerInProduct_15 (f_X5_powerInProduct_6 n) FU x0 x1 x2 x3 x4 x5 (1 : Int32) σ
set_option maxRecDepth 100000 in
set_option maxHeartbeats 4000000 in
theorem b_X5_powerInProduct_6 {g : Geo} {x : Cx} (C : Ok g x cX5_powerInProduct RX5 7 (some .int) rm_X5_powerInProduct) : ∀ (n : Nat) (x0 : Int32) (x1 : Int32) (x2 : Int32) (x3 : Int32) (x4 : Int32) (x5 : Int32) (σ : St) (r : Int32) (σ' : St), f_X5_powerInProduct_6 n x0 x1 x2 x3 x4 x5 σ = some (r, σ') → V g x (qm g x (some (.int r)) σ') 7 σ [(0, .int x0), (1, .int x1), (2, .int x2), (3, .int x3), (4, .int x4), (5, .int x5)] [] 6 := by
  intro n
  induction n with
  | zero =>
    intro x0 x1 x2 x3 x4 x5 σ r σ' h
    rw [f_X5_powerInProduct_6] at h
    cases h
  | succ n ih =>
    intro x0 x1 x2 x3 x4 x5 σ r σ' h
    rw [f_X5_powerInProduct_6] at h
    refine v_iload C dX5_powerInProduct_6 5 rfl ?_
    refine v_iload_n C dX5_powerInProduct_8 rfl 0 rfl ?_
    refine v_icmp_gt C (tgt := 63) dX5_powerInProduct_9 (by decide) (fun q1 => ?_) (fun q1 => ?_)
    · rw [if_pos q1] at h
      refine v_iload C dX5_powerInProduct_63 4 rfl ?_
      cases h
      exact v_iret C dX5_powerInProduct_65
    · rw [if_neg q1] at h
      refine v_iconst C (v := (1 : Int32)) dX5_powerInProduct_12 (by decide) ?_
      refine v_istore C (lv' := [(6, .int _), (0, .int _), (1, .int _), (2, .int _), (3, .int _), (4, .int _), (5, .int _)]) dX5_powerInProduct_13 (by decide) rfl ?_
      refine V.sub (lv' := [(0, .int _), (1, .int _), (2, .int _), (3, .int _), (4, .int _), (5, .int _), (6, .int _)]) [1, 2, 3, 4, 5, 6, 0] rfl ?_
      exact b_X5_powerInProduct_15 C _ ih FU _ _ _ _ _ _ _  _ _ _ h
def f_X5_powerInProduct (a1 : Int32) (a2 : Int32) (a3 : Int32) (a4 : Int32) (σ : St) : Option (Int32 × St) :=
  f_X5_powerInProduct_6 FU a1 a2 a3 a4 (0 : Int32) (1 : Int32) σ
set_option maxRecDepth 100000 in
set_option maxHeartbeats 4000000 in
theorem c_X5_powerInProduct {g : Geo} {a1 : Int32} {a2 : Int32} {a3 : Int32} {a4 : Int32} {σ : St} {r : Int32} {σ' : St} (h : f_X5_powerInProduct a1 a2 a3 a4 σ = some (r, σ')) : Ct g yX5_powerInProduct cX5_powerInProduct 7 (some .int) rm_X5_powerInProduct [.int a1, .int a2, .int a3, .int a4] σ (some (.int r)) σ' := by
  refine ct_of (own := RX5) (by decide) rfl (Nat.le_of_ble_eq_true rfl) (fun x C => ?_) ⟨rfl, rfl⟩
  show V g x _ 7 σ [(0, .int a1), (1, .int a2), (2, .int a3), (3, .int a4)] [] 0
  unfold f_X5_powerInProduct at h
  refine v_iconst C (v := (0 : Int32)) dX5_powerInProduct_0 (by decide) ?_
  refine v_istore C (lv' := [(4, .int _), (0, .int _), (1, .int _), (2, .int _), (3, .int _)]) dX5_powerInProduct_1 (by decide) rfl ?_
  refine v_iconst C (v := (1 : Int32)) dX5_powerInProduct_3 (by decide) ?_
  refine v_istore C (lv' := [(5, .int _), (4, .int _), (0, .int _), (1, .int _), (2, .int _), (3, .int _)]) dX5_powerInProduct_4 (by decide) rfl ?_
  refine V.sub (lv' := [(0, .int _), (1, .int _), (2, .int _), (3, .int _), (4, .int _), (5, .int _)]) [2, 3, 4, 5, 1, 0] rfl ?_
  exact b_X5_powerInProduct_6 C FU _ _ _ _ _ _  _ _ _ h
theorem dX5_product_0 : decode cX5_product 0 = .ok (.iload_n 1, 1) := by decide +kernel
theorem dX5_product_1 : decode cX5_product 1 = .ok (.iload_n 2, 1) := by decide +kernel
theorem dX5_product_2 : decode cX5_product 2 = .ok (.iload_n 3, 1) := by decide +kernel
theorem dX5_product_3 : decode cX5_product 3 = .ok (.invokestatic 70, 3) := by decide +kernel
theorem dX5_product_6 : decode cX5_product 6 = .ok (.ifCond .ne 7, 3) := by decide +kernel
theorem dX5_product_9 : decode cX5_product 9 = .ok (.ldc2_w 109, 3) := by decide +kernel
theorem dX5_product_12 : decode cX5_product 12 = .ok (.lreturn, 1) := by decide +kernel
theorem dX5_product_13 : decode cX5_product 13 = .ok (.lconst 1, 1) := by decide +kernel
theorem dX5_product_14 : decode cX5_product 14 = .ok (.lstore 4, 2) := by decide +kernel
theorem dX5_product_16 : decode cX5_product 16 = .ok (.getstatic 111, 3) := by decide +kernel
theorem dX5_product_19 : decode cX5_product 19 = .ok (.astore 6, 2) := by decide +kernel
theorem dX5_product_21 : decode cX5_product 21 = .ok (.aload 6, 2) := by decide +kernel
theorem dX5_product_23 : decode cX5_product 23 = .ok (.arraylength, 1) := by decide +kernel
theorem dX5_product_24 : decode cX5_product 24 = .ok (.istore 7, 2) := by decide +kernel
theorem dX5_product_26 : decode cX5_product 26 = .ok (.iconst 0, 1) := by decide +kernel
theorem dX5_product_27 : decode cX5_product 27 = .ok (.istore 8, 2) := by decide +kernel
theorem dX5_product_29 : decode cX5_product 29 = .ok (.iload 8, 2) := by decide +kernel
theorem dX5_product_31 : decode cX5_product 31 = .ok (.iload 7, 2) := by decide +kernel
theorem dX5_product_33 : decode cX5_product 33 = .ok (.if_icmp .ge 50, 3) := by decide +kernel
theorem dX5_product_36 : decode cX5_product 36 = .ok (.aload 6, 2) := by decide +kernel
theorem dX5_product_38 : decode cX5_product 38 = .ok (.iload 8, 2) := by decide +kernel
theorem dX5_product_40 : decode cX5_product 40 = .ok (.iaload, 1) := by decide +kernel
theorem dX5_product_41 : decode cX5_product 41 = .ok (.istore 9, 2) := by decide +kernel
theorem dX5_product_43 : decode cX5_product 43 = .ok (.iload_n 1, 1) := by decide +kernel
theorem dX5_product_44 : decode cX5_product 44 = .ok (.iload_n 2, 1) := by decide +kernel
theorem dX5_product_45 : decode cX5_product 45 = .ok (.iload_n 3, 1) := by decide +kernel
theorem dX5_product_46 : decode cX5_product 46 = .ok (.iload 9, 2) := by decide +kernel
theorem dX5_product_48 : decode cX5_product 48 = .ok (.invokestatic 114, 3) := by decide +kernel
theorem dX5_product_51 : decode cX5_product 51 = .ok (.istore 10, 2) := by decide +kernel
theorem dX5_product_53 : decode cX5_product 53 = .ok (.iconst 0, 1) := by decide +kernel
theorem dX5_product_54 : decode cX5_product 54 = .ok (.istore 11, 2) := by decide +kernel
theorem dX5_product_56 : decode cX5_product 56 = .ok (.iload 11, 2) := by decide +kernel
theorem dX5_product_58 : decode cX5_product 58 = .ok (.iload 10, 2) := by decide +kernel
theorem dX5_product_60 : decode cX5_product 60 = .ok (.if_icmp .ge 17, 3) := by decide +kernel
theorem dX5_product_63 : decode cX5_product 63 = .ok (.lload 4, 2) := by decide +kernel
theorem dX5_product_65 : decode cX5_product 65 = .ok (.iload 9, 2) := by decide +kernel
theorem dX5_product_67 : decode cX5_product 67 = .ok (.i2l, 1) := by decide +kernel
theorem dX5_product_68 : decode cX5_product 68 = .ok (.lmul, 1) := by decide +kernel
theorem dX5_product_69 : decode cX5_product 69 = .ok (.lstore 4, 2) := by decide +kernel
theorem dX5_product_71 : decode cX5_product 71 = .ok (.iinc 11 1, 3) := by decide +kernel
theorem dX5_product_74 : decode cX5_product 74 = .ok (.goto (-18), 3) := by decide +kernel
theorem dX5_product_77 : decode cX5_product 77 = .ok (.iinc 8 1, 3) := by decide +kernel
theorem dX5_product_80 : decode cX5_product 80 = .ok (.goto (-51), 3) := by decide +kernel
theorem dX5_product_83 : decode cX5_product 83 = .ok (.lload 4, 2) := by decide +kernel
theorem dX5_product_85 : decode cX5_product 85 = .ok (.lreturn, 1) := by decide +kernel
def f_X5_product_56 (k29 : Int32 → Int32 → Int32 → Int64 → Int32 → Int32 → St → Option (Int64 × St)) : Nat → Int32 → Int32 → Int32 → Int64 → Int32 → Int32 → Int32 → Int32 → Int32 → St → Option (Int64 × St)
  | 0, _, _, _, _, _, _, _, _, _, _ => none
  | n + 1, x1, x2, x3, x4, x7, x8, x9, x10, x11, σ =>
    if x10 ≤ x11 then
      k29 x1 x2 x3 x4 x7 (x8 + 1) σ
    else
      f_X5_product_56 k29 n x1 x2 x3 (x4 * ((x9).toInt64)) x7 x8 x9 x10 (x11 + 1) σ
set_option maxRecDepth 100000 in
set_option maxHeartbeats 4000000 in
theorem b_X5_product_56 {g : Geo} {x : Cx} (C : Ok g x cX5_product RX5 12 (some .long) rm_X5_product) (k29 : Int32 → Int32 → Int32 → Int64 → Int32 → Int32 → St → Option (Int64 × St)) (hk29 : ∀ (x1 : Int32) (x2 : Int32) (x3 : Int32) (x4 : Int64) (x7 : Int32) (x8 : Int32) (τ : St) (r : Int64) (τ' : St), k29 x1 x2 x3 x4 x7 x8 τ = some (r, τ') → V g x (qm g x (some (.long r)) τ') 12 τ [(1, .int x1), (2, .int x2), (3, .int x3), (4, .long x4), (6, .ref (g.1 45)), (7, .int x7), (8, .int x8)] [] 29) : ∀ (n : Nat) (x1 : Int32) (x2 : Int32) (x3 : Int32) (x4 : Int64) (x7 : Int32) (x8 : Int32) (x9 : Int32) (x10 : Int32) (x11 : Int32) (σ : St) (r : Int64) (σ' : St), f_X5_product_56 k29 n x1 x2 x3 x4 x7 x8 x9 x10 x11 σ = some (r, σ') → V g x (qm g x (some (.long r)) σ') 12 σ [(1, .int x1), (2, .int x2), (3, .int x3), (4, .long x4), (6, .ref (g.1 45)), (7, .int x7), (8, .int x8), (9, .int x9), (10, .int x10), (11, .int x11)] [] 56 := by
  intro n
  induction n with
  | zero =>
    intro x1 x2 x3 x4 x7 x8 x9 x10 x11 σ r σ' h
    rw [f_X5_product_56] at h
    cases h
  | succ n ih =>
    intro x1 x2 x3 x4 x7 x8 x9 x10 x11 σ r σ' h
    rw [f_X5_product_56] at h
    refine v_iload C dX5_product_56 9 rfl ?_
    refine v_iload C dX5_product_58 8 rfl ?_
    refine v_icmp_ge C (tgt := 77) dX5_product_60 (by decide) (fun q1 => ?_) (fun q1 => ?_)
    · rw [if_pos q1] at h
      refine v_iinc C (v := (x8 + 1)) (lv' := [(8, .int _), (1, .int _), (2, .int _), (3, .int _), (4, .long _), (6, .ref _), (7, .int _), (9, .int _), (10, .int _), (11, .int _)]) dX5_product_77 6 rfl rfl (by decide) rfl ?_
      refine v_goto C (tgt := 29) dX5_product_80 (by decide) ?_
      refine V.sub (lv' := [(1, .int _), (2, .int _), (3, .int _), (4, .long _), (6, .ref _), (7, .int _), (8, .int _)]) [1, 2, 3, 4, 5, 6, 0] rfl ?_
      exact hk29 _ _ _ _ _ _  _ _ _ h
    · rw [if_neg q1] at h
      refine v_lload C dX5_product_63 3 rfl ?_
      refine v_iload C dX5_product_65 7 rfl ?_
      refine v_i2l C dX5_product_67 ?_
      refine v_lmul C dX5_product_68 ?_
      refine v_lstore C (lv' := [(4, .long _), (1, .int _), (2, .int _), (3, .int _), (6, .ref _), (7, .int _), (8, .int _), (9, .int _), (10, .int _), (11, .int _)]) dX5_product_69 (by decide) rfl ?_
      refine v_iinc C (v := (x11 + 1)) (lv' := [(11, .int _), (4, .long _), (1, .int _), (2, .int _), (3, .int _), (6, .ref _), (7, .int _), (8, .int _), (9, .int _), (10, .int _)]) dX5_product_71 9 rfl rfl (by decide) rfl ?_
      refine v_goto C (tgt := 56) dX5_product_74 (by decide) ?_
      refine V.sub (lv' := [(1, .int _), (2, .int _), (3, .int _), (4, .long _), (6, .ref _), (7, .int _), (8, .int _), (9, .int _), (10, .int _), (11, .int _)]) [2, 3, 4, 1, 5, 6, 7, 8, 9, 0] rfl ?_
      exact ih _ _ _ _ _ _ _ _ _  _ _ _ h
def f_X5_product_29 : Nat → Int32 → Int32 → Int32 → Int64 → Int32 → Int32 → St → Option (Int64 × St)
  | 0, _, _, _, _, _, _, _ => none
  | n + 1, x1, x2, x3, x4, x7, x8, σ =>
    if x7 ≤ x8 then
      some (x4, σ)
    else
      rdP x8 fun v1 =>
      bd (f_X5_powerInProduct x1 x2 x3 v1 σ) fun v2 σ3 =>
      f_X5_product_56 (f_X5_product_29 n) FU x1 x2 x3 x4 x7 x8 v1 v2 (0 : Int32) σ3
set_option maxRecDepth 100000 in
set_option maxHeartbeats 4000000 in
theorem b_X5_product_29 {g : Geo} {x : Cx} (C : Ok g x cX5_product RX5 12 (some .long) rm_X5_product) : ∀ (n : Nat) (x1 : Int32) (x2 : Int32) (x3 : Int32) (x4 : Int64) (x7 : Int32) (x8 : Int32) (σ : St) (r : Int64) (σ' : St), f_X5_product_29 n x1 x2 x3 x4 x7 x8 σ = some (r, σ') → V g x (qm g x (some (.long r)) σ') 12 σ [(1, .int x1), (2, .int x2), (3, .int x3), (4, .long x4), (6, .ref (g.1 45)), (7, .int x7), (8, .int x8)] [] 29 := by
  intro n
  induction n with
  | zero =>
    intro x1 x2 x3 x4 x7 x8 σ r σ' h
    rw [f_X5_product_29] at h
    cases h
  | succ n ih =>
    intro x1 x2 x3 x4 x7 x8 σ r σ' h
    rw [f_X5_product_29] at h
    refine v_iload C dX5_product_29 6 rfl ?_
    refine v_iload C dX5_product_31 5 rfl ?_
    refine v_icmp_ge C (tgt := 83) dX5_product_33 (by decide) (fun q4 => ?_) (fun q4 => ?_)
    · rw [if_pos q4] at h
      refine v_lload C dX5_product_83 3 rfl ?_
      cases h
      exact v_lret C dX5_product_85
    · rw [if_neg q4] at h
      refine v_aload C dX5_product_36 4 rfl ?_
      refine v_iload C dX5_product_38 6 rfl ?_
      obtain ⟨nv1, v1, ev1, h⟩ := rdP_ex h
      refine x_pld C nv1 ev1 dX5_product_40 ?_
      refine v_istore C (lv' := [(9, .int _), (1, .int _), (2, .int _), (3, .int _), (4, .long _), (6, .ref _), (7, .int _), (8, .int _)]) dX5_product_41 (by decide) rfl ?_
      refine v_iload_n C dX5_product_43 rfl 1 rfl ?_
      refine v_iload_n C dX5_product_44 rfl 2 rfl ?_
      refine v_iload_n C dX5_product_45 rfl 3 rfl ?_
      refine v_iload C dX5_product_46 0 rfl ?_
      obtain ⟨v2, σ3, cσ3, h⟩ := bd_some h
      refine callSi C (c_X5_powerInProduct cσ3) km_X5_powerInProduct ks_X5_powerInProduct ml_RX5_114 rfl rfl (by decide) (Nat.le_of_ble_eq_true rfl) dX5_product_48 ?_
      refine v_istore C (lv' := [(10, .int _), (9, .int _), (1, .int _), (2, .int _), (3, .int _), (4, .long _), (6, .ref _), (7, .int _), (8, .int _)]) dX5_product_51 (by decide) rfl ?_
      refine v_iconst C (v := (0 : Int32)) dX5_product_53 (by decide) ?_
      refine v_istore C (lv' := [(11, .int _), (10, .int _), (9, .int _), (1, .int _), (2, .int _), (3, .int _), (4, .long _), (6, .ref _), (7, .int _), (8, .int _)]) dX5_product_54 (by decide) rfl ?_
      refine V.sub (lv' := [(1, .int _), (2, .int _), (3, .int _), (4, .long _), (6, .ref _), (7, .int _), (8, .int _), (9, .int _), (10, .int _), (11, .int _)]) [3, 4, 5, 6, 7, 8, 9, 2, 1, 0] rfl ?_
      exact b_X5_product_56 C _ ih FU _ _ _ _ _ _ _ _ _  _ _ _ h
def f_X5_product (a1 : Int32) (a2 : Int32) (a3 : Int32) (σ : St) : Option (Int64 × St) :=
  bd (f_X5_hexagonFits a1 a2 a3 σ) fun v1 σ2 =>
  if v1 = 0 then
    some ((-900002 : Int64), σ2)
  else
    f_X5_product_29 FU a1 a2 a3 (1 : Int64) (6 : Int32) (0 : Int32) σ2
set_option maxRecDepth 100000 in
set_option maxHeartbeats 4000000 in
theorem c_X5_product {g : Geo} {a1 : Int32} {a2 : Int32} {a3 : Int32} {σ : St} {r : Int64} {σ' : St} (h : f_X5_product a1 a2 a3 σ = some (r, σ')) : Ct g yX5_product cX5_product 12 (some .long) rm_X5_product [.ref (g.1 0), .int a1, .int a2, .int a3] σ (some (.long r)) σ' := by
  refine ct_of (own := RX5) (by decide) rfl (Nat.le_of_ble_eq_true rfl) (fun x C => ?_) ⟨rfl, rfl⟩
  show V g x _ 12 σ [(0, .ref (g.1 0)), (1, .int a1), (2, .int a2), (3, .int a3)] [] 0
  unfold f_X5_product at h
  refine v_iload_n C dX5_product_0 rfl 1 rfl ?_
  refine v_iload_n C dX5_product_1 rfl 2 rfl ?_
  refine v_iload_n C dX5_product_2 rfl 3 rfl ?_
  obtain ⟨v1, σ2, cσ2, h⟩ := bd_some h
  refine callSi C (c_X5_hexagonFits cσ2) km_X5_hexagonFits ks_X5_hexagonFits ml_RX5_70 rfl rfl (by decide) (Nat.le_of_ble_eq_true rfl) dX5_product_3 ?_
  refine v_if_ne C (tgt := 13) dX5_product_6 (by decide) (fun q3 => ?_) (fun q3 => ?_)
  · rw [if_neg q3] at h
    refine v_lconst C (v := (1 : Int64)) dX5_product_13 (by decide) ?_
    refine v_lstore C (lv' := [(4, .long _), (0, .ref _), (1, .int _), (2, .int _), (3, .int _)]) dX5_product_14 (by decide) rfl ?_
    refine v_primes C pr_RX5_111 dX5_product_16 ?_
    refine v_astore C (lv' := [(6, .ref _), (4, .long _), (0, .ref _), (1, .int _), (2, .int _), (3, .int _)]) dX5_product_19 (by decide) rfl ?_
    refine v_aload C dX5_product_21 0 rfl ?_
    refine v_plen C dX5_product_23 ?_
    refine v_istore C (lv' := [(7, .int _), (6, .ref _), (4, .long _), (0, .ref _), (1, .int _), (2, .int _), (3, .int _)]) dX5_product_24 (by decide) rfl ?_
    refine v_iconst C (v := (0 : Int32)) dX5_product_26 (by decide) ?_
    refine v_istore C (lv' := [(8, .int _), (7, .int _), (6, .ref _), (4, .long _), (0, .ref _), (1, .int _), (2, .int _), (3, .int _)]) dX5_product_27 (by decide) rfl ?_
    refine V.sub (lv' := [(1, .int _), (2, .int _), (3, .int _), (4, .long _), (6, .ref _), (7, .int _), (8, .int _)]) [5, 6, 7, 3, 2, 1, 0] rfl ?_
    exact b_X5_product_29 C FU _ _ _ _ _ _  _ _ _ h
  · rw [if_pos q3] at h
    refine v_ldc2_w C (v := (-900002 : Int64)) conl_RX5_109 dX5_product_9 ?_
    cases h
    exact v_lret C dX5_product_12
theorem dX5_makeSteps_0 : decode cX5_makeSteps 0 = .ok (.aload_n 0, 1) := by decide +kernel
theorem dX5_makeSteps_1 : decode cX5_makeSteps 1 = .ok (.getfield 266, 3) := by decide +kernel
theorem dX5_makeSteps_4 : decode cX5_makeSteps 4 = .ok (.ifCond .ne 19, 3) := by decide +kernel
theorem dX5_makeSteps_7 : decode cX5_makeSteps 7 = .ok (.aload_n 0, 1) := by decide +kernel
theorem dX5_makeSteps_8 : decode cX5_makeSteps 8 = .ok (.getfield 19, 3) := by decide +kernel
theorem dX5_makeSteps_11 : decode cX5_makeSteps 11 = .ok (.aload_n 0, 1) := by decide +kernel
theorem dX5_makeSteps_12 : decode cX5_makeSteps 12 = .ok (.getfield 12, 3) := by decide +kernel
theorem dX5_makeSteps_15 : decode cX5_makeSteps 15 = .ok (.invokevirtual 272, 3) := by decide +kernel
theorem dX5_makeSteps_18 : decode cX5_makeSteps 18 = .ok (.aload_n 0, 1) := by decide +kernel
theorem dX5_makeSteps_19 : decode cX5_makeSteps 19 = .ok (.iconst 1, 1) := by decide +kernel
theorem dX5_makeSteps_20 : decode cX5_makeSteps 20 = .ok (.putfield 266, 3) := by decide +kernel
theorem dX5_makeSteps_23 : decode cX5_makeSteps 23 = .ok (.return_, 1) := by decide +kernel
def f_X5_makeSteps_23 (σ : St) : Option (Unit × St) :=
  some ((), σ)
set_option maxRecDepth 100000 in
set_option maxHeartbeats 4000000 in
theorem b_X5_makeSteps_23 {g : Geo} {x : Cx} (C : Ok g x cX5_makeSteps RX5 1 none rm_X5_makeSteps) : ∀ (σ : St) (r : Unit) (σ' : St), f_X5_makeSteps_23 σ = some (r, σ') → V g x (qm g x none σ') 1 σ [] [] 23 := by
  intro σ r σ' h
  unfold f_X5_makeSteps_23 at h
  cases h
  exact v_vret C dX5_makeSteps_23
def f_X5_makeSteps (σ : St) : Option (Unit × St) :=
  if (gi σ 0 8) = 0 then
    bd (f_X3_build σ) fun _ σ2 =>
    fI σ2 0 8 (1 : Int32) fun σ3 =>
    f_X5_makeSteps_23 σ3
  else
    f_X5_makeSteps_23 σ
set_option maxRecDepth 100000 in
set_option maxHeartbeats 4000000 in
theorem c_X5_makeSteps {g : Geo} {σ : St} {r : Unit} {σ' : St} (h : f_X5_makeSteps σ = some (r, σ')) : Ct g yX5_makeSteps cX5_makeSteps 1 none rm_X5_makeSteps [.ref (g.1 0)] σ none σ' := by
  refine ct_of (own := RX5) (by decide) rfl (Nat.le_of_ble_eq_true rfl) (fun x C => ?_) ⟨rfl, rfl⟩
  show V g x _ 1 σ [(0, .ref (g.1 0))] [] 0
  unfold f_X5_makeSteps at h
  refine v_aload_n C dX5_makeSteps_0 rfl 0 rfl ?_
  refine v_getZ C fl_RX5_266 rfl dX5_makeSteps_1 ?_
  refine v_if_ne C (tgt := 23) dX5_makeSteps_4 (by decide) (fun q4 => ?_) (fun q4 => ?_)
  · rw [if_neg q4] at h
    refine V.sub (lv' := []) [] rfl ?_
    exact b_X5_makeSteps_23 C  _ _ _ h
  · rw [if_pos q4] at h
    refine v_aload_n C dX5_makeSteps_7 rfl 0 rfl ?_
    refine v_getR C (p' := 2) fl_RX5_19 rfl rfl dX5_makeSteps_8 ?_
    refine v_aload_n C dX5_makeSteps_11 rfl 0 rfl ?_
    refine v_getR C (p' := 1) fl_RX5_12 rfl rfl dX5_makeSteps_12 ?_
    obtain ⟨v1, σ2, cσ2, h⟩ := bd_some h
    refine callVv C (c_X3_build cσ2) km_X3_build kv_X3_build rfl ml_RX5_272 rfl rfl (by decide) (Nat.le_of_ble_eq_true rfl) dX5_makeSteps_15 ?_
    refine v_aload_n C dX5_makeSteps_18 rfl 0 rfl ?_
    refine v_iconst C (v := (1 : Int32)) dX5_makeSteps_19 (by decide) ?_
    obtain ⟨σ3, eσ3, h⟩ := fI_ex h
    refine x_putZ C fl_RX5_266 fw_5_8 rfl (Or.inr rfl) eσ3 dX5_makeSteps_20 ?_
    refine V.sub (lv' := []) [] rfl ?_
    exact b_X5_makeSteps_23 C  _ _ _ h
theorem dX5_layings_0 : decode cX5_layings 0 = .ok (.aload_n 0, 1) := by decide +kernel
theorem dX5_layings_1 : decode cX5_layings 1 = .ok (.invokevirtual 118, 3) := by decide +kernel
theorem dX5_layings_4 : decode cX5_layings 4 = .ok (.aload_n 0, 1) := by decide +kernel
theorem dX5_layings_5 : decode cX5_layings 5 = .ok (.getfield 19, 3) := by decide +kernel
theorem dX5_layings_8 : decode cX5_layings 8 = .ok (.invokevirtual 121, 3) := by decide +kernel
theorem dX5_layings_11 : decode cX5_layings 11 = .ok (.lreturn, 1) := by decide +kernel
def f_X5_layings (σ : St) : Option (Int64 × St) :=
  bd (f_X5_makeSteps σ) fun _ σ2 =>
  bd (f_X3_total σ2) fun v3 σ4 =>
  some (v3, σ4)
set_option maxRecDepth 100000 in
set_option maxHeartbeats 4000000 in
theorem c_X5_layings {g : Geo} {σ : St} {r : Int64} {σ' : St} (h : f_X5_layings σ = some (r, σ')) : Ct g yX5_layings cX5_layings 1 (some .long) rm_X5_layings [.ref (g.1 0)] σ (some (.long r)) σ' := by
  refine ct_of (own := RX5) (by decide) rfl (Nat.le_of_ble_eq_true rfl) (fun x C => ?_) ⟨rfl, rfl⟩
  show V g x _ 1 σ [(0, .ref (g.1 0))] [] 0
  unfold f_X5_layings at h
  refine v_aload_n C dX5_layings_0 rfl 0 rfl ?_
  obtain ⟨v1, σ2, cσ2, h⟩ := bd_some h
  refine callVv C (c_X5_makeSteps cσ2) km_X5_makeSteps kv_X5_makeSteps rfl ml_RX5_118 rfl rfl (by decide) (Nat.le_of_ble_eq_true rfl) dX5_layings_1 ?_
  refine v_aload_n C dX5_layings_4 rfl 0 rfl ?_
  refine v_getR C (p' := 2) fl_RX5_19 rfl rfl dX5_layings_5 ?_
  obtain ⟨v3, σ4, cσ4, h⟩ := bd_some h
  refine callVl C (c_X3_total cσ4) km_X3_total kv_X3_total rfl ml_RX5_121 rfl rfl (by decide) (Nat.le_of_ble_eq_true rfl) dX5_layings_8 ?_
  cases h
  exact v_lret C dX5_layings_11
theorem dX5_isKind_0 : decode cX5_isKind 0 = .ok (.iload_n 0, 1) := by decide +kernel
theorem dX5_isKind_1 : decode cX5_isKind 1 = .ok (.ifCond .lt 12, 3) := by decide +kernel
theorem dX5_isKind_4 : decode cX5_isKind 4 = .ok (.iload_n 0, 1) := by decide +kernel
theorem dX5_isKind_5 : decode cX5_isKind 5 = .ok (.iconst 3, 1) := by decide +kernel
theorem dX5_isKind_6 : decode cX5_isKind 6 = .ok (.if_icmp .ge 7, 3) := by decide +kernel
theorem dX5_isKind_9 : decode cX5_isKind 9 = .ok (.iconst 1, 1) := by decide +kernel
theorem dX5_isKind_10 : decode cX5_isKind 10 = .ok (.goto 4, 3) := by decide +kernel
theorem dX5_isKind_13 : decode cX5_isKind 13 = .ok (.iconst 0, 1) := by decide +kernel
theorem dX5_isKind_14 : decode cX5_isKind 14 = .ok (.ireturn, 1) := by decide +kernel
def f_X5_isKind_14 (s0 : Int32) (σ : St) : Option (Int32 × St) :=
  gz s0 <|
  some (s0, σ)
set_option maxRecDepth 100000 in
set_option maxHeartbeats 4000000 in
theorem b_X5_isKind_14 {g : Geo} {x : Cx} (C : Ok g x cX5_isKind RX5 1 (some .boolean) rm_X5_isKind) : ∀ (s0 : Int32) (σ : St) (r : Int32) (σ' : St), f_X5_isKind_14 s0 σ = some (r, σ') → V g x (qm g x (some (.int r)) σ') 1 σ [] [.int s0] 14 := by
  intro s0 σ r σ' h
  unfold f_X5_isKind_14 at h
  obtain ⟨hz, h⟩ := gz_some h
  cases h
  exact v_zret C hz dX5_isKind_14
def f_X5_isKind_13 (σ : St) : Option (Int32 × St) :=
  f_X5_isKind_14 (0 : Int32) σ
set_option maxRecDepth 100000 in
set_option maxHeartbeats 4000000 in
theorem b_X5_isKind_13 {g : Geo} {x : Cx} (C : Ok g x cX5_isKind RX5 1 (some .boolean) rm_X5_isKind) : ∀ (σ : St) (r : Int32) (σ' : St), f_X5_isKind_13 σ = some (r, σ') → V g x (qm g x (some (.int r)) σ') 1 σ [] [] 13 := by
  intro σ r σ' h
  unfold f_X5_isKind_13 at h
  refine v_iconst C (v := (0 : Int32)) dX5_isKind_13 (by decide) ?_
  refine V.sub (lv' := []) [] rfl ?_
  exact b_X5_isKind_14 C _  _ _ _ h
def f_X5_isKind (a1 : Int32) (σ : St) : Option (Int32 × St) :=
  if a1 < 0 then
    f_X5_isKind_13 σ
  else
    if (3 : Int32) ≤ a1 then
      f_X5_isKind_13 σ
    else
      f_X5_isKind_14 (1 : Int32) σ
set_option maxRecDepth 100000 in
set_option maxHeartbeats 4000000 in
theorem c_X5_isKind {g : Geo} {a1 : Int32} {σ : St} {r : Int32} {σ' : St} (h : f_X5_isKind a1 σ = some (r, σ')) : Ct g yX5_isKind cX5_isKind 1 (some .boolean) rm_X5_isKind [.int a1] σ (some (.int r)) σ' := by
  refine ct_of (own := RX5) (by decide) rfl (Nat.le_of_ble_eq_true rfl) (fun x C => ?_) ⟨rfl, rfl⟩
  show V g x _ 1 σ [(0, .int a1)] [] 0
  unfold f_X5_isKind at h
  refine v_iload_n C dX5_isKind_0 rfl 0 rfl ?_
  refine v_if_lt C (tgt := 13) dX5_isKind_1 (by decide) (fun q2 => ?_) (fun q2 => ?_)
  · rw [if_pos q2] at h
    refine V.sub (lv' := []) [] rfl ?_
    exact b_X5_isKind_13 C  _ _ _ h
  · rw [if_neg q2] at h
    refine v_iload_n C dX5_isKind_4 rfl 0 rfl ?_
    refine v_iconst C (v := (3 : Int32)) dX5_isKind_5 (by decide) ?_
    refine v_icmp_ge C (tgt := 13) dX5_isKind_6 (by decide) (fun q1 => ?_) (fun q1 => ?_)
    · rw [if_pos q1] at h
      refine V.sub (lv' := []) [] rfl ?_
      exact b_X5_isKind_13 C  _ _ _ h
    · rw [if_neg q1] at h
      refine v_iconst C (v := (1 : Int32)) dX5_isKind_9 (by decide) ?_
      refine v_goto C (tgt := 14) dX5_isKind_10 (by decide) ?_
      refine V.sub (lv' := []) [] rfl ?_
      exact b_X5_isKind_14 C _  _ _ _ h
theorem dX5_with_0 : decode cX5_with 0 = .ok (.aload_n 0, 1) := by decide +kernel
theorem dX5_with_1 : decode cX5_with 1 = .ok (.getfield 12, 3) := by decide +kernel
theorem dX5_with_4 : decode cX5_with 4 = .ok (.iload_n 1, 1) := by decide +kernel
theorem dX5_with_5 : decode cX5_with 5 = .ok (.invokevirtual 125, 3) := by decide +kernel
theorem dX5_with_8 : decode cX5_with 8 = .ok (.ifCond .eq 10, 3) := by decide +kernel
theorem dX5_with_11 : decode cX5_with 11 = .ok (.iload_n 2, 1) := by decide +kernel
theorem dX5_with_12 : decode cX5_with 12 = .ok (.invokestatic 128, 3) := by decide +kernel
theorem dX5_with_15 : decode cX5_with 15 = .ok (.ifCond .ne 7, 3) := by decide +kernel
theorem dX5_with_18 : decode cX5_with 18 = .ok (.ldc2_w 131, 3) := by decide +kernel
theorem dX5_with_21 : decode cX5_with 21 = .ok (.lreturn, 1) := by decide +kernel
theorem dX5_with_22 : decode cX5_with 22 = .ok (.aload_n 0, 1) := by decide +kernel
theorem dX5_with_23 : decode cX5_with 23 = .ok (.invokevirtual 118, 3) := by decide +kernel
theorem dX5_with_26 : decode cX5_with 26 = .ok (.aload_n 0, 1) := by decide +kernel
theorem dX5_with_27 : decode cX5_with 27 = .ok (.getfield 19, 3) := by decide +kernel
theorem dX5_with_30 : decode cX5_with 30 = .ok (.aload_n 0, 1) := by decide +kernel
theorem dX5_with_31 : decode cX5_with 31 = .ok (.getfield 12, 3) := by decide +kernel
theorem dX5_with_34 : decode cX5_with 34 = .ok (.iload_n 1, 1) := by decide +kernel
theorem dX5_with_35 : decode cX5_with 35 = .ok (.iload_n 2, 1) := by decide +kernel
theorem dX5_with_36 : decode cX5_with 36 = .ok (.invokevirtual 133, 3) := by decide +kernel
theorem dX5_with_39 : decode cX5_with 39 = .ok (.lreturn, 1) := by decide +kernel
def f_X5_with_18 (σ : St) : Option (Int64 × St) :=
  some ((-900001 : Int64), σ)
set_option maxRecDepth 100000 in
set_option maxHeartbeats 4000000 in
theorem b_X5_with_18 {g : Geo} {x : Cx} (C : Ok g x cX5_with RX5 3 (some .long) rm_X5_with) : ∀ (σ : St) (r : Int64) (σ' : St), f_X5_with_18 σ = some (r, σ') → V g x (qm g x (some (.long r)) σ') 3 σ [] [] 18 := by
  intro σ r σ' h
  unfold f_X5_with_18 at h
  refine v_ldc2_w C (v := (-900001 : Int64)) conl_RX5_131 dX5_with_18 ?_
  cases h
  exact v_lret C dX5_with_21
def f_X5_with (a1 : Int32) (a2 : Int32) (σ : St) : Option (Int64 × St) :=
  bd (f_X1_hasCell a1 σ) fun v1 σ2 =>
  if v1 = 0 then
    f_X5_with_18 σ2
  else
    bd (f_X5_isKind a2 σ2) fun v3 σ4 =>
    if v3 = 0 then
      f_X5_with_18 σ4
    else
      bd (f_X5_makeSteps σ4) fun _ σ6 =>
      bd (f_X3_waysThrough a1 a2 σ6) fun v7 σ8 =>
      some (v7, σ8)
set_option maxRecDepth 100000 in
set_option maxHeartbeats 4000000 in
theorem c_X5_with {g : Geo} {a1 : Int32} {a2 : Int32} {σ : St} {r : Int64} {σ' : St} (h : f_X5_with a1 a2 σ = some (r, σ')) : Ct g yX5_with cX5_with 3 (some .long) rm_X5_with [.ref (g.1 0), .int a1, .int a2] σ (some (.long r)) σ' := by
  refine ct_of (own := RX5) (by decide) rfl (Nat.le_of_ble_eq_true rfl) (fun x C => ?_) ⟨rfl, rfl⟩
  show V g x _ 3 σ [(0, .ref (g.1 0)), (1, .int a1), (2, .int a2)] [] 0
  unfold f_X5_with at h
  refine v_aload_n C dX5_with_0 rfl 0 rfl ?_
  refine v_getR C (p' := 1) fl_RX5_12 rfl rfl dX5_with_1 ?_
  refine v_iload_n C dX5_with_4 rfl 1 rfl ?_
  obtain ⟨v1, σ2, cσ2, h⟩ := bd_some h
  refine callVi C (c_X1_hasCell cσ2) km_X1_hasCell kv_X1_hasCell rfl ml_RX5_125 rfl rfl (by decide) (Nat.le_of_ble_eq_true rfl) dX5_with_5 ?_
  refine v_if_eq C (tgt := 18) dX5_with_8 (by decide) (fun q10 => ?_) (fun q10 => ?_)
  · rw [if_pos q10] at h
    refine V.sub (lv' := []) [] rfl ?_
    exact b_X5_with_18 C  _ _ _ h
  · rw [if_neg q10] at h
    refine v_iload_n C dX5_with_11 rfl 2 rfl ?_
    obtain ⟨v3, σ4, cσ4, h⟩ := bd_some h
    refine callSi C (c_X5_isKind cσ4) km_X5_isKind ks_X5_isKind ml_RX5_128 rfl rfl (by decide) (Nat.le_of_ble_eq_true rfl) dX5_with_12 ?_
    refine v_if_ne C (tgt := 22) dX5_with_15 (by decide) (fun q9 => ?_) (fun q9 => ?_)
    · rw [if_neg q9] at h
      refine v_aload_n C dX5_with_22 rfl 0 rfl ?_
      obtain ⟨v5, σ6, cσ6, h⟩ := bd_some h
      refine callVv C (c_X5_makeSteps cσ6) km_X5_makeSteps kv_X5_makeSteps rfl ml_RX5_118 rfl rfl (by decide) (Nat.le_of_ble_eq_true rfl) dX5_with_23 ?_
      refine v_aload_n C dX5_with_26 rfl 0 rfl ?_
      refine v_getR C (p' := 2) fl_RX5_19 rfl rfl dX5_with_27 ?_
      refine v_aload_n C dX5_with_30 rfl 0 rfl ?_
      refine v_getR C (p' := 1) fl_RX5_12 rfl rfl dX5_with_31 ?_
      refine v_iload_n C dX5_with_34 rfl 1 rfl ?_
      refine v_iload_n C dX5_with_35 rfl 2 rfl ?_
      obtain ⟨v7, σ8, cσ8, h⟩ := bd_some h
      refine callVl C (c_X3_waysThrough cσ8) km_X3_waysThrough kv_X3_waysThrough rfl ml_RX5_133 rfl rfl (by decide) (Nat.le_of_ble_eq_true rfl) dX5_with_36 ?_
      cases h
      exact v_lret C dX5_with_39
    · rw [if_pos q9] at h
      refine V.sub (lv' := []) [] rfl ?_
      exact b_X5_with_18 C  _ _ _ h
theorem dX5_kinds_0 : decode cX5_kinds 0 = .ok (.aload_n 0, 1) := by decide +kernel
theorem dX5_kinds_1 : decode cX5_kinds 1 = .ok (.getfield 12, 3) := by decide +kernel
theorem dX5_kinds_4 : decode cX5_kinds 4 = .ok (.iload_n 1, 1) := by decide +kernel
theorem dX5_kinds_5 : decode cX5_kinds 5 = .ok (.invokevirtual 125, 3) := by decide +kernel
theorem dX5_kinds_8 : decode cX5_kinds 8 = .ok (.ifCond .ne 6, 3) := by decide +kernel
theorem dX5_kinds_11 : decode cX5_kinds 11 = .ok (.ldc 95, 2) := by decide +kernel
theorem dX5_kinds_13 : decode cX5_kinds 13 = .ok (.ireturn, 1) := by decide +kernel
theorem dX5_kinds_14 : decode cX5_kinds 14 = .ok (.aload_n 0, 1) := by decide +kernel
theorem dX5_kinds_15 : decode cX5_kinds 15 = .ok (.invokevirtual 118, 3) := by decide +kernel
theorem dX5_kinds_18 : decode cX5_kinds 18 = .ok (.aload_n 0, 1) := by decide +kernel
theorem dX5_kinds_19 : decode cX5_kinds 19 = .ok (.getfield 19, 3) := by decide +kernel
theorem dX5_kinds_22 : decode cX5_kinds 22 = .ok (.aload_n 0, 1) := by decide +kernel
theorem dX5_kinds_23 : decode cX5_kinds 23 = .ok (.getfield 12, 3) := by decide +kernel
theorem dX5_kinds_26 : decode cX5_kinds 26 = .ok (.iload_n 1, 1) := by decide +kernel
theorem dX5_kinds_27 : decode cX5_kinds 27 = .ok (.invokevirtual 137, 3) := by decide +kernel
theorem dX5_kinds_30 : decode cX5_kinds 30 = .ok (.ireturn, 1) := by decide +kernel
def f_X5_kinds (a1 : Int32) (σ : St) : Option (Int32 × St) :=
  bd (f_X1_hasCell a1 σ) fun v1 σ2 =>
  if v1 = 0 then
    some ((-900001 : Int32), σ2)
  else
    bd (f_X5_makeSteps σ2) fun _ σ4 =>
    bd (f_X3_kindSet a1 σ4) fun v5 σ6 =>
    some (v5, σ6)
set_option maxRecDepth 100000 in
set_option maxHeartbeats 4000000 in
theorem c_X5_kinds {g : Geo} {a1 : Int32} {σ : St} {r : Int32} {σ' : St} (h : f_X5_kinds a1 σ = some (r, σ')) : Ct g yX5_kinds cX5_kinds 2 (some .int) rm_X5_kinds [.ref (g.1 0), .int a1] σ (some (.int r)) σ' := by
  refine ct_of (own := RX5) (by decide) rfl (Nat.le_of_ble_eq_true rfl) (fun x C => ?_) ⟨rfl, rfl⟩
  show V g x _ 2 σ [(0, .ref (g.1 0)), (1, .int a1)] [] 0
  unfold f_X5_kinds at h
  refine v_aload_n C dX5_kinds_0 rfl 0 rfl ?_
  refine v_getR C (p' := 1) fl_RX5_12 rfl rfl dX5_kinds_1 ?_
  refine v_iload_n C dX5_kinds_4 rfl 1 rfl ?_
  obtain ⟨v1, σ2, cσ2, h⟩ := bd_some h
  refine callVi C (c_X1_hasCell cσ2) km_X1_hasCell kv_X1_hasCell rfl ml_RX5_125 rfl rfl (by decide) (Nat.le_of_ble_eq_true rfl) dX5_kinds_5 ?_
  refine v_if_ne C (tgt := 14) dX5_kinds_8 (by decide) (fun q7 => ?_) (fun q7 => ?_)
  · rw [if_neg q7] at h
    refine v_aload_n C dX5_kinds_14 rfl 0 rfl ?_
    obtain ⟨v3, σ4, cσ4, h⟩ := bd_some h
    refine callVv C (c_X5_makeSteps cσ4) km_X5_makeSteps kv_X5_makeSteps rfl ml_RX5_118 rfl rfl (by decide) (Nat.le_of_ble_eq_true rfl) dX5_kinds_15 ?_
    refine v_aload_n C dX5_kinds_18 rfl 0 rfl ?_
    refine v_getR C (p' := 2) fl_RX5_19 rfl rfl dX5_kinds_19 ?_
    refine v_aload_n C dX5_kinds_22 rfl 0 rfl ?_
    refine v_getR C (p' := 1) fl_RX5_12 rfl rfl dX5_kinds_23 ?_
    refine v_iload_n C dX5_kinds_26 rfl 1 rfl ?_
    obtain ⟨v5, σ6, cσ6, h⟩ := bd_some h
    refine callVi C (c_X3_kindSet cσ6) km_X3_kindSet kv_X3_kindSet rfl ml_RX5_137 rfl rfl (by decide) (Nat.le_of_ble_eq_true rfl) dX5_kinds_27 ?_
    cases h
    exact v_iret C dX5_kinds_30
  · rw [if_pos q7] at h
    refine v_ldc C (v := (-900001 : Int32)) con_RX5_95 dX5_kinds_11 ?_
    cases h
    exact v_iret C dX5_kinds_13
theorem dJ6_bitCount_0f7a4_0 : decode cJ6_bitCount_0f7a4 0 = .ok (.iload_n 0, 1) := by decide +kernel
theorem dJ6_bitCount_0f7a4_1 : decode cJ6_bitCount_0f7a4 1 = .ok (.iload_n 0, 1) := by decide +kernel
theorem dJ6_bitCount_0f7a4_2 : decode cJ6_bitCount_0f7a4 2 = .ok (.iconst 1, 1) := by decide +kernel
theorem dJ6_bitCount_0f7a4_3 : decode cJ6_bitCount_0f7a4 3 = .ok (.iushr, 1) := by decide +kernel
theorem dJ6_bitCount_0f7a4_4 : decode cJ6_bitCount_0f7a4 4 = .ok (.ldc_w 265, 3) := by decide +kernel
theorem dJ6_bitCount_0f7a4_7 : decode cJ6_bitCount_0f7a4 7 = .ok (.iand, 1) := by decide +kernel
theorem dJ6_bitCount_0f7a4_8 : decode cJ6_bitCount_0f7a4 8 = .ok (.isub, 1) := by decide +kernel
theorem dJ6_bitCount_0f7a4_9 : decode cJ6_bitCount_0f7a4 9 = .ok (.istore_n 0, 1) := by decide +kernel
theorem dJ6_bitCount_0f7a4_10 : decode cJ6_bitCount_0f7a4 10 = .ok (.iload_n 0, 1) := by decide +kernel
theorem dJ6_bitCount_0f7a4_11 : decode cJ6_bitCount_0f7a4 11 = .ok (.ldc_w 266, 3) := by decide +kernel
theorem dJ6_bitCount_0f7a4_14 : decode cJ6_bitCount_0f7a4 14 = .ok (.iand, 1) := by decide +kernel
theorem dJ6_bitCount_0f7a4_15 : decode cJ6_bitCount_0f7a4 15 = .ok (.iload_n 0, 1) := by decide +kernel
theorem dJ6_bitCount_0f7a4_16 : decode cJ6_bitCount_0f7a4 16 = .ok (.iconst 2, 1) := by decide +kernel
theorem dJ6_bitCount_0f7a4_17 : decode cJ6_bitCount_0f7a4 17 = .ok (.iushr, 1) := by decide +kernel
theorem dJ6_bitCount_0f7a4_18 : decode cJ6_bitCount_0f7a4 18 = .ok (.ldc_w 266, 3) := by decide +kernel
theorem dJ6_bitCount_0f7a4_21 : decode cJ6_bitCount_0f7a4 21 = .ok (.iand, 1) := by decide +kernel
theorem dJ6_bitCount_0f7a4_22 : decode cJ6_bitCount_0f7a4 22 = .ok (.iadd, 1) := by decide +kernel
theorem dJ6_bitCount_0f7a4_23 : decode cJ6_bitCount_0f7a4 23 = .ok (.istore_n 0, 1) := by decide +kernel
theorem dJ6_bitCount_0f7a4_24 : decode cJ6_bitCount_0f7a4 24 = .ok (.iload_n 0, 1) := by decide +kernel
theorem dJ6_bitCount_0f7a4_25 : decode cJ6_bitCount_0f7a4 25 = .ok (.iload_n 0, 1) := by decide +kernel
theorem dJ6_bitCount_0f7a4_26 : decode cJ6_bitCount_0f7a4 26 = .ok (.iconst 4, 1) := by decide +kernel
theorem dJ6_bitCount_0f7a4_27 : decode cJ6_bitCount_0f7a4 27 = .ok (.iushr, 1) := by decide +kernel
theorem dJ6_bitCount_0f7a4_28 : decode cJ6_bitCount_0f7a4 28 = .ok (.iadd, 1) := by decide +kernel
theorem dJ6_bitCount_0f7a4_29 : decode cJ6_bitCount_0f7a4 29 = .ok (.ldc_w 267, 3) := by decide +kernel
theorem dJ6_bitCount_0f7a4_32 : decode cJ6_bitCount_0f7a4 32 = .ok (.iand, 1) := by decide +kernel
theorem dJ6_bitCount_0f7a4_33 : decode cJ6_bitCount_0f7a4 33 = .ok (.istore_n 0, 1) := by decide +kernel
theorem dJ6_bitCount_0f7a4_34 : decode cJ6_bitCount_0f7a4 34 = .ok (.iload_n 0, 1) := by decide +kernel
theorem dJ6_bitCount_0f7a4_35 : decode cJ6_bitCount_0f7a4 35 = .ok (.iload_n 0, 1) := by decide +kernel
theorem dJ6_bitCount_0f7a4_36 : decode cJ6_bitCount_0f7a4 36 = .ok (.bipush 8, 2) := by decide +kernel
theorem dJ6_bitCount_0f7a4_38 : decode cJ6_bitCount_0f7a4 38 = .ok (.iushr, 1) := by decide +kernel
theorem dJ6_bitCount_0f7a4_39 : decode cJ6_bitCount_0f7a4 39 = .ok (.iadd, 1) := by decide +kernel
theorem dJ6_bitCount_0f7a4_40 : decode cJ6_bitCount_0f7a4 40 = .ok (.istore_n 0, 1) := by decide +kernel
theorem dJ6_bitCount_0f7a4_41 : decode cJ6_bitCount_0f7a4 41 = .ok (.iload_n 0, 1) := by decide +kernel
theorem dJ6_bitCount_0f7a4_42 : decode cJ6_bitCount_0f7a4 42 = .ok (.iload_n 0, 1) := by decide +kernel
theorem dJ6_bitCount_0f7a4_43 : decode cJ6_bitCount_0f7a4 43 = .ok (.bipush 16, 2) := by decide +kernel
theorem dJ6_bitCount_0f7a4_45 : decode cJ6_bitCount_0f7a4 45 = .ok (.iushr, 1) := by decide +kernel
theorem dJ6_bitCount_0f7a4_46 : decode cJ6_bitCount_0f7a4 46 = .ok (.iadd, 1) := by decide +kernel
theorem dJ6_bitCount_0f7a4_47 : decode cJ6_bitCount_0f7a4 47 = .ok (.istore_n 0, 1) := by decide +kernel
theorem dJ6_bitCount_0f7a4_48 : decode cJ6_bitCount_0f7a4 48 = .ok (.iload_n 0, 1) := by decide +kernel
theorem dJ6_bitCount_0f7a4_49 : decode cJ6_bitCount_0f7a4 49 = .ok (.bipush 63, 2) := by decide +kernel
theorem dJ6_bitCount_0f7a4_51 : decode cJ6_bitCount_0f7a4 51 = .ok (.iand, 1) := by decide +kernel
theorem dJ6_bitCount_0f7a4_52 : decode cJ6_bitCount_0f7a4 52 = .ok (.ireturn, 1) := by decide +kernel
def f_J6_bitCount_0f7a4_48 (x0 : Int32) (σ : St) : Option (Int32 × St) :=
  some ((x0 &&& (63 : Int32)), σ)
set_option maxRecDepth 100000 in
set_option maxHeartbeats 4000000 in
theorem b_J6_bitCount_0f7a4_48 {g : Geo} {x : Cx} (C : Ok g x cJ6_bitCount_0f7a4 RJ6 1 (some .int) rm_J6_bitCount_0f7a4) : ∀ (x0 : Int32) (σ : St) (r : Int32) (σ' : St), f_J6_bitCount_0f7a4_48 x0 σ = some (r, σ') → V g x (qm g x (some (.int r)) σ') 1 σ [(0, .int x0)] [] 48 := by
  intro x0 σ r σ' h
  unfold f_J6_bitCount_0f7a4_48 at h
  refine v_iload_n C dJ6_bitCount_0f7a4_48 rfl 0 rfl ?_
  refine v_bipush C (v := (63 : Int32)) dJ6_bitCount_0f7a4_49 (by decide) ?_
  refine v_iand C dJ6_bitCount_0f7a4_51 ?_
  cases h
  exact v_iret C dJ6_bitCount_0f7a4_52
def f_J6_bitCount_0f7a4_41 (x0 : Int32) (σ : St) : Option (Int32 × St) :=
  f_J6_bitCount_0f7a4_48 (x0 + (jushr x0 (16 : Int32))) σ
set_option maxRecDepth 100000 in
set_option maxHeartbeats 4000000 in
theorem b_J6_bitCount_0f7a4_41 {g : Geo} {x : Cx} (C : Ok g x cJ6_bitCount_0f7a4 RJ6 1 (some .int) rm_J6_bitCount_0f7a4) : ∀ (x0 : Int32) (σ : St) (r : Int32) (σ' : St), f_J6_bitCount_0f7a4_41 x0 σ = some (r, σ') → V g x (qm g x (some (.int r)) σ') 1 σ [(0, .int x0)] [] 41 := by
  intro x0 σ r σ' h
  unfold f_J6_bitCount_0f7a4_41 at h
  refine v_iload_n C dJ6_bitCount_0f7a4_41 rfl 0 rfl ?_
  refine v_iload_n C dJ6_bitCount_0f7a4_42 rfl 0 rfl ?_
  refine v_bipush C (v := (16 : Int32)) dJ6_bitCount_0f7a4_43 (by decide) ?_
  refine v_iushr C dJ6_bitCount_0f7a4_45 ?_
  refine v_iadd C dJ6_bitCount_0f7a4_46 ?_
  refine v_istore_n C (lv' := [(0, .int _)]) dJ6_bitCount_0f7a4_47 rfl (by decide) rfl ?_
  refine V.sub (lv' := [(0, .int _)]) [0] rfl ?_
  exact b_J6_bitCount_0f7a4_48 C _  _ _ _ h
def f_J6_bitCount_0f7a4_34 (x0 : Int32) (σ : St) : Option (Int32 × St) :=
  f_J6_bitCount_0f7a4_41 (x0 + (jushr x0 (8 : Int32))) σ
set_option maxRecDepth 100000 in
set_option maxHeartbeats 4000000 in
theorem b_J6_bitCount_0f7a4_34 {g : Geo} {x : Cx} (C : Ok g x cJ6_bitCount_0f7a4 RJ6 1 (some .int) rm_J6_bitCount_0f7a4) : ∀ (x0 : Int32) (σ : St) (r : Int32) (σ' : St), f_J6_bitCount_0f7a4_34 x0 σ = some (r, σ') → V g x (qm g x (some (.int r)) σ') 1 σ [(0, .int x0)] [] 34 := by
  intro x0 σ r σ' h
  unfold f_J6_bitCount_0f7a4_34 at h
  refine v_iload_n C dJ6_bitCount_0f7a4_34 rfl 0 rfl ?_
  refine v_iload_n C dJ6_bitCount_0f7a4_35 rfl 0 rfl ?_
  refine v_bipush C (v := (8 : Int32)) dJ6_bitCount_0f7a4_36 (by decide) ?_
  refine v_iushr C dJ6_bitCount_0f7a4_38 ?_
  refine v_iadd C dJ6_bitCount_0f7a4_39 ?_
  refine v_istore_n C (lv' := [(0, .int _)]) dJ6_bitCount_0f7a4_40 rfl (by decide) rfl ?_
  refine V.sub (lv' := [(0, .int _)]) [0] rfl ?_
  exact b_J6_bitCount_0f7a4_41 C _  _ _ _ h
def f_J6_bitCount_0f7a4_24 (x0 : Int32) (σ : St) : Option (Int32 × St) :=
  f_J6_bitCount_0f7a4_34 ((x0 + (jushr x0 (4 : Int32))) &&& (252645135 : Int32)) σ
set_option maxRecDepth 100000 in
set_option maxHeartbeats 4000000 in
theorem b_J6_bitCount_0f7a4_24 {g : Geo} {x : Cx} (C : Ok g x cJ6_bitCount_0f7a4 RJ6 1 (some .int) rm_J6_bitCount_0f7a4) : ∀ (x0 : Int32) (σ : St) (r : Int32) (σ' : St), f_J6_bitCount_0f7a4_24 x0 σ = some (r, σ') → V g x (qm g x (some (.int r)) σ') 1 σ [(0, .int x0)] [] 24 := by
  intro x0 σ r σ' h
  unfold f_J6_bitCount_0f7a4_24 at h
  refine v_iload_n C dJ6_bitCount_0f7a4_24 rfl 0 rfl ?_
  refine v_iload_n C dJ6_bitCount_0f7a4_25 rfl 0 rfl ?_
  refine v_iconst C (v := (4 : Int32)) dJ6_bitCount_0f7a4_26 (by decide) ?_
  refine v_iushr C dJ6_bitCount_0f7a4_27 ?_
  refine v_iadd C dJ6_bitCount_0f7a4_28 ?_
  refine v_ldc_w C (v := (252645135 : Int32)) con_RJ6_267 dJ6_bitCount_0f7a4_29 ?_
  refine v_iand C dJ6_bitCount_0f7a4_32 ?_
  refine v_istore_n C (lv' := [(0, .int _)]) dJ6_bitCount_0f7a4_33 rfl (by decide) rfl ?_
  refine V.sub (lv' := [(0, .int _)]) [0] rfl ?_
  exact b_J6_bitCount_0f7a4_34 C _  _ _ _ h
def f_J6_bitCount_0f7a4_10 (x0 : Int32) (σ : St) : Option (Int32 × St) :=
  f_J6_bitCount_0f7a4_24 ((x0 &&& (858993459 : Int32)) + ((jushr x0 (2 : Int32)) &&& (858993459 : Int32))) σ
set_option maxRecDepth 100000 in
set_option maxHeartbeats 4000000 in
theorem b_J6_bitCount_0f7a4_10 {g : Geo} {x : Cx} (C : Ok g x cJ6_bitCount_0f7a4 RJ6 1 (some .int) rm_J6_bitCount_0f7a4) : ∀ (x0 : Int32) (σ : St) (r : Int32) (σ' : St), f_J6_bitCount_0f7a4_10 x0 σ = some (r, σ') → V g x (qm g x (some (.int r)) σ') 1 σ [(0, .int x0)] [] 10 := by
  intro x0 σ r σ' h
  unfold f_J6_bitCount_0f7a4_10 at h
  refine v_iload_n C dJ6_bitCount_0f7a4_10 rfl 0 rfl ?_
  refine v_ldc_w C (v := (858993459 : Int32)) con_RJ6_266 dJ6_bitCount_0f7a4_11 ?_
  refine v_iand C dJ6_bitCount_0f7a4_14 ?_
  refine v_iload_n C dJ6_bitCount_0f7a4_15 rfl 0 rfl ?_
  refine v_iconst C (v := (2 : Int32)) dJ6_bitCount_0f7a4_16 (by decide) ?_
  refine v_iushr C dJ6_bitCount_0f7a4_17 ?_
  refine v_ldc_w C (v := (858993459 : Int32)) con_RJ6_266 dJ6_bitCount_0f7a4_18 ?_
  refine v_iand C dJ6_bitCount_0f7a4_21 ?_
  refine v_iadd C dJ6_bitCount_0f7a4_22 ?_
  refine v_istore_n C (lv' := [(0, .int _)]) dJ6_bitCount_0f7a4_23 rfl (by decide) rfl ?_
  refine V.sub (lv' := [(0, .int _)]) [0] rfl ?_
  exact b_J6_bitCount_0f7a4_24 C _  _ _ _ h
def f_J6_bitCount_0f7a4 (a1 : Int32) (σ : St) : Option (Int32 × St) :=
  f_J6_bitCount_0f7a4_10 (a1 - ((jushr a1 (1 : Int32)) &&& (1431655765 : Int32))) σ
set_option maxRecDepth 100000 in
set_option maxHeartbeats 4000000 in
theorem c_J6_bitCount_0f7a4 {g : Geo} {a1 : Int32} {σ : St} {r : Int32} {σ' : St} (h : f_J6_bitCount_0f7a4 a1 σ = some (r, σ')) : Ct g yJ6_bitCount_0f7a4 cJ6_bitCount_0f7a4 1 (some .int) rm_J6_bitCount_0f7a4 [.int a1] σ (some (.int r)) σ' := by
  refine ct_of (own := RJ6) (by decide) rfl (Nat.le_of_ble_eq_true rfl) (fun x C => ?_) ⟨rfl, rfl⟩
  show V g x _ 1 σ [(0, .int a1)] [] 0
  unfold f_J6_bitCount_0f7a4 at h
  refine v_iload_n C dJ6_bitCount_0f7a4_0 rfl 0 rfl ?_
  refine v_iload_n C dJ6_bitCount_0f7a4_1 rfl 0 rfl ?_
  refine v_iconst C (v := (1 : Int32)) dJ6_bitCount_0f7a4_2 (by decide) ?_
  refine v_iushr C dJ6_bitCount_0f7a4_3 ?_
  refine v_ldc_w C (v := (1431655765 : Int32)) con_RJ6_265 dJ6_bitCount_0f7a4_4 ?_
  refine v_iand C dJ6_bitCount_0f7a4_7 ?_
  refine v_isub C dJ6_bitCount_0f7a4_8 ?_
  refine v_istore_n C (lv' := [(0, .int _)]) dJ6_bitCount_0f7a4_9 rfl (by decide) rfl ?_
  refine V.sub (lv' := [(0, .int _)]) [0] rfl ?_
  exact b_J6_bitCount_0f7a4_10 C _  _ _ _ h
theorem dX5_forced_0 : decode cX5_forced 0 = .ok (.aload_n 0, 1) := by decide +kernel
theorem dX5_forced_1 : decode cX5_forced 1 = .ok (.invokevirtual 118, 3) := by decide +kernel
theorem dX5_forced_4 : decode cX5_forced 4 = .ok (.iconst 0, 1) := by decide +kernel
theorem dX5_forced_5 : decode cX5_forced 5 = .ok (.istore_n 1, 1) := by decide +kernel
theorem dX5_forced_6 : decode cX5_forced 6 = .ok (.iconst 0, 1) := by decide +kernel
theorem dX5_forced_7 : decode cX5_forced 7 = .ok (.istore_n 2, 1) := by decide +kernel
theorem dX5_forced_8 : decode cX5_forced 8 = .ok (.iload_n 2, 1) := by decide +kernel
theorem dX5_forced_9 : decode cX5_forced 9 = .ok (.aload_n 0, 1) := by decide +kernel
theorem dX5_forced_10 : decode cX5_forced 10 = .ok (.getfield 12, 3) := by decide +kernel
theorem dX5_forced_13 : decode cX5_forced 13 = .ok (.getfield 66, 3) := by decide +kernel
theorem dX5_forced_16 : decode cX5_forced 16 = .ok (.if_icmp .ge 31, 3) := by decide +kernel
theorem dX5_forced_19 : decode cX5_forced 19 = .ok (.aload_n 0, 1) := by decide +kernel
theorem dX5_forced_20 : decode cX5_forced 20 = .ok (.getfield 19, 3) := by decide +kernel
theorem dX5_forced_23 : decode cX5_forced 23 = .ok (.aload_n 0, 1) := by decide +kernel
theorem dX5_forced_24 : decode cX5_forced 24 = .ok (.getfield 12, 3) := by decide +kernel
theorem dX5_forced_27 : decode cX5_forced 27 = .ok (.iload_n 2, 1) := by decide +kernel
theorem dX5_forced_28 : decode cX5_forced 28 = .ok (.invokevirtual 137, 3) := by decide +kernel
theorem dX5_forced_31 : decode cX5_forced 31 = .ok (.invokestatic 141, 3) := by decide +kernel
theorem dX5_forced_34 : decode cX5_forced 34 = .ok (.iconst 1, 1) := by decide +kernel
theorem dX5_forced_35 : decode cX5_forced 35 = .ok (.if_icmp .ne 6, 3) := by decide +kernel
theorem dX5_forced_38 : decode cX5_forced 38 = .ok (.iinc 1 1, 3) := by decide +kernel
theorem dX5_forced_41 : decode cX5_forced 41 = .ok (.iinc 2 1, 3) := by decide +kernel
theorem dX5_forced_44 : decode cX5_forced 44 = .ok (.goto (-36), 3) := by decide +kernel
theorem dX5_forced_47 : decode cX5_forced 47 = .ok (.iload_n 1, 1) := by decide +kernel
theorem dX5_forced_48 : decode cX5_forced 48 = .ok (.ireturn, 1) := by decide +kernel
def f_X5_forced_41 (k8 : Int32 → Int32 → St → Option (Int32 × St)) (x1 : Int32) (x2 : Int32) (σ : St) : Option (Int32 × St) :=
  k8 x1 (x2 + 1) σ
set_option maxRecDepth 100000 in
set_option maxHeartbeats 4000000 in
theorem b_X5_forced_41 {g : Geo} {x : Cx} (C : Ok g x cX5_forced RX5 3 (some .int) rm_X5_forced) (k8 : Int32 → Int32 → St → Option (Int32 × St)) (hk8 : ∀ (x1 : Int32) (x2 : Int32) (τ : St) (r : Int32) (τ' : St), k8 x1 x2 τ = some (r, τ') → V g x (qm g x (some (.int r)) τ') 3 τ [(0, .ref (g.1 0)), (1, .int x1), (2, .int x2)] [] 8) : ∀ (x1 : Int32) (x2 : Int32) (σ : St) (r : Int32) (σ' : St), f_X5_forced_41 k8 x1 x2 σ = some (r, σ') → V g x (qm g x (some (.int r)) σ') 3 σ [(0, .ref (g.1 0)), (1, .int x1), (2, .int x2)] [] 41 := by
  intro x1 x2 σ r σ' h
  unfold f_X5_forced_41 at h
  refine v_iinc C (v := (x2 + 1)) (lv' := [(2, .int _), (0, .ref _), (1, .int _)]) dX5_forced_41 2 rfl rfl (by decide) rfl ?_
  refine v_goto C (tgt := 8) dX5_forced_44 (by decide) ?_
  refine V.sub (lv' := [(0, .ref _), (1, .int _), (2, .int _)]) [1, 2, 0] rfl ?_
  exact hk8 _ _  _ _ _ h
def f_X5_forced_8 : Nat → Int32 → Int32 → St → Option (Int32 × St)
  | 0, _, _, _ => none
  | n + 1, x1, x2, σ =>
    if (gi σ 1 2) ≤ x2 then
      some (x1, σ)
    else
      bd (f_X3_kindSet x2 σ) fun v1 σ2 =>
      bd (f_J6_bitCount_0f7a4 v1 σ2) fun v3 σ4 =>
      if v3 = (1 : Int32) then
        f_X5_forced_41 (f_X5_forced_8 n) (x1 + 1) x2 σ4
      else
        f_X5_forced_41 (f_X5_forced_8 n) x1 x2 σ4
set_option maxRecDepth 100000 in
set_option maxHeartbeats 4000000 in
theorem b_X5_forced_8 {g : Geo} {x : Cx} (C : Ok g x cX5_forced RX5 3 (some .int) rm_X5_forced) : ∀ (n : Nat) (x1 : Int32) (x2 : Int32) (σ : St) (r : Int32) (σ' : St), f_X5_forced_8 n x1 x2 σ = some (r, σ') → V g x (qm g x (some (.int r)) σ') 3 σ [(0, .ref (g.1 0)), (1, .int x1), (2, .int x2)] [] 8 := by
  intro n
  induction n with
  | zero =>
    intro x1 x2 σ r σ' h
    rw [f_X5_forced_8] at h
    cases h
  | succ n ih =>
    intro x1 x2 σ r σ' h
    rw [f_X5_forced_8] at h
    refine v_iload_n C dX5_forced_8 rfl 2 rfl ?_
    refine v_aload_n C dX5_forced_9 rfl 0 rfl ?_
    refine v_getR C (p' := 1) fl_RX5_12 rfl rfl dX5_forced_10 ?_
    refine v_getI C fl_RX5_66 rfl dX5_forced_13 ?_
    refine v_icmp_ge C (tgt := 47) dX5_forced_16 (by decide) (fun q6 => ?_) (fun q6 => ?_)
    · rw [if_pos q6] at h
      refine v_iload_n C dX5_forced_47 rfl 1 rfl ?_
      cases h
      exact v_iret C dX5_forced_48
    · rw [if_neg q6] at h
      refine v_aload_n C dX5_forced_19 rfl 0 rfl ?_
      refine v_getR C (p' := 2) fl_RX5_19 rfl rfl dX5_forced_20 ?_
      refine v_aload_n C dX5_forced_23 rfl 0 rfl ?_
      refine v_getR C (p' := 1) fl_RX5_12 rfl rfl dX5_forced_24 ?_
      refine v_iload_n C dX5_forced_27 rfl 2 rfl ?_
      obtain ⟨v1, σ2, cσ2, h⟩ := bd_some h
      refine callVi C (c_X3_kindSet cσ2) km_X3_kindSet kv_X3_kindSet rfl ml_RX5_137 rfl rfl (by decide) (Nat.le_of_ble_eq_true rfl) dX5_forced_28 ?_
      obtain ⟨v3, σ4, cσ4, h⟩ := bd_some h
      refine callSi C (c_J6_bitCount_0f7a4 cσ4) km_J6_bitCount_0f7a4 ks_J6_bitCount_0f7a4 ml_RX5_141 rfl rfl (by decide) (Nat.le_of_ble_eq_true rfl) dX5_forced_31 ?_
      refine v_iconst C (v := (1 : Int32)) dX5_forced_34 (by decide) ?_
      refine v_icmp_ne C (tgt := 41) dX5_forced_35 (by decide) (fun q5 => ?_) (fun q5 => ?_)
      · rw [if_neg q5] at h
        refine V.sub (lv' := [(0, .ref _), (1, .int _), (2, .int _)]) [0, 1, 2] rfl ?_
        exact b_X5_forced_41 C _ ih _ _  _ _ _ h
      · rw [if_pos q5] at h
        refine v_iinc C (v := (x1 + 1)) (lv' := [(1, .int _), (0, .ref _), (2, .int _)]) dX5_forced_38 1 rfl rfl (by decide) rfl ?_
        refine V.sub (lv' := [(0, .ref _), (1, .int _), (2, .int _)]) [1, 0, 2] rfl ?_
        exact b_X5_forced_41 C _ ih _ _  _ _ _ h
def f_X5_forced (σ : St) : Option (Int32 × St) :=
  bd (f_X5_makeSteps σ) fun _ σ2 =>
  f_X5_forced_8 FU (0 : Int32) (0 : Int32) σ2
set_option maxRecDepth 100000 in
set_option maxHeartbeats 4000000 in
theorem c_X5_forced {g : Geo} {σ : St} {r : Int32} {σ' : St} (h : f_X5_forced σ = some (r, σ')) : Ct g yX5_forced cX5_forced 3 (some .int) rm_X5_forced [.ref (g.1 0)] σ (some (.int r)) σ' := by
  refine ct_of (own := RX5) (by decide) rfl (Nat.le_of_ble_eq_true rfl) (fun x C => ?_) ⟨rfl, rfl⟩
  show V g x _ 3 σ [(0, .ref (g.1 0))] [] 0
  unfold f_X5_forced at h
  refine v_aload_n C dX5_forced_0 rfl 0 rfl ?_
  obtain ⟨v1, σ2, cσ2, h⟩ := bd_some h
  refine callVv C (c_X5_makeSteps cσ2) km_X5_makeSteps kv_X5_makeSteps rfl ml_RX5_118 rfl rfl (by decide) (Nat.le_of_ble_eq_true rfl) dX5_forced_1 ?_
  refine v_iconst C (v := (0 : Int32)) dX5_forced_4 (by decide) ?_
  refine v_istore_n C (lv' := [(1, .int _), (0, .ref _)]) dX5_forced_5 rfl (by decide) rfl ?_
  refine v_iconst C (v := (0 : Int32)) dX5_forced_6 (by decide) ?_
  refine v_istore_n C (lv' := [(2, .int _), (1, .int _), (0, .ref _)]) dX5_forced_7 rfl (by decide) rfl ?_
  refine V.sub (lv' := [(0, .ref _), (1, .int _), (2, .int _)]) [2, 1, 0] rfl ?_
  exact b_X5_forced_8 C FU _ _  _ _ _ h
theorem dX5_span_0 : decode cX5_span 0 = .ok (.iload_n 1, 1) := by decide +kernel
theorem dX5_span_1 : decode cX5_span 1 = .ok (.invokestatic 128, 3) := by decide +kernel
theorem dX5_span_4 : decode cX5_span 4 = .ok (.ifCond .ne 6, 3) := by decide +kernel
theorem dX5_span_7 : decode cX5_span 7 = .ok (.ldc 95, 2) := by decide +kernel
theorem dX5_span_9 : decode cX5_span 9 = .ok (.ireturn, 1) := by decide +kernel
theorem dX5_span_10 : decode cX5_span 10 = .ok (.aload_n 0, 1) := by decide +kernel
theorem dX5_span_11 : decode cX5_span 11 = .ok (.invokevirtual 118, 3) := by decide +kernel
theorem dX5_span_14 : decode cX5_span 14 = .ok (.aload_n 0, 1) := by decide +kernel
theorem dX5_span_15 : decode cX5_span 15 = .ok (.getfield 19, 3) := by decide +kernel
theorem dX5_span_18 : decode cX5_span 18 = .ok (.invokevirtual 121, 3) := by decide +kernel
theorem dX5_span_21 : decode cX5_span 21 = .ok (.lconst 0, 1) := by decide +kernel
theorem dX5_span_22 : decode cX5_span 22 = .ok (.lcmp, 1) := by decide +kernel
theorem dX5_span_23 : decode cX5_span 23 = .ok (.ifCond .ne 6, 3) := by decide +kernel
theorem dX5_span_26 : decode cX5_span 26 = .ok (.ldc 146, 2) := by decide +kernel
theorem dX5_span_28 : decode cX5_span 28 = .ok (.ireturn, 1) := by decide +kernel
theorem dX5_span_29 : decode cX5_span 29 = .ok (.iload_n 2, 1) := by decide +kernel
theorem dX5_span_30 : decode cX5_span 30 = .ok (.ifCond .eq 7, 3) := by decide +kernel
theorem dX5_span_33 : decode cX5_span 33 = .ok (.iconst 1, 1) := by decide +kernel
theorem dX5_span_34 : decode cX5_span 34 = .ok (.goto 4, 3) := by decide +kernel
theorem dX5_span_37 : decode cX5_span 37 = .ok (.iconst (-1), 1) := by decide +kernel
theorem dX5_span_38 : decode cX5_span 38 = .ok (.istore_n 3, 1) := by decide +kernel
theorem dX5_span_39 : decode cX5_span 39 = .ok (.iconst 0, 1) := by decide +kernel
theorem dX5_span_40 : decode cX5_span 40 = .ok (.istore 4, 2) := by decide +kernel
theorem dX5_span_42 : decode cX5_span 42 = .ok (.iload 4, 2) := by decide +kernel
theorem dX5_span_44 : decode cX5_span 44 = .ok (.aload_n 0, 1) := by decide +kernel
theorem dX5_span_45 : decode cX5_span 45 = .ok (.getfield 52, 3) := by decide +kernel
theorem dX5_span_48 : decode cX5_span 48 = .ok (.arraylength, 1) := by decide +kernel
theorem dX5_span_49 : decode cX5_span 49 = .ok (.if_icmp .ge 29, 3) := by decide +kernel
theorem dX5_span_52 : decode cX5_span 52 = .ok (.aload_n 0, 1) := by decide +kernel
theorem dX5_span_53 : decode cX5_span 53 = .ok (.getfield 52, 3) := by decide +kernel
theorem dX5_span_56 : decode cX5_span 56 = .ok (.iload 4, 2) := by decide +kernel
theorem dX5_span_58 : decode cX5_span 58 = .ok (.iload 4, 2) := by decide +kernel
theorem dX5_span_60 : decode cX5_span 60 = .ok (.iconst 3, 1) := by decide +kernel
theorem dX5_span_61 : decode cX5_span 61 = .ok (.irem, 1) := by decide +kernel
theorem dX5_span_62 : decode cX5_span 62 = .ok (.iload_n 1, 1) := by decide +kernel
theorem dX5_span_63 : decode cX5_span 63 = .ok (.if_icmp .ne 7, 3) := by decide +kernel
theorem dX5_span_66 : decode cX5_span 66 = .ok (.iload_n 3, 1) := by decide +kernel
theorem dX5_span_67 : decode cX5_span 67 = .ok (.goto 4, 3) := by decide +kernel
theorem dX5_span_70 : decode cX5_span 70 = .ok (.iconst 0, 1) := by decide +kernel
theorem dX5_span_71 : decode cX5_span 71 = .ok (.iastore, 1) := by decide +kernel
theorem dX5_span_72 : decode cX5_span 72 = .ok (.iinc 4 1, 3) := by decide +kernel
theorem dX5_span_75 : decode cX5_span 75 = .ok (.goto (-33), 3) := by decide +kernel
theorem dX5_span_78 : decode cX5_span 78 = .ok (.iload_n 3, 1) := by decide +kernel
theorem dX5_span_79 : decode cX5_span 79 = .ok (.aload_n 0, 1) := by decide +kernel
theorem dX5_span_80 : decode cX5_span 80 = .ok (.getfield 19, 3) := by decide +kernel
theorem dX5_span_83 : decode cX5_span 83 = .ok (.aload_n 0, 1) := by decide +kernel
theorem dX5_span_84 : decode cX5_span 84 = .ok (.getfield 12, 3) := by decide +kernel
theorem dX5_span_87 : decode cX5_span 87 = .ok (.aload_n 0, 1) := by decide +kernel
theorem dX5_span_88 : decode cX5_span 88 = .ok (.getfield 52, 3) := by decide +kernel
theorem dX5_span_91 : decode cX5_span 91 = .ok (.invokevirtual 147, 3) := by decide +kernel
theorem dX5_span_94 : decode cX5_span 94 = .ok (.imul, 1) := by decide +kernel
theorem dX5_span_95 : decode cX5_span 95 = .ok (.ireturn, 1) := by decide +kernel
def f_X5_span_71 (k42 : Int32 → Int32 → Int32 → St → Option (Int32 × St)) (x1 : Int32) (x3 : Int32) (x4 : Int32) (s1 : Int32) (s2 : Int32) (σ : St) : Option (Int32 × St) :=
  wrI σ 16 s1 s2 fun σ1 =>
  k42 x1 x3 (x4 + 1) σ1
set_option maxRecDepth 100000 in
set_option maxHeartbeats 4000000 in
theorem b_X5_span_71 {g : Geo} {x : Cx} (C : Ok g x cX5_span RX5 5 (some .int) rm_X5_span) (k42 : Int32 → Int32 → Int32 → St → Option (Int32 × St)) (hk42 : ∀ (x1 : Int32) (x3 : Int32) (x4 : Int32) (τ : St) (r : Int32) (τ' : St), k42 x1 x3 x4 τ = some (r, τ') → V g x (qm g x (some (.int r)) τ') 5 τ [(0, .ref (g.1 0)), (1, .int x1), (3, .int x3), (4, .int x4)] [] 42) : ∀ (x1 : Int32) (x3 : Int32) (x4 : Int32) (s1 : Int32) (s2 : Int32) (σ : St) (r : Int32) (σ' : St), f_X5_span_71 k42 x1 x3 x4 s1 s2 σ = some (r, σ') → V g x (qm g x (some (.int r)) σ') 5 σ [(0, .ref (g.1 0)), (1, .int x1), (3, .int x3), (4, .int x4)] [.int s2, .int s1, .ref (g.1 16)] 71 := by
  intro x1 x3 x4 s1 s2 σ r σ' h
  unfold f_X5_span_71 at h
  obtain ⟨nσ1, σ1, eσ1, h⟩ := wrI_ex h
  refine x_iast C rfl nσ1 eσ1 dX5_span_71 ?_
  refine v_iinc C (v := (x4 + 1)) (lv' := [(4, .int _), (0, .ref _), (1, .int _), (3, .int _)]) dX5_span_72 3 rfl rfl (by decide) rfl ?_
  refine v_goto C (tgt := 42) dX5_span_75 (by decide) ?_
  refine V.sub (lv' := [(0, .ref _), (1, .int _), (3, .int _), (4, .int _)]) [1, 2, 3, 0] rfl ?_
  exact hk42 _ _ _  _ _ _ h
def f_X5_span_42 : Nat → Int32 → Int32 → Int32 → St → Option (Int32 × St)
  | 0, _, _, _, _ => none
  | n + 1, x1, x3, x4, σ =>
    if (Int32.ofNat (len 16)) ≤ x4 then
      bd (f_X3_rank 16 σ) fun v1 σ2 =>
      some ((x3 * v1), σ2)
    else
      rmI x4 (3 : Int32) fun v3 =>
      if v3 = x1 then
        f_X5_span_71 (f_X5_span_42 n) x1 x3 x4 x4 x3 σ
      else
        f_X5_span_71 (f_X5_span_42 n) x1 x3 x4 x4 (0 : Int32) σ
set_option maxRecDepth 100000 in
set_option maxHeartbeats 4000000 in
theorem b_X5_span_42 {g : Geo} {x : Cx} (C : Ok g x cX5_span RX5 5 (some .int) rm_X5_span) : ∀ (n : Nat) (x1 : Int32) (x3 : Int32) (x4 : Int32) (σ : St) (r : Int32) (σ' : St), f_X5_span_42 n x1 x3 x4 σ = some (r, σ') → V g x (qm g x (some (.int r)) σ') 5 σ [(0, .ref (g.1 0)), (1, .int x1), (3, .int x3), (4, .int x4)] [] 42 := by
  intro n
  induction n with
  | zero =>
    intro x1 x3 x4 σ r σ' h
    rw [f_X5_span_42] at h
    cases h
  | succ n ih =>
    intro x1 x3 x4 σ r σ' h
    rw [f_X5_span_42] at h
    refine v_iload C dX5_span_42 3 rfl ?_
    refine v_aload_n C dX5_span_44 rfl 0 rfl ?_
    refine v_getR C (p' := 16) fl_RX5_52 rfl rfl dX5_span_45 ?_
    refine v_alenI C (v := (Int32.ofNat (len 16))) rfl rfl dX5_span_48 ?_
    refine v_icmp_ge C (tgt := 78) dX5_span_49 (by decide) (fun q5 => ?_) (fun q5 => ?_)
    · rw [if_pos q5] at h
      refine v_iload_n C dX5_span_78 rfl 2 rfl ?_
      refine v_aload_n C dX5_span_79 rfl 0 rfl ?_
      refine v_getR C (p' := 2) fl_RX5_19 rfl rfl dX5_span_80 ?_
      refine v_aload_n C dX5_span_83 rfl 0 rfl ?_
      refine v_getR C (p' := 1) fl_RX5_12 rfl rfl dX5_span_84 ?_
      refine v_aload_n C dX5_span_87 rfl 0 rfl ?_
      refine v_getR C (p' := 16) fl_RX5_52 rfl rfl dX5_span_88 ?_
      obtain ⟨v1, σ2, cσ2, h⟩ := bd_some h
      refine callVi C (c_X3_rank rfl cσ2) km_X3_rank kv_X3_rank rfl ml_RX5_147 rfl rfl (by decide) (Nat.le_of_ble_eq_true rfl) dX5_span_91 ?_
      refine v_imul C dX5_span_94 ?_
      cases h
      exact v_iret C dX5_span_95
    · rw [if_neg q5] at h
      refine v_aload_n C dX5_span_52 rfl 0 rfl ?_
      refine v_getR C (p' := 16) fl_RX5_52 rfl rfl dX5_span_53 ?_
      refine v_iload C dX5_span_56 3 rfl ?_
      refine v_iload C dX5_span_58 3 rfl ?_
      refine v_iconst C (v := (3 : Int32)) dX5_span_60 (by decide) ?_
      obtain ⟨nv3, v3, ev3, h⟩ := rmI_ex h
      refine x_irem C nv3 ev3 dX5_span_61 ?_
      refine v_iload_n C dX5_span_62 rfl 1 rfl ?_
      refine v_icmp_ne C (tgt := 70) dX5_span_63 (by decide) (fun q4 => ?_) (fun q4 => ?_)
      · rw [if_neg q4] at h
        refine v_iconst C (v := (0 : Int32)) dX5_span_70 (by decide) ?_
        refine V.sub (lv' := [(0, .ref _), (1, .int _), (3, .int _), (4, .int _)]) [0, 1, 2, 3] rfl ?_
        exact b_X5_span_71 C _ ih _ _ _ _ _  _ _ _ h
      · rw [if_pos q4] at h
        refine v_iload_n C dX5_span_66 rfl 2 rfl ?_
        refine v_goto C (tgt := 71) dX5_span_67 (by decide) ?_
        refine V.sub (lv' := [(0, .ref _), (1, .int _), (3, .int _), (4, .int _)]) [0, 1, 2, 3] rfl ?_
        exact b_X5_span_71 C _ ih _ _ _ _ _  _ _ _ h
def f_X5_span_38 (x1 : Int32) (s0 : Int32) (σ : St) : Option (Int32 × St) :=
  f_X5_span_42 FU x1 s0 (0 : Int32) σ
set_option maxRecDepth 100000 in
set_option maxHeartbeats 4000000 in
theorem b_X5_span_38 {g : Geo} {x : Cx} (C : Ok g x cX5_span RX5 5 (some .int) rm_X5_span) : ∀ (x1 : Int32) (s0 : Int32) (σ : St) (r : Int32) (σ' : St), f_X5_span_38 x1 s0 σ = some (r, σ') → V g x (qm g x (some (.int r)) σ') 5 σ [(0, .ref (g.1 0)), (1, .int x1)] [.int s0] 38 := by
  intro x1 s0 σ r σ' h
  unfold f_X5_span_38 at h
  refine v_istore_n C (lv' := [(3, .int _), (0, .ref _), (1, .int _)]) dX5_span_38 rfl (by decide) rfl ?_
  refine v_iconst C (v := (0 : Int32)) dX5_span_39 (by decide) ?_
  refine v_istore C (lv' := [(4, .int _), (3, .int _), (0, .ref _), (1, .int _)]) dX5_span_40 (by decide) rfl ?_
  refine V.sub (lv' := [(0, .ref _), (1, .int _), (3, .int _), (4, .int _)]) [2, 3, 1, 0] rfl ?_
  exact b_X5_span_42 C FU _ _ _  _ _ _ h
def f_X5_span (a1 : Int32) (a2 : Int32) (σ : St) : Option (Int32 × St) :=
  bd (f_X5_isKind a1 σ) fun v1 σ2 =>
  if v1 = 0 then
    some ((-900001 : Int32), σ2)
  else
    bd (f_X5_makeSteps σ2) fun _ σ4 =>
    bd (f_X3_total σ4) fun v5 σ6 =>
    if v5 = (0 : Int64) then
      some ((-900009 : Int32), σ6)
    else
      if a2 = 0 then
        f_X5_span_38 a1 (-1 : Int32) σ6
      else
        f_X5_span_38 a1 (1 : Int32) σ6
set_option maxRecDepth 100000 in
set_option maxHeartbeats 4000000 in
theorem c_X5_span {g : Geo} {a1 : Int32} {a2 : Int32} {σ : St} {r : Int32} {σ' : St} (h : f_X5_span a1 a2 σ = some (r, σ')) : Ct g yX5_span cX5_span 5 (some .int) rm_X5_span [.ref (g.1 0), .int a1, .int a2] σ (some (.int r)) σ' := by
  refine ct_of (own := RX5) (by decide) rfl (Nat.le_of_ble_eq_true rfl) (fun x C => ?_) ⟨rfl, rfl⟩
  show V g x _ 5 σ [(0, .ref (g.1 0)), (1, .int a1), (2, .int a2)] [] 0
  unfold f_X5_span at h
  refine v_iload_n C dX5_span_0 rfl 1 rfl ?_
  obtain ⟨v1, σ2, cσ2, h⟩ := bd_some h
  refine callSi C (c_X5_isKind cσ2) km_X5_isKind ks_X5_isKind ml_RX5_128 rfl rfl (by decide) (Nat.le_of_ble_eq_true rfl) dX5_span_1 ?_
  refine v_if_ne C (tgt := 10) dX5_span_4 (by decide) (fun q9 => ?_) (fun q9 => ?_)
  · rw [if_neg q9] at h
    refine v_aload_n C dX5_span_10 rfl 0 rfl ?_
    obtain ⟨v3, σ4, cσ4, h⟩ := bd_some h
    refine callVv C (c_X5_makeSteps cσ4) km_X5_makeSteps kv_X5_makeSteps rfl ml_RX5_118 rfl rfl (by decide) (Nat.le_of_ble_eq_true rfl) dX5_span_11 ?_
    refine v_aload_n C dX5_span_14 rfl 0 rfl ?_
    refine v_getR C (p' := 2) fl_RX5_19 rfl rfl dX5_span_15 ?_
    obtain ⟨v5, σ6, cσ6, h⟩ := bd_some h
    refine callVl C (c_X3_total cσ6) km_X3_total kv_X3_total rfl ml_RX5_121 rfl rfl (by decide) (Nat.le_of_ble_eq_true rfl) dX5_span_18 ?_
    refine v_lconst C (v := (0 : Int64)) dX5_span_21 (by decide) ?_
    refine v_lcmp_ne C (tgt := 29) dX5_span_22 dX5_span_23 (by decide) (fun q8 => ?_) (fun q8 => ?_)
    · rw [if_neg q8] at h
      refine v_iload_n C dX5_span_29 rfl 2 rfl ?_
      refine v_if_eq C (tgt := 37) dX5_span_30 (by decide) (fun q7 => ?_) (fun q7 => ?_)
      · rw [if_pos q7] at h
        refine v_iconst C (v := (-1 : Int32)) dX5_span_37 (by decide) ?_
        refine V.sub (lv' := [(0, .ref _), (1, .int _)]) [0, 1] rfl ?_
        exact b_X5_span_38 C _ _  _ _ _ h
      · rw [if_neg q7] at h
        refine v_iconst C (v := (1 : Int32)) dX5_span_33 (by decide) ?_
        refine v_goto C (tgt := 38) dX5_span_34 (by decide) ?_
        refine V.sub (lv' := [(0, .ref _), (1, .int _)]) [0, 1] rfl ?_
        exact b_X5_span_38 C _ _  _ _ _ h
    · rw [if_pos q8] at h
      refine v_ldc C (v := (-900009 : Int32)) con_RX5_146 dX5_span_26 ?_
      cases h
      exact v_iret C dX5_span_28
  · rw [if_pos q9] at h
    refine v_ldc C (v := (-900001 : Int32)) con_RX5_95 dX5_span_7 ?_
    cases h
    exact v_iret C dX5_span_9
theorem dX5_weight_0 : decode cX5_weight 0 = .ok (.aload_n 0, 1) := by decide +kernel
theorem dX5_weight_1 : decode cX5_weight 1 = .ok (.getfield 12, 3) := by decide +kernel
theorem dX5_weight_4 : decode cX5_weight 4 = .ok (.iload_n 1, 1) := by decide +kernel
theorem dX5_weight_5 : decode cX5_weight 5 = .ok (.invokevirtual 125, 3) := by decide +kernel
theorem dX5_weight_8 : decode cX5_weight 8 = .ok (.ifCond .eq 10, 3) := by decide +kernel
theorem dX5_weight_11 : decode cX5_weight 11 = .ok (.iload_n 2, 1) := by decide +kernel
theorem dX5_weight_12 : decode cX5_weight 12 = .ok (.invokestatic 128, 3) := by decide +kernel
theorem dX5_weight_15 : decode cX5_weight 15 = .ok (.ifCond .ne 6, 3) := by decide +kernel
theorem dX5_weight_18 : decode cX5_weight 18 = .ok (.ldc 95, 2) := by decide +kernel
theorem dX5_weight_20 : decode cX5_weight 20 = .ok (.ireturn, 1) := by decide +kernel
theorem dX5_weight_21 : decode cX5_weight 21 = .ok (.iload_n 3, 1) := by decide +kernel
theorem dX5_weight_22 : decode cX5_weight 22 = .ok (.bipush (-99), 2) := by decide +kernel
theorem dX5_weight_24 : decode cX5_weight 24 = .ok (.if_icmp .lt 9, 3) := by decide +kernel
theorem dX5_weight_27 : decode cX5_weight 27 = .ok (.iload_n 3, 1) := by decide +kernel
theorem dX5_weight_28 : decode cX5_weight 28 = .ok (.bipush 99, 2) := by decide +kernel
theorem dX5_weight_30 : decode cX5_weight 30 = .ok (.if_icmp .le 6, 3) := by decide +kernel
theorem dX5_weight_33 : decode cX5_weight 33 = .ok (.ldc 59, 2) := by decide +kernel
theorem dX5_weight_35 : decode cX5_weight 35 = .ok (.ireturn, 1) := by decide +kernel
theorem dX5_weight_36 : decode cX5_weight 36 = .ok (.aload_n 0, 1) := by decide +kernel
theorem dX5_weight_37 : decode cX5_weight 37 = .ok (.getfield 48, 3) := by decide +kernel
theorem dX5_weight_40 : decode cX5_weight 40 = .ok (.iload_n 1, 1) := by decide +kernel
theorem dX5_weight_41 : decode cX5_weight 41 = .ok (.iconst 3, 1) := by decide +kernel
theorem dX5_weight_42 : decode cX5_weight 42 = .ok (.imul, 1) := by decide +kernel
theorem dX5_weight_43 : decode cX5_weight 43 = .ok (.iload_n 2, 1) := by decide +kernel
theorem dX5_weight_44 : decode cX5_weight 44 = .ok (.iadd, 1) := by decide +kernel
theorem dX5_weight_45 : decode cX5_weight 45 = .ok (.iaload, 1) := by decide +kernel
theorem dX5_weight_46 : decode cX5_weight 46 = .ok (.istore 4, 2) := by decide +kernel
theorem dX5_weight_48 : decode cX5_weight 48 = .ok (.aload_n 0, 1) := by decide +kernel
theorem dX5_weight_49 : decode cX5_weight 49 = .ok (.getfield 48, 3) := by decide +kernel
theorem dX5_weight_52 : decode cX5_weight 52 = .ok (.iload_n 1, 1) := by decide +kernel
theorem dX5_weight_53 : decode cX5_weight 53 = .ok (.iconst 3, 1) := by decide +kernel
theorem dX5_weight_54 : decode cX5_weight 54 = .ok (.imul, 1) := by decide +kernel
theorem dX5_weight_55 : decode cX5_weight 55 = .ok (.iload_n 2, 1) := by decide +kernel
theorem dX5_weight_56 : decode cX5_weight 56 = .ok (.iadd, 1) := by decide +kernel
theorem dX5_weight_57 : decode cX5_weight 57 = .ok (.iload_n 3, 1) := by decide +kernel
theorem dX5_weight_58 : decode cX5_weight 58 = .ok (.iastore, 1) := by decide +kernel
theorem dX5_weight_59 : decode cX5_weight 59 = .ok (.iload 4, 2) := by decide +kernel
theorem dX5_weight_61 : decode cX5_weight 61 = .ok (.ireturn, 1) := by decide +kernel
def f_X5_weight_33 (σ : St) : Option (Int32 × St) :=
  some ((-900002 : Int32), σ)
set_option maxRecDepth 100000 in
set_option maxHeartbeats 4000000 in
theorem b_X5_weight_33 {g : Geo} {x : Cx} (C : Ok g x cX5_weight RX5 5 (some .int) rm_X5_weight) : ∀ (σ : St) (r : Int32) (σ' : St), f_X5_weight_33 σ = some (r, σ') → V g x (qm g x (some (.int r)) σ') 5 σ [] [] 33 := by
  intro σ r σ' h
  unfold f_X5_weight_33 at h
  refine v_ldc C (v := (-900002 : Int32)) con_RX5_59 dX5_weight_33 ?_
  cases h
  exact v_iret C dX5_weight_35
def f_X5_weight_18 (σ : St) : Option (Int32 × St) :=
  some ((-900001 : Int32), σ)
set_option maxRecDepth 100000 in
set_option maxHeartbeats 4000000 in
theorem b_X5_weight_18 {g : Geo} {x : Cx} (C : Ok g x cX5_weight RX5 5 (some .int) rm_X5_weight) : ∀ (σ : St) (r : Int32) (σ' : St), f_X5_weight_18 σ = some (r, σ') → V g x (qm g x (some (.int r)) σ') 5 σ [] [] 18 := by
  intro σ r σ' h
  unfold f_X5_weight_18 at h
  refine v_ldc C (v := (-900001 : Int32)) con_RX5_95 dX5_weight_18 ?_
  cases h
  exact v_iret C dX5_weight_20
def f_X5_weight (a1 : Int32) (a2 : Int32) (a3 : Int32) (σ : St) : Option (Int32 × St) :=
  bd (f_X1_hasCell a1 σ) fun v1 σ2 =>
  if v1 = 0 then
    f_X5_weight_18 σ2
  else
    bd (f_X5_isKind a2 σ2) fun v3 σ4 =>
    if v3 = 0 then
      f_X5_weight_18 σ4
    else
      if a3 < (-99 : Int32) then
        f_X5_weight_33 σ4
      else
        if a3 ≤ (99 : Int32) then
          rdI σ4 15 ((a1 * (3 : Int32)) + a2) fun v5 =>
          wrI σ4 15 ((a1 * (3 : Int32)) + a2) a3 fun σ6 =>
          some (v5, σ6)
        else
          f_X5_weight_33 σ4
set_option maxRecDepth 100000 in
set_option maxHeartbeats 4000000 in
theorem c_X5_weight {g : Geo} {a1 : Int32} {a2 : Int32} {a3 : Int32} {σ : St} {r : Int32} {σ' : St} (h : f_X5_weight a1 a2 a3 σ = some (r, σ')) : Ct g yX5_weight cX5_weight 5 (some .int) rm_X5_weight [.ref (g.1 0), .int a1, .int a2, .int a3] σ (some (.int r)) σ' := by
  refine ct_of (own := RX5) (by decide) rfl (Nat.le_of_ble_eq_true rfl) (fun x C => ?_) ⟨rfl, rfl⟩
  show V g x _ 5 σ [(0, .ref (g.1 0)), (1, .int a1), (2, .int a2), (3, .int a3)] [] 0
  unfold f_X5_weight at h
  refine v_aload_n C dX5_weight_0 rfl 0 rfl ?_
  refine v_getR C (p' := 1) fl_RX5_12 rfl rfl dX5_weight_1 ?_
  refine v_iload_n C dX5_weight_4 rfl 1 rfl ?_
  obtain ⟨v1, σ2, cσ2, h⟩ := bd_some h
  refine callVi C (c_X1_hasCell cσ2) km_X1_hasCell kv_X1_hasCell rfl ml_RX5_125 rfl rfl (by decide) (Nat.le_of_ble_eq_true rfl) dX5_weight_5 ?_
  refine v_if_eq C (tgt := 18) dX5_weight_8 (by decide) (fun q10 => ?_) (fun q10 => ?_)
  · rw [if_pos q10] at h
    refine V.sub (lv' := []) [] rfl ?_
    exact b_X5_weight_18 C  _ _ _ h
  · rw [if_neg q10] at h
    refine v_iload_n C dX5_weight_11 rfl 2 rfl ?_
    obtain ⟨v3, σ4, cσ4, h⟩ := bd_some h
    refine callSi C (c_X5_isKind cσ4) km_X5_isKind ks_X5_isKind ml_RX5_128 rfl rfl (by decide) (Nat.le_of_ble_eq_true rfl) dX5_weight_12 ?_
    refine v_if_ne C (tgt := 21) dX5_weight_15 (by decide) (fun q9 => ?_) (fun q9 => ?_)
    · rw [if_neg q9] at h
      refine v_iload_n C dX5_weight_21 rfl 3 rfl ?_
      refine v_bipush C (v := (-99 : Int32)) dX5_weight_22 (by decide) ?_
      refine v_icmp_lt C (tgt := 33) dX5_weight_24 (by decide) (fun q8 => ?_) (fun q8 => ?_)
      · rw [if_pos q8] at h
        refine V.sub (lv' := []) [] rfl ?_
        exact b_X5_weight_33 C  _ _ _ h
      · rw [if_neg q8] at h
        refine v_iload_n C dX5_weight_27 rfl 3 rfl ?_
        refine v_bipush C (v := (99 : Int32)) dX5_weight_28 (by decide) ?_
        refine v_icmp_le C (tgt := 36) dX5_weight_30 (by decide) (fun q7 => ?_) (fun q7 => ?_)
        · rw [if_pos q7] at h
          refine v_aload_n C dX5_weight_36 rfl 0 rfl ?_
          refine v_getR C (p' := 15) fl_RX5_48 rfl rfl dX5_weight_37 ?_
          refine v_iload_n C dX5_weight_40 rfl 1 rfl ?_
          refine v_iconst C (v := (3 : Int32)) dX5_weight_41 (by decide) ?_
          refine v_imul C dX5_weight_42 ?_
          refine v_iload_n C dX5_weight_43 rfl 2 rfl ?_
          refine v_iadd C dX5_weight_44 ?_
          obtain ⟨nv5, v5, ev5, h⟩ := rdI_ex h
          refine x_iald C rfl nv5 ev5 dX5_weight_45 ?_
          refine v_istore C (lv' := [(4, .int _), (0, .ref _), (1, .int _), (2, .int _), (3, .int _)]) dX5_weight_46 (by decide) rfl ?_
          refine v_aload_n C dX5_weight_48 rfl 1 rfl ?_
          refine v_getR C (p' := 15) fl_RX5_48 rfl rfl dX5_weight_49 ?_
          refine v_iload_n C dX5_weight_52 rfl 2 rfl ?_
          refine v_iconst C (v := (3 : Int32)) dX5_weight_53 (by decide) ?_
          refine v_imul C dX5_weight_54 ?_
          refine v_iload_n C dX5_weight_55 rfl 3 rfl ?_
          refine v_iadd C dX5_weight_56 ?_
          refine v_iload_n C dX5_weight_57 rfl 4 rfl ?_
          obtain ⟨nσ6, σ6, eσ6, h⟩ := wrI_ex h
          refine x_iast C rfl nσ6 eσ6 dX5_weight_58 ?_
          refine v_iload C dX5_weight_59 0 rfl ?_
          cases h
          exact v_iret C dX5_weight_61
        · rw [if_neg q7] at h
          refine V.sub (lv' := []) [] rfl ?_
          exact b_X5_weight_33 C  _ _ _ h
    · rw [if_pos q9] at h
      refine V.sub (lv' := []) [] rfl ?_
      exact b_X5_weight_18 C  _ _ _ h
theorem dX5_dearest_0 : decode cX5_dearest 0 = .ok (.aload_n 0, 1) := by decide +kernel
theorem dX5_dearest_1 : decode cX5_dearest 1 = .ok (.invokevirtual 118, 3) := by decide +kernel
theorem dX5_dearest_4 : decode cX5_dearest 4 = .ok (.aload_n 0, 1) := by decide +kernel
theorem dX5_dearest_5 : decode cX5_dearest 5 = .ok (.getfield 19, 3) := by decide +kernel
theorem dX5_dearest_8 : decode cX5_dearest 8 = .ok (.invokevirtual 121, 3) := by decide +kernel
theorem dX5_dearest_11 : decode cX5_dearest 11 = .ok (.lconst 0, 1) := by decide +kernel
theorem dX5_dearest_12 : decode cX5_dearest 12 = .ok (.lcmp, 1) := by decide +kernel
theorem dX5_dearest_13 : decode cX5_dearest 13 = .ok (.ifCond .ne 6, 3) := by decide +kernel
theorem dX5_dearest_16 : decode cX5_dearest 16 = .ok (.ldc 146, 2) := by decide +kernel
theorem dX5_dearest_18 : decode cX5_dearest 18 = .ok (.ireturn, 1) := by decide +kernel
theorem dX5_dearest_19 : decode cX5_dearest 19 = .ok (.aload_n 0, 1) := by decide +kernel
theorem dX5_dearest_20 : decode cX5_dearest 20 = .ok (.getfield 19, 3) := by decide +kernel
theorem dX5_dearest_23 : decode cX5_dearest 23 = .ok (.aload_n 0, 1) := by decide +kernel
theorem dX5_dearest_24 : decode cX5_dearest 24 = .ok (.getfield 12, 3) := by decide +kernel
theorem dX5_dearest_27 : decode cX5_dearest 27 = .ok (.aload_n 0, 1) := by decide +kernel
theorem dX5_dearest_28 : decode cX5_dearest 28 = .ok (.getfield 48, 3) := by decide +kernel
theorem dX5_dearest_31 : decode cX5_dearest 31 = .ok (.invokevirtual 147, 3) := by decide +kernel
theorem dX5_dearest_34 : decode cX5_dearest 34 = .ok (.ireturn, 1) := by decide +kernel
def f_X5_dearest (σ : St) : Option (Int32 × St) :=
  bd (f_X5_makeSteps σ) fun _ σ2 =>
  bd (f_X3_total σ2) fun v3 σ4 =>
  if v3 = (0 : Int64) then
    some ((-900009 : Int32), σ4)
  else
    bd (f_X3_rank 15 σ4) fun v5 σ6 =>
    some (v5, σ6)
set_option maxRecDepth 100000 in
set_option maxHeartbeats 4000000 in
theorem c_X5_dearest {g : Geo} {σ : St} {r : Int32} {σ' : St} (h : f_X5_dearest σ = some (r, σ')) : Ct g yX5_dearest cX5_dearest 1 (some .int) rm_X5_dearest [.ref (g.1 0)] σ (some (.int r)) σ' := by
  refine ct_of (own := RX5) (by decide) rfl (Nat.le_of_ble_eq_true rfl) (fun x C => ?_) ⟨rfl, rfl⟩
  show V g x _ 1 σ [(0, .ref (g.1 0))] [] 0
  unfold f_X5_dearest at h
  refine v_aload_n C dX5_dearest_0 rfl 0 rfl ?_
  obtain ⟨v1, σ2, cσ2, h⟩ := bd_some h
  refine callVv C (c_X5_makeSteps cσ2) km_X5_makeSteps kv_X5_makeSteps rfl ml_RX5_118 rfl rfl (by decide) (Nat.le_of_ble_eq_true rfl) dX5_dearest_1 ?_
  refine v_aload_n C dX5_dearest_4 rfl 0 rfl ?_
  refine v_getR C (p' := 2) fl_RX5_19 rfl rfl dX5_dearest_5 ?_
  obtain ⟨v3, σ4, cσ4, h⟩ := bd_some h
  refine callVl C (c_X3_total cσ4) km_X3_total kv_X3_total rfl ml_RX5_121 rfl rfl (by decide) (Nat.le_of_ble_eq_true rfl) dX5_dearest_8 ?_
  refine v_lconst C (v := (0 : Int64)) dX5_dearest_11 (by decide) ?_
  refine v_lcmp_ne C (tgt := 19) dX5_dearest_12 dX5_dearest_13 (by decide) (fun q7 => ?_) (fun q7 => ?_)
  · rw [if_neg q7] at h
    refine v_aload_n C dX5_dearest_19 rfl 0 rfl ?_
    refine v_getR C (p' := 2) fl_RX5_19 rfl rfl dX5_dearest_20 ?_
    refine v_aload_n C dX5_dearest_23 rfl 0 rfl ?_
    refine v_getR C (p' := 1) fl_RX5_12 rfl rfl dX5_dearest_24 ?_
    refine v_aload_n C dX5_dearest_27 rfl 0 rfl ?_
    refine v_getR C (p' := 15) fl_RX5_48 rfl rfl dX5_dearest_28 ?_
    obtain ⟨v5, σ6, cσ6, h⟩ := bd_some h
    refine callVi C (c_X3_rank rfl cσ6) km_X3_rank kv_X3_rank rfl ml_RX5_147 rfl rfl (by decide) (Nat.le_of_ble_eq_true rfl) dX5_dearest_31 ?_
    cases h
    exact v_iret C dX5_dearest_34
  · rw [if_pos q7] at h
    refine v_ldc C (v := (-900009 : Int32)) con_RX5_146 dX5_dearest_16 ?_
    cases h
    exact v_iret C dX5_dearest_18
theorem dX5_isSlot_0 : decode cX5_isSlot 0 = .ok (.iload_n 0, 1) := by decide +kernel
theorem dX5_isSlot_1 : decode cX5_isSlot 1 = .ok (.ifCond .lt 12, 3) := by decide +kernel
theorem dX5_isSlot_4 : decode cX5_isSlot 4 = .ok (.iload_n 0, 1) := by decide +kernel
theorem dX5_isSlot_5 : decode cX5_isSlot 5 = .ok (.iconst 4, 1) := by decide +kernel
theorem dX5_isSlot_6 : decode cX5_isSlot 6 = .ok (.if_icmp .ge 7, 3) := by decide +kernel
theorem dX5_isSlot_9 : decode cX5_isSlot 9 = .ok (.iconst 1, 1) := by decide +kernel
theorem dX5_isSlot_10 : decode cX5_isSlot 10 = .ok (.goto 4, 3) := by decide +kernel
theorem dX5_isSlot_13 : decode cX5_isSlot 13 = .ok (.iconst 0, 1) := by decide +kernel
theorem dX5_isSlot_14 : decode cX5_isSlot 14 = .ok (.ireturn, 1) := by decide +kernel
def f_X5_isSlot_14 (s0 : Int32) (σ : St) : Option (Int32 × St) :=
  gz s0 <|
  some (s0, σ)
set_option maxRecDepth 100000 in
set_option maxHeartbeats 4000000 in
theorem b_X5_isSlot_14 {g : Geo} {x : Cx} (C : Ok g x cX5_isSlot RX5 1 (some .boolean) rm_X5_isSlot) : ∀ (s0 : Int32) (σ : St) (r : Int32) (σ' : St), f_X5_isSlot_14 s0 σ = some (r, σ') → V g x (qm g x (some (.int r)) σ') 1 σ [] [.int s0] 14 := by
  intro s0 σ r σ' h
  unfold f_X5_isSlot_14 at h
  obtain ⟨hz, h⟩ := gz_some h
  cases h
  exact v_zret C hz dX5_isSlot_14
def f_X5_isSlot_13 (σ : St) : Option (Int32 × St) :=
  f_X5_isSlot_14 (0 : Int32) σ
set_option maxRecDepth 100000 in
set_option maxHeartbeats 4000000 in
theorem b_X5_isSlot_13 {g : Geo} {x : Cx} (C : Ok g x cX5_isSlot RX5 1 (some .boolean) rm_X5_isSlot) : ∀ (σ : St) (r : Int32) (σ' : St), f_X5_isSlot_13 σ = some (r, σ') → V g x (qm g x (some (.int r)) σ') 1 σ [] [] 13 := by
  intro σ r σ' h
  unfold f_X5_isSlot_13 at h
  refine v_iconst C (v := (0 : Int32)) dX5_isSlot_13 (by decide) ?_
  refine V.sub (lv' := []) [] rfl ?_
  exact b_X5_isSlot_14 C _  _ _ _ h
def f_X5_isSlot (a1 : Int32) (σ : St) : Option (Int32 × St) :=
  if a1 < 0 then
    f_X5_isSlot_13 σ
  else
    if (4 : Int32) ≤ a1 then
      f_X5_isSlot_13 σ
    else
      f_X5_isSlot_14 (1 : Int32) σ
set_option maxRecDepth 100000 in
set_option maxHeartbeats 4000000 in
theorem c_X5_isSlot {g : Geo} {a1 : Int32} {σ : St} {r : Int32} {σ' : St} (h : f_X5_isSlot a1 σ = some (r, σ')) : Ct g yX5_isSlot cX5_isSlot 1 (some .boolean) rm_X5_isSlot [.int a1] σ (some (.int r)) σ' := by
  refine ct_of (own := RX5) (by decide) rfl (Nat.le_of_ble_eq_true rfl) (fun x C => ?_) ⟨rfl, rfl⟩
  show V g x _ 1 σ [(0, .int a1)] [] 0
  unfold f_X5_isSlot at h
  refine v_iload_n C dX5_isSlot_0 rfl 0 rfl ?_
  refine v_if_lt C (tgt := 13) dX5_isSlot_1 (by decide) (fun q2 => ?_) (fun q2 => ?_)
  · rw [if_pos q2] at h
    refine V.sub (lv' := []) [] rfl ?_
    exact b_X5_isSlot_13 C  _ _ _ h
  · rw [if_neg q2] at h
    refine v_iload_n C dX5_isSlot_4 rfl 0 rfl ?_
    refine v_iconst C (v := (4 : Int32)) dX5_isSlot_5 (by decide) ?_
    refine v_icmp_ge C (tgt := 13) dX5_isSlot_6 (by decide) (fun q1 => ?_) (fun q1 => ?_)
    · rw [if_pos q1] at h
      refine V.sub (lv' := []) [] rfl ?_
      exact b_X5_isSlot_13 C  _ _ _ h
    · rw [if_neg q1] at h
      refine v_iconst C (v := (1 : Int32)) dX5_isSlot_9 (by decide) ?_
      refine v_goto C (tgt := 14) dX5_isSlot_10 (by decide) ?_
      refine V.sub (lv' := []) [] rfl ?_
      exact b_X5_isSlot_14 C _  _ _ _ h
theorem dX5_lay_0 : decode cX5_lay 0 = .ok (.iload_n 1, 1) := by decide +kernel
theorem dX5_lay_1 : decode cX5_lay 1 = .ok (.invokestatic 151, 3) := by decide +kernel
theorem dX5_lay_4 : decode cX5_lay 4 = .ok (.ifCond .ne 6, 3) := by decide +kernel
theorem dX5_lay_7 : decode cX5_lay 7 = .ok (.ldc 95, 2) := by decide +kernel
theorem dX5_lay_9 : decode cX5_lay 9 = .ok (.ireturn, 1) := by decide +kernel
theorem dX5_lay_10 : decode cX5_lay 10 = .ok (.aload_n 0, 1) := by decide +kernel
theorem dX5_lay_11 : decode cX5_lay 11 = .ok (.invokevirtual 118, 3) := by decide +kernel
theorem dX5_lay_14 : decode cX5_lay 14 = .ok (.lload_n 2, 1) := by decide +kernel
theorem dX5_lay_15 : decode cX5_lay 15 = .ok (.lconst 0, 1) := by decide +kernel
theorem dX5_lay_16 : decode cX5_lay 16 = .ok (.lcmp, 1) := by decide +kernel
theorem dX5_lay_17 : decode cX5_lay 17 = .ok (.ifCond .lt 15, 3) := by decide +kernel
theorem dX5_lay_20 : decode cX5_lay 20 = .ok (.lload_n 2, 1) := by decide +kernel
theorem dX5_lay_21 : decode cX5_lay 21 = .ok (.aload_n 0, 1) := by decide +kernel
theorem dX5_lay_22 : decode cX5_lay 22 = .ok (.getfield 19, 3) := by decide +kernel
theorem dX5_lay_25 : decode cX5_lay 25 = .ok (.invokevirtual 121, 3) := by decide +kernel
theorem dX5_lay_28 : decode cX5_lay 28 = .ok (.lcmp, 1) := by decide +kernel
theorem dX5_lay_29 : decode cX5_lay 29 = .ok (.ifCond .lt 6, 3) := by decide +kernel
theorem dX5_lay_32 : decode cX5_lay 32 = .ok (.ldc 59, 2) := by decide +kernel
theorem dX5_lay_34 : decode cX5_lay 34 = .ok (.ireturn, 1) := by decide +kernel
theorem dX5_lay_35 : decode cX5_lay 35 = .ok (.aload_n 0, 1) := by decide +kernel
theorem dX5_lay_36 : decode cX5_lay 36 = .ok (.getfield 19, 3) := by decide +kernel
theorem dX5_lay_39 : decode cX5_lay 39 = .ok (.aload_n 0, 1) := by decide +kernel
theorem dX5_lay_40 : decode cX5_lay 40 = .ok (.getfield 12, 3) := by decide +kernel
theorem dX5_lay_43 : decode cX5_lay 43 = .ok (.lload_n 2, 1) := by decide +kernel
theorem dX5_lay_44 : decode cX5_lay 44 = .ok (.aload_n 0, 1) := by decide +kernel
theorem dX5_lay_45 : decode cX5_lay 45 = .ok (.getfield 39, 3) := by decide +kernel
theorem dX5_lay_48 : decode cX5_lay 48 = .ok (.iload_n 1, 1) := by decide +kernel
theorem dX5_lay_49 : decode cX5_lay 49 = .ok (.aaload, 1) := by decide +kernel
theorem dX5_lay_50 : decode cX5_lay 50 = .ok (.invokevirtual 154, 3) := by decide +kernel
theorem dX5_lay_53 : decode cX5_lay 53 = .ok (.iconst 1, 1) := by decide +kernel
theorem dX5_lay_54 : decode cX5_lay 54 = .ok (.ireturn, 1) := by decide +kernel
def f_X5_lay_32 (σ : St) : Option (Int32 × St) :=
  some ((-900002 : Int32), σ)
set_option maxRecDepth 100000 in
set_option maxHeartbeats 4000000 in
theorem b_X5_lay_32 {g : Geo} {x : Cx} (C : Ok g x cX5_lay RX5 4 (some .int) rm_X5_lay) : ∀ (σ : St) (r : Int32) (σ' : St), f_X5_lay_32 σ = some (r, σ') → V g x (qm g x (some (.int r)) σ') 4 σ [] [] 32 := by
  intro σ r σ' h
  unfold f_X5_lay_32 at h
  refine v_ldc C (v := (-900002 : Int32)) con_RX5_59 dX5_lay_32 ?_
  cases h
  exact v_iret C dX5_lay_34
def f_X5_lay (a1 : Int32) (a2 : Int64) (σ : St) : Option (Int32 × St) :=
  bd (f_X5_isSlot a1 σ) fun v1 σ2 =>
  if v1 = 0 then
    some ((-900001 : Int32), σ2)
  else
    bd (f_X5_makeSteps σ2) fun _ σ4 =>
    if a2 < (0 : Int64) then
      f_X5_lay_32 σ4
    else
      bd (f_X3_total σ4) fun v5 σ6 =>
      if a2 < v5 then
        rdR a1 fun p7 =>
        bd (f_X3_walkTo a2 p7 σ6) fun _ σ9 =>
        some ((1 : Int32), σ9)
      else
        f_X5_lay_32 σ6
set_option maxRecDepth 100000 in
set_option maxHeartbeats 4000000 in
theorem c_X5_lay {g : Geo} {a1 : Int32} {a2 : Int64} {σ : St} {r : Int32} {σ' : St} (h : f_X5_lay a1 a2 σ = some (r, σ')) : Ct g yX5_lay cX5_lay 4 (some .int) rm_X5_lay [.ref (g.1 0), .int a1, .long a2] σ (some (.int r)) σ' := by
  refine ct_of (own := RX5) (by decide) rfl (Nat.le_of_ble_eq_true rfl) (fun x C => ?_) ⟨rfl, rfl⟩
  show V g x _ 4 σ [(0, .ref (g.1 0)), (1, .int a1), (2, .long a2)] [] 0
  unfold f_X5_lay at h
  refine v_iload_n C dX5_lay_0 rfl 1 rfl ?_
  obtain ⟨v1, σ2, cσ2, h⟩ := bd_some h
  refine callSi C (c_X5_isSlot cσ2) km_X5_isSlot ks_X5_isSlot ml_RX5_151 rfl rfl (by decide) (Nat.le_of_ble_eq_true rfl) dX5_lay_1 ?_
  refine v_if_ne C (tgt := 10) dX5_lay_4 (by decide) (fun q12 => ?_) (fun q12 => ?_)
  · rw [if_neg q12] at h
    refine v_aload_n C dX5_lay_10 rfl 0 rfl ?_
    obtain ⟨v3, σ4, cσ4, h⟩ := bd_some h
    refine callVv C (c_X5_makeSteps cσ4) km_X5_makeSteps kv_X5_makeSteps rfl ml_RX5_118 rfl rfl (by decide) (Nat.le_of_ble_eq_true rfl) dX5_lay_11 ?_
    refine v_lload_n C dX5_lay_14 rfl 2 rfl ?_
    refine v_lconst C (v := (0 : Int64)) dX5_lay_15 (by decide) ?_
    refine v_lcmp_lt C (tgt := 32) dX5_lay_16 dX5_lay_17 (by decide) (fun q11 => ?_) (fun q11 => ?_)
    · rw [if_pos q11] at h
      refine V.sub (lv' := []) [] rfl ?_
      exact b_X5_lay_32 C  _ _ _ h
    · rw [if_neg q11] at h
      refine v_lload_n C dX5_lay_20 rfl 2 rfl ?_
      refine v_aload_n C dX5_lay_21 rfl 0 rfl ?_
      refine v_getR C (p' := 2) fl_RX5_19 rfl rfl dX5_lay_22 ?_
      obtain ⟨v5, σ6, cσ6, h⟩ := bd_some h
      refine callVl C (c_X3_total cσ6) km_X3_total kv_X3_total rfl ml_RX5_121 rfl rfl (by decide) (Nat.le_of_ble_eq_true rfl) dX5_lay_25 ?_
      refine v_lcmp_lt C (tgt := 35) dX5_lay_28 dX5_lay_29 (by decide) (fun q10 => ?_) (fun q10 => ?_)
      · rw [if_pos q10] at h
        refine v_aload_n C dX5_lay_35 rfl 0 rfl ?_
        refine v_getR C (p' := 2) fl_RX5_19 rfl rfl dX5_lay_36 ?_
        refine v_aload_n C dX5_lay_39 rfl 0 rfl ?_
        refine v_getR C (p' := 1) fl_RX5_12 rfl rfl dX5_lay_40 ?_
        refine v_lload_n C dX5_lay_43 rfl 2 rfl ?_
        refine v_aload_n C dX5_lay_44 rfl 0 rfl ?_
        refine v_getR C (p' := 14) fl_RX5_39 rfl rfl dX5_lay_45 ?_
        refine v_iload_n C dX5_lay_48 rfl 1 rfl ?_
        obtain ⟨np7, p7, ep7, hp7, h⟩ := rdR_ex h
        refine x_aald C np7 ep7 dX5_lay_49 ?_
        obtain ⟨v8, σ9, cσ9, h⟩ := bd_some h
        refine callVv C (c_X3_walkTo hp7 cσ9) km_X3_walkTo kv_X3_walkTo rfl ml_RX5_154 rfl rfl (by decide) (Nat.le_of_ble_eq_true rfl) dX5_lay_50 ?_
        refine v_iconst C (v := (1 : Int32)) dX5_lay_53 (by decide) ?_
        cases h
        exact v_iret C dX5_lay_54
      · rw [if_neg q10] at h
        refine V.sub (lv' := []) [] rfl ?_
        exact b_X5_lay_32 C  _ _ _ h
  · rw [if_pos q12] at h
    refine v_ldc C (v := (-900001 : Int32)) con_RX5_95 dX5_lay_7 ?_
    cases h
    exact v_iret C dX5_lay_9
theorem dX5_layDearest_0 : decode cX5_layDearest 0 = .ok (.iload_n 1, 1) := by decide +kernel
theorem dX5_layDearest_1 : decode cX5_layDearest 1 = .ok (.invokestatic 151, 3) := by decide +kernel
theorem dX5_layDearest_4 : decode cX5_layDearest 4 = .ok (.ifCond .ne 6, 3) := by decide +kernel
theorem dX5_layDearest_7 : decode cX5_layDearest 7 = .ok (.ldc 95, 2) := by decide +kernel
theorem dX5_layDearest_9 : decode cX5_layDearest 9 = .ok (.ireturn, 1) := by decide +kernel
theorem dX5_layDearest_10 : decode cX5_layDearest 10 = .ok (.aload_n 0, 1) := by decide +kernel
theorem dX5_layDearest_11 : decode cX5_layDearest 11 = .ok (.invokevirtual 118, 3) := by decide +kernel
theorem dX5_layDearest_14 : decode cX5_layDearest 14 = .ok (.aload_n 0, 1) := by decide +kernel
theorem dX5_layDearest_15 : decode cX5_layDearest 15 = .ok (.getfield 19, 3) := by decide +kernel
theorem dX5_layDearest_18 : decode cX5_layDearest 18 = .ok (.invokevirtual 121, 3) := by decide +kernel
theorem dX5_layDearest_21 : decode cX5_layDearest 21 = .ok (.lconst 0, 1) := by decide +kernel
theorem dX5_layDearest_22 : decode cX5_layDearest 22 = .ok (.lcmp, 1) := by decide +kernel
theorem dX5_layDearest_23 : decode cX5_layDearest 23 = .ok (.ifCond .ne 6, 3) := by decide +kernel
theorem dX5_layDearest_26 : decode cX5_layDearest 26 = .ok (.ldc 158, 2) := by decide +kernel
theorem dX5_layDearest_28 : decode cX5_layDearest 28 = .ok (.ireturn, 1) := by decide +kernel
theorem dX5_layDearest_29 : decode cX5_layDearest 29 = .ok (.aload_n 0, 1) := by decide +kernel
theorem dX5_layDearest_30 : decode cX5_layDearest 30 = .ok (.getfield 19, 3) := by decide +kernel
theorem dX5_layDearest_33 : decode cX5_layDearest 33 = .ok (.aload_n 0, 1) := by decide +kernel
theorem dX5_layDearest_34 : decode cX5_layDearest 34 = .ok (.getfield 12, 3) := by decide +kernel
theorem dX5_layDearest_37 : decode cX5_layDearest 37 = .ok (.aload_n 0, 1) := by decide +kernel
theorem dX5_layDearest_38 : decode cX5_layDearest 38 = .ok (.getfield 48, 3) := by decide +kernel
theorem dX5_layDearest_41 : decode cX5_layDearest 41 = .ok (.invokevirtual 147, 3) := by decide +kernel
theorem dX5_layDearest_44 : decode cX5_layDearest 44 = .ok (.istore_n 2, 1) := by decide +kernel
theorem dX5_layDearest_45 : decode cX5_layDearest 45 = .ok (.aload_n 0, 1) := by decide +kernel
theorem dX5_layDearest_46 : decode cX5_layDearest 46 = .ok (.getfield 19, 3) := by decide +kernel
theorem dX5_layDearest_49 : decode cX5_layDearest 49 = .ok (.aload_n 0, 1) := by decide +kernel
theorem dX5_layDearest_50 : decode cX5_layDearest 50 = .ok (.getfield 12, 3) := by decide +kernel
theorem dX5_layDearest_53 : decode cX5_layDearest 53 = .ok (.aload_n 0, 1) := by decide +kernel
theorem dX5_layDearest_54 : decode cX5_layDearest 54 = .ok (.getfield 48, 3) := by decide +kernel
theorem dX5_layDearest_57 : decode cX5_layDearest 57 = .ok (.aload_n 0, 1) := by decide +kernel
theorem dX5_layDearest_58 : decode cX5_layDearest 58 = .ok (.getfield 39, 3) := by decide +kernel
theorem dX5_layDearest_61 : decode cX5_layDearest 61 = .ok (.iload_n 1, 1) := by decide +kernel
theorem dX5_layDearest_62 : decode cX5_layDearest 62 = .ok (.aaload, 1) := by decide +kernel
theorem dX5_layDearest_63 : decode cX5_layDearest 63 = .ok (.invokevirtual 159, 3) := by decide +kernel
theorem dX5_layDearest_66 : decode cX5_layDearest 66 = .ok (.iload_n 2, 1) := by decide +kernel
theorem dX5_layDearest_67 : decode cX5_layDearest 67 = .ok (.ireturn, 1) := by decide +kernel
def f_X5_layDearest (a1 : Int32) (σ : St) : Option (Int32 × St) :=
  bd (f_X5_isSlot a1 σ) fun v1 σ2 =>
  if v1 = 0 then
    some ((-900001 : Int32), σ2)
  else
    bd (f_X5_makeSteps σ2) fun _ σ4 =>
    bd (f_X3_total σ4) fun v5 σ6 =>
    if v5 = (0 : Int64) then
      some ((-900003 : Int32), σ6)
    else
      bd (f_X3_rank 15 σ6) fun v7 σ8 =>
      rdR a1 fun p9 =>
      bd (f_X3_walkDearest 15 p9 σ8) fun _ σ11 =>
      some (v7, σ11)
set_option maxRecDepth 100000 in
set_option maxHeartbeats 4000000 in
theorem c_X5_layDearest {g : Geo} {a1 : Int32} {σ : St} {r : Int32} {σ' : St} (h : f_X5_layDearest a1 σ = some (r, σ')) : Ct g yX5_layDearest cX5_layDearest 3 (some .int) rm_X5_layDearest [.ref (g.1 0), .int a1] σ (some (.int r)) σ' := by
  refine ct_of (own := RX5) (by decide) rfl (Nat.le_of_ble_eq_true rfl) (fun x C => ?_) ⟨rfl, rfl⟩
  show V g x _ 3 σ [(0, .ref (g.1 0)), (1, .int a1)] [] 0
  unfold f_X5_layDearest at h
  refine v_iload_n C dX5_layDearest_0 rfl 1 rfl ?_
  obtain ⟨v1, σ2, cσ2, h⟩ := bd_some h
  refine callSi C (c_X5_isSlot cσ2) km_X5_isSlot ks_X5_isSlot ml_RX5_151 rfl rfl (by decide) (Nat.le_of_ble_eq_true rfl) dX5_layDearest_1 ?_
  refine v_if_ne C (tgt := 10) dX5_layDearest_4 (by decide) (fun q13 => ?_) (fun q13 => ?_)
  · rw [if_neg q13] at h
    refine v_aload_n C dX5_layDearest_10 rfl 0 rfl ?_
    obtain ⟨v3, σ4, cσ4, h⟩ := bd_some h
    refine callVv C (c_X5_makeSteps cσ4) km_X5_makeSteps kv_X5_makeSteps rfl ml_RX5_118 rfl rfl (by decide) (Nat.le_of_ble_eq_true rfl) dX5_layDearest_11 ?_
    refine v_aload_n C dX5_layDearest_14 rfl 0 rfl ?_
    refine v_getR C (p' := 2) fl_RX5_19 rfl rfl dX5_layDearest_15 ?_
    obtain ⟨v5, σ6, cσ6, h⟩ := bd_some h
    refine callVl C (c_X3_total cσ6) km_X3_total kv_X3_total rfl ml_RX5_121 rfl rfl (by decide) (Nat.le_of_ble_eq_true rfl) dX5_layDearest_18 ?_
    refine v_lconst C (v := (0 : Int64)) dX5_layDearest_21 (by decide) ?_
    refine v_lcmp_ne C (tgt := 29) dX5_layDearest_22 dX5_layDearest_23 (by decide) (fun q12 => ?_) (fun q12 => ?_)
    · rw [if_neg q12] at h
      refine v_aload_n C dX5_layDearest_29 rfl 0 rfl ?_
      refine v_getR C (p' := 2) fl_RX5_19 rfl rfl dX5_layDearest_30 ?_
      refine v_aload_n C dX5_layDearest_33 rfl 0 rfl ?_
      refine v_getR C (p' := 1) fl_RX5_12 rfl rfl dX5_layDearest_34 ?_
      refine v_aload_n C dX5_layDearest_37 rfl 0 rfl ?_
      refine v_getR C (p' := 15) fl_RX5_48 rfl rfl dX5_layDearest_38 ?_
      obtain ⟨v7, σ8, cσ8, h⟩ := bd_some h
      refine callVi C (c_X3_rank rfl cσ8) km_X3_rank kv_X3_rank rfl ml_RX5_147 rfl rfl (by decide) (Nat.le_of_ble_eq_true rfl) dX5_layDearest_41 ?_
      refine v_istore_n C (lv' := [(2, .int _), (0, .ref _), (1, .int _)]) dX5_layDearest_44 rfl (by decide) rfl ?_
      refine v_aload_n C dX5_layDearest_45 rfl 1 rfl ?_
      refine v_getR C (p' := 2) fl_RX5_19 rfl rfl dX5_layDearest_46 ?_
      refine v_aload_n C dX5_layDearest_49 rfl 1 rfl ?_
      refine v_getR C (p' := 1) fl_RX5_12 rfl rfl dX5_layDearest_50 ?_
      refine v_aload_n C dX5_layDearest_53 rfl 1 rfl ?_
      refine v_getR C (p' := 15) fl_RX5_48 rfl rfl dX5_layDearest_54 ?_
      refine v_aload_n C dX5_layDearest_57 rfl 1 rfl ?_
      refine v_getR C (p' := 14) fl_RX5_39 rfl rfl dX5_layDearest_58 ?_
      refine v_iload_n C dX5_layDearest_61 rfl 2 rfl ?_
      obtain ⟨np9, p9, ep9, hp9, h⟩ := rdR_ex h
      refine x_aald C np9 ep9 dX5_layDearest_62 ?_
      obtain ⟨v10, σ11, cσ11, h⟩ := bd_some h
      refine callVv C (c_X3_walkDearest rfl hp9 cσ11) km_X3_walkDearest kv_X3_walkDearest rfl ml_RX5_159 rfl rfl (by decide) (Nat.le_of_ble_eq_true rfl) dX5_layDearest_63 ?_
      refine v_iload_n C dX5_layDearest_66 rfl 0 rfl ?_
      cases h
      exact v_iret C dX5_layDearest_67
    · rw [if_pos q12] at h
      refine v_ldc C (v := (-900003 : Int32)) con_RX5_158 dX5_layDearest_26 ?_
      cases h
      exact v_iret C dX5_layDearest_28
  · rw [if_pos q13] at h
    refine v_ldc C (v := (-900001 : Int32)) con_RX5_95 dX5_layDearest_7 ?_
    cases h
    exact v_iret C dX5_layDearest_9
theorem dX5_copy_0 : decode cX5_copy 0 = .ok (.iload_n 1, 1) := by decide +kernel
theorem dX5_copy_1 : decode cX5_copy 1 = .ok (.invokestatic 151, 3) := by decide +kernel
theorem dX5_copy_4 : decode cX5_copy 4 = .ok (.ifCond .eq 10, 3) := by decide +kernel
theorem dX5_copy_7 : decode cX5_copy 7 = .ok (.iload_n 2, 1) := by decide +kernel
theorem dX5_copy_8 : decode cX5_copy 8 = .ok (.invokestatic 151, 3) := by decide +kernel
theorem dX5_copy_11 : decode cX5_copy 11 = .ok (.ifCond .ne 6, 3) := by decide +kernel
theorem dX5_copy_14 : decode cX5_copy 14 = .ok (.ldc 95, 2) := by decide +kernel
theorem dX5_copy_16 : decode cX5_copy 16 = .ok (.ireturn, 1) := by decide +kernel
theorem dX5_copy_17 : decode cX5_copy 17 = .ok (.aload_n 0, 1) := by decide +kernel
theorem dX5_copy_18 : decode cX5_copy 18 = .ok (.getfield 39, 3) := by decide +kernel
theorem dX5_copy_21 : decode cX5_copy 21 = .ok (.iload_n 1, 1) := by decide +kernel
theorem dX5_copy_22 : decode cX5_copy 22 = .ok (.aaload, 1) := by decide +kernel
theorem dX5_copy_23 : decode cX5_copy 23 = .ok (.getfield 163, 3) := by decide +kernel
theorem dX5_copy_26 : decode cX5_copy 26 = .ok (.ifCond .ne 6, 3) := by decide +kernel
theorem dX5_copy_29 : decode cX5_copy 29 = .ok (.ldc 158, 2) := by decide +kernel
theorem dX5_copy_31 : decode cX5_copy 31 = .ok (.ireturn, 1) := by decide +kernel
theorem dX5_copy_32 : decode cX5_copy 32 = .ok (.aload_n 0, 1) := by decide +kernel
theorem dX5_copy_33 : decode cX5_copy 33 = .ok (.getfield 39, 3) := by decide +kernel
theorem dX5_copy_36 : decode cX5_copy 36 = .ok (.iload_n 2, 1) := by decide +kernel
theorem dX5_copy_37 : decode cX5_copy 37 = .ok (.aaload, 1) := by decide +kernel
theorem dX5_copy_38 : decode cX5_copy 38 = .ok (.aload_n 0, 1) := by decide +kernel
theorem dX5_copy_39 : decode cX5_copy 39 = .ok (.getfield 39, 3) := by decide +kernel
theorem dX5_copy_42 : decode cX5_copy 42 = .ok (.iload_n 1, 1) := by decide +kernel
theorem dX5_copy_43 : decode cX5_copy 43 = .ok (.aaload, 1) := by decide +kernel
theorem dX5_copy_44 : decode cX5_copy 44 = .ok (.invokevirtual 167, 3) := by decide +kernel
theorem dX5_copy_47 : decode cX5_copy 47 = .ok (.iconst 1, 1) := by decide +kernel
theorem dX5_copy_48 : decode cX5_copy 48 = .ok (.ireturn, 1) := by decide +kernel
def f_X5_copy_14 (σ : St) : Option (Int32 × St) :=
  some ((-900001 : Int32), σ)
set_option maxRecDepth 100000 in
set_option maxHeartbeats 4000000 in
theorem b_X5_copy_14 {g : Geo} {x : Cx} (C : Ok g x cX5_copy RX5 3 (some .int) rm_X5_copy) : ∀ (σ : St) (r : Int32) (σ' : St), f_X5_copy_14 σ = some (r, σ') → V g x (qm g x (some (.int r)) σ') 3 σ [] [] 14 := by
  intro σ r σ' h
  unfold f_X5_copy_14 at h
  refine v_ldc C (v := (-900001 : Int32)) con_RX5_95 dX5_copy_14 ?_
  cases h
  exact v_iret C dX5_copy_16
def f_X5_copy (a1 : Int32) (a2 : Int32) (σ : St) : Option (Int32 × St) :=
  bd (f_X5_isSlot a1 σ) fun v1 σ2 =>
  if v1 = 0 then
    f_X5_copy_14 σ2
  else
    bd (f_X5_isSlot a2 σ2) fun v3 σ4 =>
    if v3 = 0 then
      f_X5_copy_14 σ4
    else
      rdR a1 fun p5 =>
      if (gi σ4 p5 0) = 0 then
        some ((-900003 : Int32), σ4)
      else
        rdR a2 fun p6 =>
        rdR a1 fun p7 =>
        bd (f_X2_take p6 p7 σ4) fun _ σ9 =>
        some ((1 : Int32), σ9)
set_option maxRecDepth 100000 in
set_option maxHeartbeats 4000000 in
theorem c_X5_copy {g : Geo} {a1 : Int32} {a2 : Int32} {σ : St} {r : Int32} {σ' : St} (h : f_X5_copy a1 a2 σ = some (r, σ')) : Ct g yX5_copy cX5_copy 3 (some .int) rm_X5_copy [.ref (g.1 0), .int a1, .int a2] σ (some (.int r)) σ' := by
  refine ct_of (own := RX5) (by decide) rfl (Nat.le_of_ble_eq_true rfl) (fun x C => ?_) ⟨rfl, rfl⟩
  show V g x _ 3 σ [(0, .ref (g.1 0)), (1, .int a1), (2, .int a2)] [] 0
  unfold f_X5_copy at h
  refine v_iload_n C dX5_copy_0 rfl 1 rfl ?_
  obtain ⟨v1, σ2, cσ2, h⟩ := bd_some h
  refine callSi C (c_X5_isSlot cσ2) km_X5_isSlot ks_X5_isSlot ml_RX5_151 rfl rfl (by decide) (Nat.le_of_ble_eq_true rfl) dX5_copy_1 ?_
  refine v_if_eq C (tgt := 14) dX5_copy_4 (by decide) (fun q12 => ?_) (fun q12 => ?_)
  · rw [if_pos q12] at h
    refine V.sub (lv' := []) [] rfl ?_
    exact b_X5_copy_14 C  _ _ _ h
  · rw [if_neg q12] at h
    refine v_iload_n C dX5_copy_7 rfl 2 rfl ?_
    obtain ⟨v3, σ4, cσ4, h⟩ := bd_some h
    refine callSi C (c_X5_isSlot cσ4) km_X5_isSlot ks_X5_isSlot ml_RX5_151 rfl rfl (by decide) (Nat.le_of_ble_eq_true rfl) dX5_copy_8 ?_
    refine v_if_ne C (tgt := 17) dX5_copy_11 (by decide) (fun q11 => ?_) (fun q11 => ?_)
    · rw [if_neg q11] at h
      refine v_aload_n C dX5_copy_17 rfl 0 rfl ?_
      refine v_getR C (p' := 14) fl_RX5_39 rfl rfl dX5_copy_18 ?_
      refine v_iload_n C dX5_copy_21 rfl 1 rfl ?_
      obtain ⟨np5, p5, ep5, hp5, h⟩ := rdR_ex h
      refine x_aald C np5 ep5 dX5_copy_22 ?_
      refine v_getZ C fl_RX5_163 hp5 dX5_copy_23 ?_
      refine v_if_ne C (tgt := 32) dX5_copy_26 (by decide) (fun q10 => ?_) (fun q10 => ?_)
      · rw [if_neg q10] at h
        refine v_aload_n C dX5_copy_32 rfl 0 rfl ?_
        refine v_getR C (p' := 14) fl_RX5_39 rfl rfl dX5_copy_33 ?_
        refine v_iload_n C dX5_copy_36 rfl 2 rfl ?_
        obtain ⟨np6, p6, ep6, hp6, h⟩ := rdR_ex h
        refine x_aald C np6 ep6 dX5_copy_37 ?_
        refine v_aload_n C dX5_copy_38 rfl 0 rfl ?_
        refine v_getR C (p' := 14) fl_RX5_39 rfl rfl dX5_copy_39 ?_
        refine v_iload_n C dX5_copy_42 rfl 1 rfl ?_
        obtain ⟨np7, p7, ep7, hp7, h⟩ := rdR_ex h
        refine x_aald C np7 ep7 dX5_copy_43 ?_
        obtain ⟨v8, σ9, cσ9, h⟩ := bd_some h
        refine callVv C (c_X2_take hp6 hp7 cσ9) km_X2_take kv_X2_take hp6 ml_RX5_167 rfl rfl (by decide) (Nat.le_of_ble_eq_true rfl) dX5_copy_44 ?_
        refine v_iconst C (v := (1 : Int32)) dX5_copy_47 (by decide) ?_
        cases h
        exact v_iret C dX5_copy_48
      · rw [if_pos q10] at h
        refine v_ldc C (v := (-900003 : Int32)) con_RX5_158 dX5_copy_29 ?_
        cases h
        exact v_iret C dX5_copy_31
    · rw [if_pos q11] at h
      refine V.sub (lv' := []) [] rfl ?_
      exact b_X5_copy_14 C  _ _ _ h
theorem dX5_place_0 : decode cX5_place 0 = .ok (.iload_n 1, 1) := by decide +kernel
theorem dX5_place_1 : decode cX5_place 1 = .ok (.invokestatic 151, 3) := by decide +kernel
theorem dX5_place_4 : decode cX5_place 4 = .ok (.ifCond .ne 7, 3) := by decide +kernel
theorem dX5_place_7 : decode cX5_place 7 = .ok (.ldc2_w 131, 3) := by decide +kernel
theorem dX5_place_10 : decode cX5_place 10 = .ok (.lreturn, 1) := by decide +kernel
theorem dX5_place_11 : decode cX5_place 11 = .ok (.aload_n 0, 1) := by decide +kernel
theorem dX5_place_12 : decode cX5_place 12 = .ok (.getfield 39, 3) := by decide +kernel
theorem dX5_place_15 : decode cX5_place 15 = .ok (.iload_n 1, 1) := by decide +kernel
theorem dX5_place_16 : decode cX5_place 16 = .ok (.aaload, 1) := by decide +kernel
theorem dX5_place_17 : decode cX5_place 17 = .ok (.getfield 163, 3) := by decide +kernel
theorem dX5_place_20 : decode cX5_place 20 = .ok (.ifCond .ne 7, 3) := by decide +kernel
theorem dX5_place_23 : decode cX5_place 23 = .ok (.ldc2_w 171, 3) := by decide +kernel
theorem dX5_place_26 : decode cX5_place 26 = .ok (.lreturn, 1) := by decide +kernel
theorem dX5_place_27 : decode cX5_place 27 = .ok (.aload_n 0, 1) := by decide +kernel
theorem dX5_place_28 : decode cX5_place 28 = .ok (.invokevirtual 118, 3) := by decide +kernel
theorem dX5_place_31 : decode cX5_place 31 = .ok (.aload_n 0, 1) := by decide +kernel
theorem dX5_place_32 : decode cX5_place 32 = .ok (.getfield 19, 3) := by decide +kernel
theorem dX5_place_35 : decode cX5_place 35 = .ok (.aload_n 0, 1) := by decide +kernel
theorem dX5_place_36 : decode cX5_place 36 = .ok (.getfield 12, 3) := by decide +kernel
theorem dX5_place_39 : decode cX5_place 39 = .ok (.aload_n 0, 1) := by decide +kernel
theorem dX5_place_40 : decode cX5_place 40 = .ok (.getfield 39, 3) := by decide +kernel
theorem dX5_place_43 : decode cX5_place 43 = .ok (.iload_n 1, 1) := by decide +kernel
theorem dX5_place_44 : decode cX5_place 44 = .ok (.aaload, 1) := by decide +kernel
theorem dX5_place_45 : decode cX5_place 45 = .ok (.invokevirtual 173, 3) := by decide +kernel
theorem dX5_place_48 : decode cX5_place 48 = .ok (.lreturn, 1) := by decide +kernel
def f_X5_place (a1 : Int32) (σ : St) : Option (Int64 × St) :=
  bd (f_X5_isSlot a1 σ) fun v1 σ2 =>
  if v1 = 0 then
    some ((-900001 : Int64), σ2)
  else
    rdR a1 fun p3 =>
    if (gi σ2 p3 0) = 0 then
      some ((-900003 : Int64), σ2)
    else
      bd (f_X5_makeSteps σ2) fun _ σ5 =>
      rdR a1 fun p6 =>
      bd (f_X3_waysAhead p6 σ5) fun v7 σ8 =>
      some (v7, σ8)
set_option maxRecDepth 100000 in
set_option maxHeartbeats 4000000 in
theorem c_X5_place {g : Geo} {a1 : Int32} {σ : St} {r : Int64} {σ' : St} (h : f_X5_place a1 σ = some (r, σ')) : Ct g yX5_place cX5_place 2 (some .long) rm_X5_place [.ref (g.1 0), .int a1] σ (some (.long r)) σ' := by
  refine ct_of (own := RX5) (by decide) rfl (Nat.le_of_ble_eq_true rfl) (fun x C => ?_) ⟨rfl, rfl⟩
  show V g x _ 2 σ [(0, .ref (g.1 0)), (1, .int a1)] [] 0
  unfold f_X5_place at h
  refine v_iload_n C dX5_place_0 rfl 1 rfl ?_
  obtain ⟨v1, σ2, cσ2, h⟩ := bd_some h
  refine callSi C (c_X5_isSlot cσ2) km_X5_isSlot ks_X5_isSlot ml_RX5_151 rfl rfl (by decide) (Nat.le_of_ble_eq_true rfl) dX5_place_1 ?_
  refine v_if_ne C (tgt := 11) dX5_place_4 (by decide) (fun q10 => ?_) (fun q10 => ?_)
  · rw [if_neg q10] at h
    refine v_aload_n C dX5_place_11 rfl 0 rfl ?_
    refine v_getR C (p' := 14) fl_RX5_39 rfl rfl dX5_place_12 ?_
    refine v_iload_n C dX5_place_15 rfl 1 rfl ?_
    obtain ⟨np3, p3, ep3, hp3, h⟩ := rdR_ex h
    refine x_aald C np3 ep3 dX5_place_16 ?_
    refine v_getZ C fl_RX5_163 hp3 dX5_place_17 ?_
    refine v_if_ne C (tgt := 27) dX5_place_20 (by decide) (fun q9 => ?_) (fun q9 => ?_)
    · rw [if_neg q9] at h
      refine v_aload_n C dX5_place_27 rfl 0 rfl ?_
      obtain ⟨v4, σ5, cσ5, h⟩ := bd_some h
      refine callVv C (c_X5_makeSteps cσ5) km_X5_makeSteps kv_X5_makeSteps rfl ml_RX5_118 rfl rfl (by decide) (Nat.le_of_ble_eq_true rfl) dX5_place_28 ?_
      refine v_aload_n C dX5_place_31 rfl 0 rfl ?_
      refine v_getR C (p' := 2) fl_RX5_19 rfl rfl dX5_place_32 ?_
      refine v_aload_n C dX5_place_35 rfl 0 rfl ?_
      refine v_getR C (p' := 1) fl_RX5_12 rfl rfl dX5_place_36 ?_
      refine v_aload_n C dX5_place_39 rfl 0 rfl ?_
      refine v_getR C (p' := 14) fl_RX5_39 rfl rfl dX5_place_40 ?_
      refine v_iload_n C dX5_place_43 rfl 1 rfl ?_
      obtain ⟨np6, p6, ep6, hp6, h⟩ := rdR_ex h
      refine x_aald C np6 ep6 dX5_place_44 ?_
      obtain ⟨v7, σ8, cσ8, h⟩ := bd_some h
      refine callVl C (c_X3_waysAhead hp6 cσ8) km_X3_waysAhead kv_X3_waysAhead rfl ml_RX5_173 rfl rfl (by decide) (Nat.le_of_ble_eq_true rfl) dX5_place_45 ?_
      cases h
      exact v_lret C dX5_place_48
    · rw [if_pos q9] at h
      refine v_ldc2_w C (v := (-900003 : Int64)) conl_RX5_171 dX5_place_23 ?_
      cases h
      exact v_lret C dX5_place_26
  · rw [if_pos q10] at h
    refine v_ldc2_w C (v := (-900001 : Int64)) conl_RX5_131 dX5_place_7 ?_
    cases h
    exact v_lret C dX5_place_10
theorem dX5_kind_0 : decode cX5_kind 0 = .ok (.iload_n 1, 1) := by decide +kernel
theorem dX5_kind_1 : decode cX5_kind 1 = .ok (.invokestatic 151, 3) := by decide +kernel
theorem dX5_kind_4 : decode cX5_kind 4 = .ok (.ifCond .eq 14, 3) := by decide +kernel
theorem dX5_kind_7 : decode cX5_kind 7 = .ok (.aload_n 0, 1) := by decide +kernel
theorem dX5_kind_8 : decode cX5_kind 8 = .ok (.getfield 12, 3) := by decide +kernel
theorem dX5_kind_11 : decode cX5_kind 11 = .ok (.iload_n 2, 1) := by decide +kernel
theorem dX5_kind_12 : decode cX5_kind 12 = .ok (.invokevirtual 125, 3) := by decide +kernel
theorem dX5_kind_15 : decode cX5_kind 15 = .ok (.ifCond .ne 6, 3) := by decide +kernel
theorem dX5_kind_18 : decode cX5_kind 18 = .ok (.ldc 95, 2) := by decide +kernel
theorem dX5_kind_20 : decode cX5_kind 20 = .ok (.ireturn, 1) := by decide +kernel
theorem dX5_kind_21 : decode cX5_kind 21 = .ok (.aload_n 0, 1) := by decide +kernel
theorem dX5_kind_22 : decode cX5_kind 22 = .ok (.getfield 39, 3) := by decide +kernel
theorem dX5_kind_25 : decode cX5_kind 25 = .ok (.iload_n 1, 1) := by decide +kernel
theorem dX5_kind_26 : decode cX5_kind 26 = .ok (.aaload, 1) := by decide +kernel
theorem dX5_kind_27 : decode cX5_kind 27 = .ok (.getfield 163, 3) := by decide +kernel
theorem dX5_kind_30 : decode cX5_kind 30 = .ok (.ifCond .ne 6, 3) := by decide +kernel
theorem dX5_kind_33 : decode cX5_kind 33 = .ok (.ldc 158, 2) := by decide +kernel
theorem dX5_kind_35 : decode cX5_kind 35 = .ok (.ireturn, 1) := by decide +kernel
theorem dX5_kind_36 : decode cX5_kind 36 = .ok (.aload_n 0, 1) := by decide +kernel
theorem dX5_kind_37 : decode cX5_kind 37 = .ok (.getfield 39, 3) := by decide +kernel
theorem dX5_kind_40 : decode cX5_kind 40 = .ok (.iload_n 1, 1) := by decide +kernel
theorem dX5_kind_41 : decode cX5_kind 41 = .ok (.aaload, 1) := by decide +kernel
theorem dX5_kind_42 : decode cX5_kind 42 = .ok (.iload_n 2, 1) := by decide +kernel
theorem dX5_kind_43 : decode cX5_kind 43 = .ok (.invokevirtual 177, 3) := by decide +kernel
theorem dX5_kind_46 : decode cX5_kind 46 = .ok (.istore_n 3, 1) := by decide +kernel
theorem dX5_kind_47 : decode cX5_kind 47 = .ok (.iload_n 3, 1) := by decide +kernel
theorem dX5_kind_48 : decode cX5_kind 48 = .ok (.ifCond .ge 8, 3) := by decide +kernel
theorem dX5_kind_51 : decode cX5_kind 51 = .ok (.ldc 146, 2) := by decide +kernel
theorem dX5_kind_53 : decode cX5_kind 53 = .ok (.goto 4, 3) := by decide +kernel
theorem dX5_kind_56 : decode cX5_kind 56 = .ok (.iload_n 3, 1) := by decide +kernel
theorem dX5_kind_57 : decode cX5_kind 57 = .ok (.ireturn, 1) := by decide +kernel
def f_X5_kind_57 (s0 : Int32) (σ : St) : Option (Int32 × St) :=
  some (s0, σ)
set_option maxRecDepth 100000 in
set_option maxHeartbeats 4000000 in
theorem b_X5_kind_57 {g : Geo} {x : Cx} (C : Ok g x cX5_kind RX5 4 (some .int) rm_X5_kind) : ∀ (s0 : Int32) (σ : St) (r : Int32) (σ' : St), f_X5_kind_57 s0 σ = some (r, σ') → V g x (qm g x (some (.int r)) σ') 4 σ [] [.int s0] 57 := by
  intro s0 σ r σ' h
  unfold f_X5_kind_57 at h
  cases h
  exact v_iret C dX5_kind_57
def f_X5_kind_18 (σ : St) : Option (Int32 × St) :=
  some ((-900001 : Int32), σ)
set_option maxRecDepth 100000 in
set_option maxHeartbeats 4000000 in
theorem b_X5_kind_18 {g : Geo} {x : Cx} (C : Ok g x cX5_kind RX5 4 (some .int) rm_X5_kind) : ∀ (σ : St) (r : Int32) (σ' : St), f_X5_kind_18 σ = some (r, σ') → V g x (qm g x (some (.int r)) σ') 4 σ [] [] 18 := by
  intro σ r σ' h
  unfold f_X5_kind_18 at h
  refine v_ldc C (v := (-900001 : Int32)) con_RX5_95 dX5_kind_18 ?_
  cases h
  exact v_iret C dX5_kind_20
def f_X5_kind (a1 : Int32) (a2 : Int32) (σ : St) : Option (Int32 × St) :=
  bd (f_X5_isSlot a1 σ) fun v1 σ2 =>
  if v1 = 0 then
    f_X5_kind_18 σ2
  else
    bd (f_X1_hasCell a2 σ2) fun v3 σ4 =>
    if v3 = 0 then
      f_X5_kind_18 σ4
    else
      rdR a1 fun p5 =>
      if (gi σ4 p5 0) = 0 then
        some ((-900003 : Int32), σ4)
      else
        rdR a1 fun p6 =>
        bd (f_X2_kindAt p6 a2 σ4) fun v7 σ8 =>
        if 0 ≤ v7 then
          f_X5_kind_57 v7 σ8
        else
          f_X5_kind_57 (-900009 : Int32) σ8
set_option maxRecDepth 100000 in
set_option maxHeartbeats 4000000 in
theorem c_X5_kind {g : Geo} {a1 : Int32} {a2 : Int32} {σ : St} {r : Int32} {σ' : St} (h : f_X5_kind a1 a2 σ = some (r, σ')) : Ct g yX5_kind cX5_kind 4 (some .int) rm_X5_kind [.ref (g.1 0), .int a1, .int a2] σ (some (.int r)) σ' := by
  refine ct_of (own := RX5) (by decide) rfl (Nat.le_of_ble_eq_true rfl) (fun x C => ?_) ⟨rfl, rfl⟩
  show V g x _ 4 σ [(0, .ref (g.1 0)), (1, .int a1), (2, .int a2)] [] 0
  unfold f_X5_kind at h
  refine v_iload_n C dX5_kind_0 rfl 1 rfl ?_
  obtain ⟨v1, σ2, cσ2, h⟩ := bd_some h
  refine callSi C (c_X5_isSlot cσ2) km_X5_isSlot ks_X5_isSlot ml_RX5_151 rfl rfl (by decide) (Nat.le_of_ble_eq_true rfl) dX5_kind_1 ?_
  refine v_if_eq C (tgt := 18) dX5_kind_4 (by decide) (fun q12 => ?_) (fun q12 => ?_)
  · rw [if_pos q12] at h
    refine V.sub (lv' := []) [] rfl ?_
    exact b_X5_kind_18 C  _ _ _ h
  · rw [if_neg q12] at h
    refine v_aload_n C dX5_kind_7 rfl 0 rfl ?_
    refine v_getR C (p' := 1) fl_RX5_12 rfl rfl dX5_kind_8 ?_
    refine v_iload_n C dX5_kind_11 rfl 2 rfl ?_
    obtain ⟨v3, σ4, cσ4, h⟩ := bd_some h
    refine callVi C (c_X1_hasCell cσ4) km_X1_hasCell kv_X1_hasCell rfl ml_RX5_125 rfl rfl (by decide) (Nat.le_of_ble_eq_true rfl) dX5_kind_12 ?_
    refine v_if_ne C (tgt := 21) dX5_kind_15 (by decide) (fun q11 => ?_) (fun q11 => ?_)
    · rw [if_neg q11] at h
      refine v_aload_n C dX5_kind_21 rfl 0 rfl ?_
      refine v_getR C (p' := 14) fl_RX5_39 rfl rfl dX5_kind_22 ?_
      refine v_iload_n C dX5_kind_25 rfl 1 rfl ?_
      obtain ⟨np5, p5, ep5, hp5, h⟩ := rdR_ex h
      refine x_aald C np5 ep5 dX5_kind_26 ?_
      refine v_getZ C fl_RX5_163 hp5 dX5_kind_27 ?_
      refine v_if_ne C (tgt := 36) dX5_kind_30 (by decide) (fun q10 => ?_) (fun q10 => ?_)
      · rw [if_neg q10] at h
        refine v_aload_n C dX5_kind_36 rfl 0 rfl ?_
        refine v_getR C (p' := 14) fl_RX5_39 rfl rfl dX5_kind_37 ?_
        refine v_iload_n C dX5_kind_40 rfl 1 rfl ?_
        obtain ⟨np6, p6, ep6, hp6, h⟩ := rdR_ex h
        refine x_aald C np6 ep6 dX5_kind_41 ?_
        refine v_iload_n C dX5_kind_42 rfl 2 rfl ?_
        obtain ⟨v7, σ8, cσ8, h⟩ := bd_some h
        refine callVi C (c_X2_kindAt hp6 cσ8) km_X2_kindAt kv_X2_kindAt hp6 ml_RX5_177 rfl rfl (by decide) (Nat.le_of_ble_eq_true rfl) dX5_kind_43 ?_
        refine v_istore_n C (lv' := [(3, .int _), (0, .ref _), (1, .int _), (2, .int _)]) dX5_kind_46 rfl (by decide) rfl ?_
        refine v_iload_n C dX5_kind_47 rfl 0 rfl ?_
        refine v_if_ge C (tgt := 56) dX5_kind_48 (by decide) (fun q9 => ?_) (fun q9 => ?_)
        · rw [if_pos q9] at h
          refine v_iload_n C dX5_kind_56 rfl 0 rfl ?_
          refine V.sub (lv' := []) [] rfl ?_
          exact b_X5_kind_57 C _  _ _ _ h
        · rw [if_neg q9] at h
          refine v_ldc C (v := (-900009 : Int32)) con_RX5_146 dX5_kind_51 ?_
          refine v_goto C (tgt := 57) dX5_kind_53 (by decide) ?_
          refine V.sub (lv' := []) [] rfl ?_
          exact b_X5_kind_57 C _  _ _ _ h
      · rw [if_pos q10] at h
        refine v_ldc C (v := (-900003 : Int32)) con_RX5_158 dX5_kind_33 ?_
        cases h
        exact v_iret C dX5_kind_35
    · rw [if_pos q11] at h
      refine V.sub (lv' := []) [] rfl ?_
      exact b_X5_kind_18 C  _ _ _ h
