/-! ===== printed: X1_holds, X1_change, X1_across, X1_isSymmetric, X2_clear, X2_take, X2_cellsOf, X2_kindAt, X2_isLike, X2_alikeIn, X2_lows, X2_highs, X2_flip, J7_fill_53178, X3_openAfter, X3_nodeFor, X3_countOnward, X3_countHither, X3_build, X3_total ===== -/
theorem dX1_holds_0 : decode cX1_holds 0 = .ok (.iload_n 1, 1) := by decide +kernel
theorem dX1_holds_1 : decode cX1_holds 1 = .ok (.iconst 1, 1) := by decide +kernel
theorem dX1_holds_2 : decode cX1_holds 2 = .ok (.iand, 1) := by decide +kernel
theorem dX1_holds_3 : decode cX1_holds 3 = .ok (.ifCond .ne 10, 3) := by decide +kernel
theorem dX1_holds_6 : decode cX1_holds 6 = .ok (.aload_n 0, 1) := by decide +kernel
theorem dX1_holds_7 : decode cX1_holds 7 = .ok (.getfield 31, 3) := by decide +kernel
theorem dX1_holds_10 : decode cX1_holds 10 = .ok (.goto 7, 3) := by decide +kernel
theorem dX1_holds_13 : decode cX1_holds 13 = .ok (.aload_n 0, 1) := by decide +kernel
theorem dX1_holds_14 : decode cX1_holds 14 = .ok (.getfield 34, 3) := by decide +kernel
theorem dX1_holds_17 : decode cX1_holds 17 = .ok (.lstore_n 2, 1) := by decide +kernel
theorem dX1_holds_18 : decode cX1_holds 18 = .ok (.lload_n 2, 1) := by decide +kernel
theorem dX1_holds_19 : decode cX1_holds 19 = .ok (.iload_n 1, 1) := by decide +kernel
theorem dX1_holds_20 : decode cX1_holds 20 = .ok (.iconst 1, 1) := by decide +kernel
theorem dX1_holds_21 : decode cX1_holds 21 = .ok (.ishr, 1) := by decide +kernel
theorem dX1_holds_22 : decode cX1_holds 22 = .ok (.lushr, 1) := by decide +kernel
theorem dX1_holds_23 : decode cX1_holds 23 = .ok (.lconst 1, 1) := by decide +kernel
theorem dX1_holds_24 : decode cX1_holds 24 = .ok (.land, 1) := by decide +kernel
theorem dX1_holds_25 : decode cX1_holds 25 = .ok (.lconst 0, 1) := by decide +kernel
theorem dX1_holds_26 : decode cX1_holds 26 = .ok (.lcmp, 1) := by decide +kernel
theorem dX1_holds_27 : decode cX1_holds 27 = .ok (.ifCond .eq 7, 3) := by decide +kernel
theorem dX1_holds_30 : decode cX1_holds 30 = .ok (.iconst 1, 1) := by decide +kernel
theorem dX1_holds_31 : decode cX1_holds 31 = .ok (.goto 4, 3) := by decide +kernel
theorem dX1_holds_34 : decode cX1_holds 34 = .ok (.iconst 0, 1) := by decide +kernel
theorem dX1_holds_35 : decode cX1_holds 35 = .ok (.ireturn, 1) := by decide +kernel
def f_X1_holds_35 (s0 : Int32) (σ : St) : Option (Int32 × St) :=
  gz s0 <|
  some (s0, σ)
set_option maxRecDepth 100000 in
set_option maxHeartbeats 4000000 in
theorem b_X1_holds_35 {g : Geo} {x : Cx} (C : Ok g x cX1_holds RX1 4 (some .boolean) rm_X1_holds) : ∀ (s0 : Int32) (σ : St) (r : Int32) (σ' : St), f_X1_holds_35 s0 σ = some (r, σ') → V g x (qm g x (some (.int r)) σ') 4 σ [] [.int s0] 35 := by
  intro s0 σ r σ' h
  unfold f_X1_holds_35 at h
  obtain ⟨hz, h⟩ := gz_some h
  cases h
  exact v_zret C hz dX1_holds_35
def f_X1_holds_17 (x1 : Int32) (s0 : Int64) (σ : St) : Option (Int32 × St) :=
  if ((lushr s0 (jshr x1 (1 : Int32))) &&& (1 : Int64)) = (0 : Int64) then
    f_X1_holds_35 (0 : Int32) σ
  else
    f_X1_holds_35 (1 : Int32) σ
set_option maxRecDepth 100000 in
set_option maxHeartbeats 4000000 in
theorem b_X1_holds_17 {g : Geo} {x : Cx} (C : Ok g x cX1_holds RX1 4 (some .boolean) rm_X1_holds) : ∀ (x1 : Int32) (s0 : Int64) (σ : St) (r : Int32) (σ' : St), f_X1_holds_17 x1 s0 σ = some (r, σ') → V g x (qm g x (some (.int r)) σ') 4 σ [(1, .int x1)] [.long s0] 17 := by
  intro x1 s0 σ r σ' h
  unfold f_X1_holds_17 at h
  refine v_lstore_n C (lv' := [(2, .long _), (1, .int _)]) dX1_holds_17 rfl (by decide) rfl ?_
  refine v_lload_n C dX1_holds_18 rfl 0 rfl ?_
  refine v_iload_n C dX1_holds_19 rfl 1 rfl ?_
  refine v_iconst C (v := (1 : Int32)) dX1_holds_20 (by decide) ?_
  refine v_ishr C dX1_holds_21 ?_
  refine v_lushr C dX1_holds_22 ?_
  refine v_lconst C (v := (1 : Int64)) dX1_holds_23 (by decide) ?_
  refine v_land C dX1_holds_24 ?_
  refine v_lconst C (v := (0 : Int64)) dX1_holds_25 (by decide) ?_
  refine v_lcmp_eq C (tgt := 34) dX1_holds_26 dX1_holds_27 (by decide) (fun q1 => ?_) (fun q1 => ?_)
  · rw [if_pos q1] at h
    refine v_iconst C (v := (0 : Int32)) dX1_holds_34 (by decide) ?_
    refine V.sub (lv' := []) [] rfl ?_
    exact b_X1_holds_35 C _  _ _ _ h
  · rw [if_neg q1] at h
    refine v_iconst C (v := (1 : Int32)) dX1_holds_30 (by decide) ?_
    refine v_goto C (tgt := 35) dX1_holds_31 (by decide) ?_
    refine V.sub (lv' := []) [] rfl ?_
    exact b_X1_holds_35 C _  _ _ _ h
def f_X1_holds (a1 : Int32) (σ : St) : Option (Int32 × St) :=
  if (a1 &&& (1 : Int32)) = 0 then
    f_X1_holds_17 a1 (gl σ 1 3) σ
  else
    f_X1_holds_17 a1 (gl σ 1 4) σ
set_option maxRecDepth 100000 in
set_option maxHeartbeats 4000000 in
theorem c_X1_holds {g : Geo} {a1 : Int32} {σ : St} {r : Int32} {σ' : St} (h : f_X1_holds a1 σ = some (r, σ')) : Ct g yX1_holds cX1_holds 4 (some .boolean) rm_X1_holds [.ref (g.1 1), .int a1] σ (some (.int r)) σ' := by
  refine ct_of (own := RX1) (by decide) rfl (Nat.le_of_ble_eq_true rfl) (fun x C => ?_) ⟨rfl, rfl⟩
  show V g x _ 4 σ [(0, .ref (g.1 1)), (1, .int a1)] [] 0
  unfold f_X1_holds at h
  refine v_iload_n C dX1_holds_0 rfl 1 rfl ?_
  refine v_iconst C (v := (1 : Int32)) dX1_holds_1 (by decide) ?_
  refine v_iand C dX1_holds_2 ?_
  refine v_if_ne C (tgt := 13) dX1_holds_3 (by decide) (fun q1 => ?_) (fun q1 => ?_)
  · rw [if_neg q1] at h
    refine v_aload_n C dX1_holds_13 rfl 0 rfl ?_
    refine v_getL C fl_RX1_34 rfl dX1_holds_14 ?_
    refine V.sub (lv' := [(1, .int _)]) [1] rfl ?_
    exact b_X1_holds_17 C _ _  _ _ _ h
  · rw [if_pos q1] at h
    refine v_aload_n C dX1_holds_6 rfl 0 rfl ?_
    refine v_getL C fl_RX1_31 rfl dX1_holds_7 ?_
    refine v_goto C (tgt := 17) dX1_holds_10 (by decide) ?_
    refine V.sub (lv' := [(1, .int _)]) [1] rfl ?_
    exact b_X1_holds_17 C _ _  _ _ _ h
theorem dX1_change_0 : decode cX1_change 0 = .ok (.lconst 1, 1) := by decide +kernel
theorem dX1_change_1 : decode cX1_change 1 = .ok (.iload_n 1, 1) := by decide +kernel
theorem dX1_change_2 : decode cX1_change 2 = .ok (.iconst 1, 1) := by decide +kernel
theorem dX1_change_3 : decode cX1_change 3 = .ok (.ishr, 1) := by decide +kernel
theorem dX1_change_4 : decode cX1_change 4 = .ok (.lshl, 1) := by decide +kernel
theorem dX1_change_5 : decode cX1_change 5 = .ok (.lstore_n 2, 1) := by decide +kernel
theorem dX1_change_6 : decode cX1_change 6 = .ok (.iload_n 1, 1) := by decide +kernel
theorem dX1_change_7 : decode cX1_change 7 = .ok (.iconst 1, 1) := by decide +kernel
theorem dX1_change_8 : decode cX1_change 8 = .ok (.iand, 1) := by decide +kernel
theorem dX1_change_9 : decode cX1_change 9 = .ok (.ifCond .ne 16, 3) := by decide +kernel
theorem dX1_change_12 : decode cX1_change 12 = .ok (.aload_n 0, 1) := by decide +kernel
theorem dX1_change_13 : decode cX1_change 13 = .ok (.dup, 1) := by decide +kernel
theorem dX1_change_14 : decode cX1_change 14 = .ok (.getfield 31, 3) := by decide +kernel
theorem dX1_change_17 : decode cX1_change 17 = .ok (.lload_n 2, 1) := by decide +kernel
theorem dX1_change_18 : decode cX1_change 18 = .ok (.lxor, 1) := by decide +kernel
theorem dX1_change_19 : decode cX1_change 19 = .ok (.putfield 31, 3) := by decide +kernel
theorem dX1_change_22 : decode cX1_change 22 = .ok (.goto 13, 3) := by decide +kernel
theorem dX1_change_25 : decode cX1_change 25 = .ok (.aload_n 0, 1) := by decide +kernel
theorem dX1_change_26 : decode cX1_change 26 = .ok (.dup, 1) := by decide +kernel
theorem dX1_change_27 : decode cX1_change 27 = .ok (.getfield 34, 3) := by decide +kernel
theorem dX1_change_30 : decode cX1_change 30 = .ok (.lload_n 2, 1) := by decide +kernel
theorem dX1_change_31 : decode cX1_change 31 = .ok (.lxor, 1) := by decide +kernel
theorem dX1_change_32 : decode cX1_change 32 = .ok (.putfield 34, 3) := by decide +kernel
theorem dX1_change_35 : decode cX1_change 35 = .ok (.aload_n 0, 1) := by decide +kernel
theorem dX1_change_36 : decode cX1_change 36 = .ok (.invokevirtual 37, 3) := by decide +kernel
theorem dX1_change_39 : decode cX1_change 39 = .ok (.return_, 1) := by decide +kernel
def f_X1_change_35 (σ : St) : Option (Unit × St) :=
  bd (f_X1_findInner σ) fun _ σ2 =>
  some ((), σ2)
set_option maxRecDepth 100000 in
set_option maxHeartbeats 4000000 in
theorem b_X1_change_35 {g : Geo} {x : Cx} (C : Ok g x cX1_change RX1 4 none rm_X1_change) : ∀ (σ : St) (r : Unit) (σ' : St), f_X1_change_35 σ = some (r, σ') → V g x (qm g x none σ') 4 σ [(0, .ref (g.1 1))] [] 35 := by
  intro σ r σ' h
  unfold f_X1_change_35 at h
  refine v_aload_n C dX1_change_35 rfl 0 rfl ?_
  obtain ⟨v1, σ2, cσ2, h⟩ := bd_some h
  refine callVv C (c_X1_findInner cσ2) km_X1_findInner kv_X1_findInner rfl ml_RX1_37 rfl rfl (by decide) (Nat.le_of_ble_eq_true rfl) dX1_change_36 ?_
  cases h
  exact v_vret C dX1_change_39
def f_X1_change (a1 : Int32) (σ : St) : Option (Unit × St) :=
  if (a1 &&& (1 : Int32)) = 0 then
    fL σ 1 3 ((gl σ 1 3) ^^^ (lshl (1 : Int64) (jshr a1 (1 : Int32)))) fun σ2 =>
    f_X1_change_35 σ2
  else
    fL σ 1 4 ((gl σ 1 4) ^^^ (lshl (1 : Int64) (jshr a1 (1 : Int32)))) fun σ1 =>
    f_X1_change_35 σ1
set_option maxRecDepth 100000 in
set_option maxHeartbeats 4000000 in
theorem c_X1_change {g : Geo} {a1 : Int32} {σ : St} {r : Unit} {σ' : St} (h : f_X1_change a1 σ = some (r, σ')) : Ct g yX1_change cX1_change 4 none rm_X1_change [.ref (g.1 1), .int a1] σ none σ' := by
  refine ct_of (own := RX1) (by decide) rfl (Nat.le_of_ble_eq_true rfl) (fun x C => ?_) ⟨rfl, rfl⟩
  show V g x _ 4 σ [(0, .ref (g.1 1)), (1, .int a1)] [] 0
  unfold f_X1_change at h
  refine v_lconst C (v := (1 : Int64)) dX1_change_0 (by decide) ?_
  refine v_iload_n C dX1_change_1 rfl 1 rfl ?_
  refine v_iconst C (v := (1 : Int32)) dX1_change_2 (by decide) ?_
  refine v_ishr C dX1_change_3 ?_
  refine v_lshl C dX1_change_4 ?_
  refine v_lstore_n C (lv' := [(2, .long _), (0, .ref _), (1, .int _)]) dX1_change_5 rfl (by decide) rfl ?_
  refine v_iload_n C dX1_change_6 rfl 2 rfl ?_
  refine v_iconst C (v := (1 : Int32)) dX1_change_7 (by decide) ?_
  refine v_iand C dX1_change_8 ?_
  refine v_if_ne C (tgt := 25) dX1_change_9 (by decide) (fun q3 => ?_) (fun q3 => ?_)
  · rw [if_neg q3] at h
    refine v_aload_n C dX1_change_25 rfl 1 rfl ?_
    refine v_dup C dX1_change_26 rfl ?_
    refine v_getL C fl_RX1_34 rfl dX1_change_27 ?_
    refine v_lload_n C dX1_change_30 rfl 0 rfl ?_
    refine v_lxor C dX1_change_31 ?_
    obtain ⟨σ1, eσ1, h⟩ := fL_ex h
    refine x_putL C fl_RX1_34 fw_1_4 rfl eσ1 dX1_change_32 ?_
    refine V.sub (lv' := [(0, .ref _)]) [1] rfl ?_
    exact b_X1_change_35 C  _ _ _ h
  · rw [if_pos q3] at h
    refine v_aload_n C dX1_change_12 rfl 1 rfl ?_
    refine v_dup C dX1_change_13 rfl ?_
    refine v_getL C fl_RX1_31 rfl dX1_change_14 ?_
    refine v_lload_n C dX1_change_17 rfl 0 rfl ?_
    refine v_lxor C dX1_change_18 ?_
    obtain ⟨σ2, eσ2, h⟩ := fL_ex h
    refine x_putL C fl_RX1_31 fw_1_3 rfl eσ2 dX1_change_19 ?_
    refine v_goto C (tgt := 35) dX1_change_22 (by decide) ?_
    refine V.sub (lv' := [(0, .ref _)]) [1] rfl ?_
    exact b_X1_change_35 C  _ _ _ h
theorem dX1_across_0 : decode cX1_across 0 = .ok (.lconst 0, 1) := by decide +kernel
theorem dX1_across_1 : decode cX1_across 1 = .ok (.lstore_n 3, 1) := by decide +kernel
theorem dX1_across_2 : decode cX1_across 2 = .ok (.iconst 0, 1) := by decide +kernel
theorem dX1_across_3 : decode cX1_across 3 = .ok (.istore 5, 2) := by decide +kernel
theorem dX1_across_5 : decode cX1_across 5 = .ok (.iload 5, 2) := by decide +kernel
theorem dX1_across_7 : decode cX1_across 7 = .ok (.aload_n 0, 1) := by decide +kernel
theorem dX1_across_8 : decode cX1_across 8 = .ok (.getfield 15, 3) := by decide +kernel
theorem dX1_across_11 : decode cX1_across 11 = .ok (.if_icmp .ge 53, 3) := by decide +kernel
theorem dX1_across_14 : decode cX1_across 14 = .ok (.iconst 0, 1) := by decide +kernel
theorem dX1_across_15 : decode cX1_across 15 = .ok (.istore 6, 2) := by decide +kernel
theorem dX1_across_17 : decode cX1_across 17 = .ok (.iload 6, 2) := by decide +kernel
theorem dX1_across_19 : decode cX1_across 19 = .ok (.aload_n 0, 1) := by decide +kernel
theorem dX1_across_20 : decode cX1_across 20 = .ok (.getfield 9, 3) := by decide +kernel
theorem dX1_across_23 : decode cX1_across 23 = .ok (.if_icmp .ge 35, 3) := by decide +kernel
theorem dX1_across_26 : decode cX1_across 26 = .ok (.lload_n 1, 1) := by decide +kernel
theorem dX1_across_27 : decode cX1_across 27 = .ok (.aload_n 0, 1) := by decide +kernel
theorem dX1_across_28 : decode cX1_across 28 = .ok (.iload 6, 2) := by decide +kernel
theorem dX1_across_30 : decode cX1_across 30 = .ok (.iload 5, 2) := by decide +kernel
theorem dX1_across_32 : decode cX1_across 32 = .ok (.invokevirtual 25, 3) := by decide +kernel
theorem dX1_across_35 : decode cX1_across 35 = .ok (.land, 1) := by decide +kernel
theorem dX1_across_36 : decode cX1_across 36 = .ok (.lconst 0, 1) := by decide +kernel
theorem dX1_across_37 : decode cX1_across 37 = .ok (.lcmp, 1) := by decide +kernel
theorem dX1_across_38 : decode cX1_across 38 = .ok (.ifCond .eq 14, 3) := by decide +kernel
theorem dX1_across_41 : decode cX1_across 41 = .ok (.lload_n 3, 1) := by decide +kernel
theorem dX1_across_42 : decode cX1_across 42 = .ok (.aload_n 0, 1) := by decide +kernel
theorem dX1_across_43 : decode cX1_across 43 = .ok (.iload 5, 2) := by decide +kernel
theorem dX1_across_45 : decode cX1_across 45 = .ok (.iload 6, 2) := by decide +kernel
theorem dX1_across_47 : decode cX1_across 47 = .ok (.invokevirtual 25, 3) := by decide +kernel
theorem dX1_across_50 : decode cX1_across 50 = .ok (.lor, 1) := by decide +kernel
theorem dX1_across_51 : decode cX1_across 51 = .ok (.lstore_n 3, 1) := by decide +kernel
theorem dX1_across_52 : decode cX1_across 52 = .ok (.iinc 6 1, 3) := by decide +kernel
theorem dX1_across_55 : decode cX1_across 55 = .ok (.goto (-38), 3) := by decide +kernel
theorem dX1_across_58 : decode cX1_across 58 = .ok (.iinc 5 1, 3) := by decide +kernel
theorem dX1_across_61 : decode cX1_across 61 = .ok (.goto (-56), 3) := by decide +kernel
theorem dX1_across_64 : decode cX1_across 64 = .ok (.lload_n 3, 1) := by decide +kernel
theorem dX1_across_65 : decode cX1_across 65 = .ok (.lreturn, 1) := by decide +kernel
def f_X1_across_52 (k17 : Int64 → Int64 → Int32 → Int32 → St → Option (Int64 × St)) (x1 : Int64) (x3 : Int64) (x5 : Int32) (x6 : Int32) (σ : St) : Option (Int64 × St) :=
  k17 x1 x3 x5 (x6 + 1) σ
set_option maxRecDepth 100000 in
set_option maxHeartbeats 4000000 in
theorem b_X1_across_52 {g : Geo} {x : Cx} (C : Ok g x cX1_across RX1 7 (some .long) rm_X1_across) (k17 : Int64 → Int64 → Int32 → Int32 → St → Option (Int64 × St)) (hk17 : ∀ (x1 : Int64) (x3 : Int64) (x5 : Int32) (x6 : Int32) (τ : St) (r : Int64) (τ' : St), k17 x1 x3 x5 x6 τ = some (r, τ') → V g x (qm g x (some (.long r)) τ') 7 τ [(0, .ref (g.1 1)), (1, .long x1), (3, .long x3), (5, .int x5), (6, .int x6)] [] 17) : ∀ (x1 : Int64) (x3 : Int64) (x5 : Int32) (x6 : Int32) (σ : St) (r : Int64) (σ' : St), f_X1_across_52 k17 x1 x3 x5 x6 σ = some (r, σ') → V g x (qm g x (some (.long r)) σ') 7 σ [(0, .ref (g.1 1)), (1, .long x1), (3, .long x3), (5, .int x5), (6, .int x6)] [] 52 := by
  intro x1 x3 x5 x6 σ r σ' h
  unfold f_X1_across_52 at h
  refine v_iinc C (v := (x6 + 1)) (lv' := [(6, .int _), (0, .ref _), (1, .long _), (3, .long _), (5, .int _)]) dX1_across_52 4 rfl rfl (by decide) rfl ?_
  refine v_goto C (tgt := 17) dX1_across_55 (by decide) ?_
  refine V.sub (lv' := [(0, .ref _), (1, .long _), (3, .long _), (5, .int _), (6, .int _)]) [1, 2, 3, 4, 0] rfl ?_
  exact hk17 _ _ _ _  _ _ _ h
def f_X1_across_17 (k5 : Int64 → Int64 → Int32 → St → Option (Int64 × St)) : Nat → Int64 → Int64 → Int32 → Int32 → St → Option (Int64 × St)
  | 0, _, _, _, _, _ => none
  | n + 1, x1, x3, x5, x6, σ =>
    if (gi σ 1 0) ≤ x6 then
      k5 x1 x3 (x5 + 1) σ
    else
      bd (f_X1_pointBit x6 x5 σ) fun v1 σ2 =>
      if (x1 &&& v1) = (0 : Int64) then
        f_X1_across_52 (f_X1_across_17 k5 n) x1 x3 x5 x6 σ2
      else
        bd (f_X1_pointBit x5 x6 σ2) fun v3 σ4 =>
        f_X1_across_52 (f_X1_across_17 k5 n) x1 (x3 ||| v3) x5 x6 σ4
set_option maxRecDepth 100000 in
set_option maxHeartbeats 4000000 in
theorem b_X1_across_17 {g : Geo} {x : Cx} (C : Ok g x cX1_across RX1 7 (some .long) rm_X1_across) (k5 : Int64 → Int64 → Int32 → St → Option (Int64 × St)) (hk5 : ∀ (x1 : Int64) (x3 : Int64) (x5 : Int32) (τ : St) (r : Int64) (τ' : St), k5 x1 x3 x5 τ = some (r, τ') → V g x (qm g x (some (.long r)) τ') 7 τ [(0, .ref (g.1 1)), (1, .long x1), (3, .long x3), (5, .int x5)] [] 5) : ∀ (n : Nat) (x1 : Int64) (x3 : Int64) (x5 : Int32) (x6 : Int32) (σ : St) (r : Int64) (σ' : St), f_X1_across_17 k5 n x1 x3 x5 x6 σ = some (r, σ') → V g x (qm g x (some (.long r)) σ') 7 σ [(0, .ref (g.1 1)), (1, .long x1), (3, .long x3), (5, .int x5), (6, .int x6)] [] 17 := by
  intro n
  induction n with
  | zero =>
    intro x1 x3 x5 x6 σ r σ' h
    rw [f_X1_across_17] at h
    cases h
  | succ n ih =>
    intro x1 x3 x5 x6 σ r σ' h
    rw [f_X1_across_17] at h
    refine v_iload C dX1_across_17 4 rfl ?_
    refine v_aload_n C dX1_across_19 rfl 0 rfl ?_
    refine v_getI C fl_RX1_9 rfl dX1_across_20 ?_
    refine v_icmp_ge C (tgt := 58) dX1_across_23 (by decide) (fun q6 => ?_) (fun q6 => ?_)
    · rw [if_pos q6] at h
      refine v_iinc C (v := (x5 + 1)) (lv' := [(5, .int _), (0, .ref _), (1, .long _), (3, .long _), (6, .int _)]) dX1_across_58 3 rfl rfl (by decide) rfl ?_
      refine v_goto C (tgt := 5) dX1_across_61 (by decide) ?_
      refine V.sub (lv' := [(0, .ref _), (1, .long _), (3, .long _), (5, .int _)]) [1, 2, 3, 0] rfl ?_
      exact hk5 _ _ _  _ _ _ h
    · rw [if_neg q6] at h
      refine v_lload_n C dX1_across_26 rfl 1 rfl ?_
      refine v_aload_n C dX1_across_27 rfl 0 rfl ?_
      refine v_iload C dX1_across_28 4 rfl ?_
      refine v_iload C dX1_across_30 3 rfl ?_
      obtain ⟨v1, σ2, cσ2, h⟩ := bd_some h
      refine callVl C (c_X1_pointBit cσ2) km_X1_pointBit kv_X1_pointBit rfl ml_RX1_25 rfl rfl (by decide) (Nat.le_of_ble_eq_true rfl) dX1_across_32 ?_
      refine v_land C dX1_across_35 ?_
      refine v_lconst C (v := (0 : Int64)) dX1_across_36 (by decide) ?_
      refine v_lcmp_eq C (tgt := 52) dX1_across_37 dX1_across_38 (by decide) (fun q5 => ?_) (fun q5 => ?_)
      · rw [if_pos q5] at h
        refine V.sub (lv' := [(0, .ref _), (1, .long _), (3, .long _), (5, .int _), (6, .int _)]) [0, 1, 2, 3, 4] rfl ?_
        exact b_X1_across_52 C _ ih _ _ _ _  _ _ _ h
      · rw [if_neg q5] at h
        refine v_lload_n C dX1_across_41 rfl 2 rfl ?_
        refine v_aload_n C dX1_across_42 rfl 0 rfl ?_
        refine v_iload C dX1_across_43 3 rfl ?_
        refine v_iload C dX1_across_45 4 rfl ?_
        obtain ⟨v3, σ4, cσ4, h⟩ := bd_some h
        refine callVl C (c_X1_pointBit cσ4) km_X1_pointBit kv_X1_pointBit rfl ml_RX1_25 rfl rfl (by decide) (Nat.le_of_ble_eq_true rfl) dX1_across_47 ?_
        refine v_lor C dX1_across_50 ?_
        refine v_lstore_n C (lv' := [(3, .long _), (0, .ref _), (1, .long _), (5, .int _), (6, .int _)]) dX1_across_51 rfl (by decide) rfl ?_
        refine V.sub (lv' := [(0, .ref _), (1, .long _), (3, .long _), (5, .int _), (6, .int _)]) [1, 2, 0, 3, 4] rfl ?_
        exact b_X1_across_52 C _ ih _ _ _ _  _ _ _ h
def f_X1_across_5 : Nat → Int64 → Int64 → Int32 → St → Option (Int64 × St)
  | 0, _, _, _, _ => none
  | n + 1, x1, x3, x5, σ =>
    if (gi σ 1 1) ≤ x5 then
      some (x3, σ)
    else
      f_X1_across_17 (f_X1_across_5 n) FU x1 x3 x5 (0 : Int32) σ
set_option maxRecDepth 100000 in
set_option maxHeartbeats 4000000 in
theorem b_X1_across_5 {g : Geo} {x : Cx} (C : Ok g x cX1_across RX1 7 (some .long) rm_X1_across) : ∀ (n : Nat) (x1 : Int64) (x3 : Int64) (x5 : Int32) (σ : St) (r : Int64) (σ' : St), f_X1_across_5 n x1 x3 x5 σ = some (r, σ') → V g x (qm g x (some (.long r)) σ') 7 σ [(0, .ref (g.1 1)), (1, .long x1), (3, .long x3), (5, .int x5)] [] 5 := by
  intro n
  induction n with
  | zero =>
    intro x1 x3 x5 σ r σ' h
    rw [f_X1_across_5] at h
    cases h
  | succ n ih =>
    intro x1 x3 x5 σ r σ' h
    rw [f_X1_across_5] at h
    refine v_iload C dX1_across_5 3 rfl ?_
    refine v_aload_n C dX1_across_7 rfl 0 rfl ?_
    refine v_getI C fl_RX1_15 rfl dX1_across_8 ?_
    refine v_icmp_ge C (tgt := 64) dX1_across_11 (by decide) (fun q1 => ?_) (fun q1 => ?_)
    · rw [if_pos q1] at h
      refine v_lload_n C dX1_across_64 rfl 2 rfl ?_
      cases h
      exact v_lret C dX1_across_65
    · rw [if_neg q1] at h
      refine v_iconst C (v := (0 : Int32)) dX1_across_14 (by decide) ?_
      refine v_istore C (lv' := [(6, .int _), (0, .ref _), (1, .long _), (3, .long _), (5, .int _)]) dX1_across_15 (by decide) rfl ?_
      refine V.sub (lv' := [(0, .ref _), (1, .long _), (3, .long _), (5, .int _), (6, .int _)]) [1, 2, 3, 4, 0] rfl ?_
      exact b_X1_across_17 C _ ih FU _ _ _ _  _ _ _ h
def f_X1_across (a1 : Int64) (σ : St) : Option (Int64 × St) :=
  f_X1_across_5 FU a1 (0 : Int64) (0 : Int32) σ
set_option maxRecDepth 100000 in
set_option maxHeartbeats 4000000 in
theorem c_X1_across {g : Geo} {a1 : Int64} {σ : St} {r : Int64} {σ' : St} (h : f_X1_across a1 σ = some (r, σ')) : Ct g yX1_across cX1_across 7 (some .long) rm_X1_across [.ref (g.1 1), .long a1] σ (some (.long r)) σ' := by
  refine ct_of (own := RX1) (by decide) rfl (Nat.le_of_ble_eq_true rfl) (fun x C => ?_) ⟨rfl, rfl⟩
  show V g x _ 7 σ [(0, .ref (g.1 1)), (1, .long a1)] [] 0
  unfold f_X1_across at h
  refine v_lconst C (v := (0 : Int64)) dX1_across_0 (by decide) ?_
  refine v_lstore_n C (lv' := [(3, .long _), (0, .ref _), (1, .long _)]) dX1_across_1 rfl (by decide) rfl ?_
  refine v_iconst C (v := (0 : Int32)) dX1_across_2 (by decide) ?_
  refine v_istore C (lv' := [(5, .int _), (3, .long _), (0, .ref _), (1, .long _)]) dX1_across_3 (by decide) rfl ?_
  refine V.sub (lv' := [(0, .ref _), (1, .long _), (3, .long _), (5, .int _)]) [2, 3, 1, 0] rfl ?_
  exact b_X1_across_5 C FU _ _ _  _ _ _ h
theorem dX1_isSymmetric_0 : decode cX1_isSymmetric 0 = .ok (.aload_n 0, 1) := by decide +kernel
theorem dX1_isSymmetric_1 : decode cX1_isSymmetric 1 = .ok (.getfield 9, 3) := by decide +kernel
theorem dX1_isSymmetric_4 : decode cX1_isSymmetric 4 = .ok (.aload_n 0, 1) := by decide +kernel
theorem dX1_isSymmetric_5 : decode cX1_isSymmetric 5 = .ok (.getfield 15, 3) := by decide +kernel
theorem dX1_isSymmetric_8 : decode cX1_isSymmetric 8 = .ok (.if_icmp .ne 39, 3) := by decide +kernel
theorem dX1_isSymmetric_11 : decode cX1_isSymmetric 11 = .ok (.aload_n 0, 1) := by decide +kernel
theorem dX1_isSymmetric_12 : decode cX1_isSymmetric 12 = .ok (.aload_n 0, 1) := by decide +kernel
theorem dX1_isSymmetric_13 : decode cX1_isSymmetric 13 = .ok (.getfield 31, 3) := by decide +kernel
theorem dX1_isSymmetric_16 : decode cX1_isSymmetric 16 = .ok (.invokevirtual 47, 3) := by decide +kernel
theorem dX1_isSymmetric_19 : decode cX1_isSymmetric 19 = .ok (.aload_n 0, 1) := by decide +kernel
theorem dX1_isSymmetric_20 : decode cX1_isSymmetric 20 = .ok (.getfield 31, 3) := by decide +kernel
theorem dX1_isSymmetric_23 : decode cX1_isSymmetric 23 = .ok (.lcmp, 1) := by decide +kernel
theorem dX1_isSymmetric_24 : decode cX1_isSymmetric 24 = .ok (.ifCond .ne 23, 3) := by decide +kernel
theorem dX1_isSymmetric_27 : decode cX1_isSymmetric 27 = .ok (.aload_n 0, 1) := by decide +kernel
theorem dX1_isSymmetric_28 : decode cX1_isSymmetric 28 = .ok (.aload_n 0, 1) := by decide +kernel
theorem dX1_isSymmetric_29 : decode cX1_isSymmetric 29 = .ok (.getfield 34, 3) := by decide +kernel
theorem dX1_isSymmetric_32 : decode cX1_isSymmetric 32 = .ok (.invokevirtual 47, 3) := by decide +kernel
theorem dX1_isSymmetric_35 : decode cX1_isSymmetric 35 = .ok (.aload_n 0, 1) := by decide +kernel
theorem dX1_isSymmetric_36 : decode cX1_isSymmetric 36 = .ok (.getfield 34, 3) := by decide +kernel
theorem dX1_isSymmetric_39 : decode cX1_isSymmetric 39 = .ok (.lcmp, 1) := by decide +kernel
theorem dX1_isSymmetric_40 : decode cX1_isSymmetric 40 = .ok (.ifCond .ne 7, 3) := by decide +kernel
theorem dX1_isSymmetric_43 : decode cX1_isSymmetric 43 = .ok (.iconst 1, 1) := by decide +kernel
theorem dX1_isSymmetric_44 : decode cX1_isSymmetric 44 = .ok (.goto 4, 3) := by decide +kernel
theorem dX1_isSymmetric_47 : decode cX1_isSymmetric 47 = .ok (.iconst 0, 1) := by decide +kernel
theorem dX1_isSymmetric_48 : decode cX1_isSymmetric 48 = .ok (.ireturn, 1) := by decide +kernel
def f_X1_isSymmetric_48 (s0 : Int32) (σ : St) : Option (Int32 × St) :=
  gz s0 <|
  some (s0, σ)
set_option maxRecDepth 100000 in
set_option maxHeartbeats 4000000 in
theorem b_X1_isSymmetric_48 {g : Geo} {x : Cx} (C : Ok g x cX1_isSymmetric RX1 1 (some .boolean) rm_X1_isSymmetric) : ∀ (s0 : Int32) (σ : St) (r : Int32) (σ' : St), f_X1_isSymmetric_48 s0 σ = some (r, σ') → V g x (qm g x (some (.int r)) σ') 1 σ [] [.int s0] 48 := by
  intro s0 σ r σ' h
  unfold f_X1_isSymmetric_48 at h
  obtain ⟨hz, h⟩ := gz_some h
  cases h
  exact v_zret C hz dX1_isSymmetric_48
def f_X1_isSymmetric_47 (σ : St) : Option (Int32 × St) :=
  f_X1_isSymmetric_48 (0 : Int32) σ
set_option maxRecDepth 100000 in
set_option maxHeartbeats 4000000 in
theorem b_X1_isSymmetric_47 {g : Geo} {x : Cx} (C : Ok g x cX1_isSymmetric RX1 1 (some .boolean) rm_X1_isSymmetric) : ∀ (σ : St) (r : Int32) (σ' : St), f_X1_isSymmetric_47 σ = some (r, σ') → V g x (qm g x (some (.int r)) σ') 1 σ [] [] 47 := by
  intro σ r σ' h
  unfold f_X1_isSymmetric_47 at h
  refine v_iconst C (v := (0 : Int32)) dX1_isSymmetric_47 (by decide) ?_
  refine V.sub (lv' := []) [] rfl ?_
  exact b_X1_isSymmetric_48 C _  _ _ _ h
def f_X1_isSymmetric (σ : St) : Option (Int32 × St) :=
  if (gi σ 1 0) = (gi σ 1 1) then
    bd (f_X1_across (gl σ 1 3) σ) fun v1 σ2 =>
    if v1 = (gl σ2 1 3) then
      bd (f_X1_across (gl σ2 1 4) σ2) fun v3 σ4 =>
      if v3 = (gl σ4 1 4) then
        f_X1_isSymmetric_48 (1 : Int32) σ4
      else
        f_X1_isSymmetric_47 σ4
    else
      f_X1_isSymmetric_47 σ2
  else
    f_X1_isSymmetric_47 σ
set_option maxRecDepth 100000 in
set_option maxHeartbeats 4000000 in
theorem c_X1_isSymmetric {g : Geo} {σ : St} {r : Int32} {σ' : St} (h : f_X1_isSymmetric σ = some (r, σ')) : Ct g yX1_isSymmetric cX1_isSymmetric 1 (some .boolean) rm_X1_isSymmetric [.ref (g.1 1)] σ (some (.int r)) σ' := by
  refine ct_of (own := RX1) (by decide) rfl (Nat.le_of_ble_eq_true rfl) (fun x C => ?_) ⟨rfl, rfl⟩
  show V g x _ 1 σ [(0, .ref (g.1 1))] [] 0
  unfold f_X1_isSymmetric at h
  refine v_aload_n C dX1_isSymmetric_0 rfl 0 rfl ?_
  refine v_getI C fl_RX1_9 rfl dX1_isSymmetric_1 ?_
  refine v_aload_n C dX1_isSymmetric_4 rfl 0 rfl ?_
  refine v_getI C fl_RX1_15 rfl dX1_isSymmetric_5 ?_
  refine v_icmp_ne C (tgt := 47) dX1_isSymmetric_8 (by decide) (fun q7 => ?_) (fun q7 => ?_)
  · rw [if_neg q7] at h
    refine V.sub (lv' := []) [] rfl ?_
    exact b_X1_isSymmetric_47 C  _ _ _ h
  · rw [if_pos q7] at h
    refine v_aload_n C dX1_isSymmetric_11 rfl 0 rfl ?_
    refine v_aload_n C dX1_isSymmetric_12 rfl 0 rfl ?_
    refine v_getL C fl_RX1_31 rfl dX1_isSymmetric_13 ?_
    obtain ⟨v1, σ2, cσ2, h⟩ := bd_some h
    refine callVl C (c_X1_across cσ2) km_X1_across kv_X1_across rfl ml_RX1_47 rfl rfl (by decide) (Nat.le_of_ble_eq_true rfl) dX1_isSymmetric_16 ?_
    refine v_aload_n C dX1_isSymmetric_19 rfl 0 rfl ?_
    refine v_getL C fl_RX1_31 rfl dX1_isSymmetric_20 ?_
    refine v_lcmp_ne C (tgt := 47) dX1_isSymmetric_23 dX1_isSymmetric_24 (by decide) (fun q6 => ?_) (fun q6 => ?_)
    · rw [if_neg q6] at h
      refine V.sub (lv' := []) [] rfl ?_
      exact b_X1_isSymmetric_47 C  _ _ _ h
    · rw [if_pos q6] at h
      refine v_aload_n C dX1_isSymmetric_27 rfl 0 rfl ?_
      refine v_aload_n C dX1_isSymmetric_28 rfl 0 rfl ?_
      refine v_getL C fl_RX1_34 rfl dX1_isSymmetric_29 ?_
      obtain ⟨v3, σ4, cσ4, h⟩ := bd_some h
      refine callVl C (c_X1_across cσ4) km_X1_across kv_X1_across rfl ml_RX1_47 rfl rfl (by decide) (Nat.le_of_ble_eq_true rfl) dX1_isSymmetric_32 ?_
      refine v_aload_n C dX1_isSymmetric_35 rfl 0 rfl ?_
      refine v_getL C fl_RX1_34 rfl dX1_isSymmetric_36 ?_
      refine v_lcmp_ne C (tgt := 47) dX1_isSymmetric_39 dX1_isSymmetric_40 (by decide) (fun q5 => ?_) (fun q5 => ?_)
      · rw [if_neg q5] at h
        refine V.sub (lv' := []) [] rfl ?_
        exact b_X1_isSymmetric_47 C  _ _ _ h
      · rw [if_pos q5] at h
        refine v_iconst C (v := (1 : Int32)) dX1_isSymmetric_43 (by decide) ?_
        refine v_goto C (tgt := 48) dX1_isSymmetric_44 (by decide) ?_
        refine V.sub (lv' := []) [] rfl ?_
        exact b_X1_isSymmetric_48 C _  _ _ _ h
theorem dX2_clear_0 : decode cX2_clear 0 = .ok (.aload_n 0, 1) := by decide +kernel
theorem dX2_clear_1 : decode cX2_clear 1 = .ok (.iconst 0, 1) := by decide +kernel
theorem dX2_clear_2 : decode cX2_clear 2 = .ok (.putfield 7, 3) := by decide +kernel
theorem dX2_clear_5 : decode cX2_clear 5 = .ok (.aload_n 0, 1) := by decide +kernel
theorem dX2_clear_6 : decode cX2_clear 6 = .ok (.lconst 0, 1) := by decide +kernel
theorem dX2_clear_7 : decode cX2_clear 7 = .ok (.putfield 13, 3) := by decide +kernel
theorem dX2_clear_10 : decode cX2_clear 10 = .ok (.aload_n 0, 1) := by decide +kernel
theorem dX2_clear_11 : decode cX2_clear 11 = .ok (.lconst 0, 1) := by decide +kernel
theorem dX2_clear_12 : decode cX2_clear 12 = .ok (.putfield 17, 3) := by decide +kernel
theorem dX2_clear_15 : decode cX2_clear 15 = .ok (.aload_n 0, 1) := by decide +kernel
theorem dX2_clear_16 : decode cX2_clear 16 = .ok (.lconst 0, 1) := by decide +kernel
theorem dX2_clear_17 : decode cX2_clear 17 = .ok (.putfield 20, 3) := by decide +kernel
theorem dX2_clear_20 : decode cX2_clear 20 = .ok (.return_, 1) := by decide +kernel
def f_X2_clear (q0 : Nat) (σ : St) : Option (Unit × St) :=
  fI σ q0 0 (0 : Int32) fun σ1 =>
  fL σ1 q0 1 (0 : Int64) fun σ2 =>
  fL σ2 q0 2 (0 : Int64) fun σ3 =>
  fL σ3 q0 3 (0 : Int64) fun σ4 =>
  some ((), σ4)
set_option maxRecDepth 100000 in
set_option maxHeartbeats 4000000 in
theorem c_X2_clear {g : Geo} {q0 : Nat} (hq0 : kd q0 = 2) {σ : St} {r : Unit} {σ' : St} (h : f_X2_clear q0 σ = some (r, σ')) : Ct g yX2_clear cX2_clear 1 none rm_X2_clear [.ref (g.1 q0)] σ none σ' := by
  refine ct_of (own := RX2) (by decide) rfl (Nat.le_of_ble_eq_true rfl) (fun x C => ?_) ⟨rfl, rfl⟩
  show V g x _ 1 σ [(0, .ref (g.1 q0))] [] 0
  unfold f_X2_clear at h
  refine v_aload_n C dX2_clear_0 rfl 0 rfl ?_
  refine v_iconst C (v := (0 : Int32)) dX2_clear_1 (by decide) ?_
  obtain ⟨σ1, eσ1, h⟩ := fI_ex h
  refine x_putZ C fl_RX2_7 fw_2_0 hq0 (Or.inl rfl) eσ1 dX2_clear_2 ?_
  refine v_aload_n C dX2_clear_5 rfl 0 rfl ?_
  refine v_lconst C (v := (0 : Int64)) dX2_clear_6 (by decide) ?_
  obtain ⟨σ2, eσ2, h⟩ := fL_ex h
  refine x_putL C fl_RX2_13 fw_2_1 hq0 eσ2 dX2_clear_7 ?_
  refine v_aload_n C dX2_clear_10 rfl 0 rfl ?_
  refine v_lconst C (v := (0 : Int64)) dX2_clear_11 (by decide) ?_
  obtain ⟨σ3, eσ3, h⟩ := fL_ex h
  refine x_putL C fl_RX2_17 fw_2_2 hq0 eσ3 dX2_clear_12 ?_
  refine v_aload_n C dX2_clear_15 rfl 0 rfl ?_
  refine v_lconst C (v := (0 : Int64)) dX2_clear_16 (by decide) ?_
  obtain ⟨σ4, eσ4, h⟩ := fL_ex h
  refine x_putL C fl_RX2_20 fw_2_3 hq0 eσ4 dX2_clear_17 ?_
  cases h
  exact v_vret C dX2_clear_20
theorem dX2_take_0 : decode cX2_take 0 = .ok (.aload_n 0, 1) := by decide +kernel
theorem dX2_take_1 : decode cX2_take 1 = .ok (.aload_n 1, 1) := by decide +kernel
theorem dX2_take_2 : decode cX2_take 2 = .ok (.getfield 7, 3) := by decide +kernel
theorem dX2_take_5 : decode cX2_take 5 = .ok (.putfield 7, 3) := by decide +kernel
theorem dX2_take_8 : decode cX2_take 8 = .ok (.aload_n 0, 1) := by decide +kernel
theorem dX2_take_9 : decode cX2_take 9 = .ok (.aload_n 1, 1) := by decide +kernel
theorem dX2_take_10 : decode cX2_take 10 = .ok (.getfield 13, 3) := by decide +kernel
theorem dX2_take_13 : decode cX2_take 13 = .ok (.putfield 13, 3) := by decide +kernel
theorem dX2_take_16 : decode cX2_take 16 = .ok (.aload_n 0, 1) := by decide +kernel
theorem dX2_take_17 : decode cX2_take 17 = .ok (.aload_n 1, 1) := by decide +kernel
theorem dX2_take_18 : decode cX2_take 18 = .ok (.getfield 17, 3) := by decide +kernel
theorem dX2_take_21 : decode cX2_take 21 = .ok (.putfield 17, 3) := by decide +kernel
theorem dX2_take_24 : decode cX2_take 24 = .ok (.aload_n 0, 1) := by decide +kernel
theorem dX2_take_25 : decode cX2_take 25 = .ok (.aload_n 1, 1) := by decide +kernel
theorem dX2_take_26 : decode cX2_take 26 = .ok (.getfield 20, 3) := by decide +kernel
theorem dX2_take_29 : decode cX2_take 29 = .ok (.putfield 20, 3) := by decide +kernel
theorem dX2_take_32 : decode cX2_take 32 = .ok (.return_, 1) := by decide +kernel
def f_X2_take (q0 : Nat) (q1 : Nat) (σ : St) : Option (Unit × St) :=
  gz (gi σ q1 0) <|
  fI σ q0 0 (gi σ q1 0) fun σ1 =>
  fL σ1 q0 1 (gl σ1 q1 1) fun σ2 =>
  fL σ2 q0 2 (gl σ2 q1 2) fun σ3 =>
  fL σ3 q0 3 (gl σ3 q1 3) fun σ4 =>
  some ((), σ4)
set_option maxRecDepth 100000 in
set_option maxHeartbeats 4000000 in
theorem c_X2_take {g : Geo} {q0 : Nat} {q1 : Nat} (hq0 : kd q0 = 2) (hq1 : kd q1 = 2) {σ : St} {r : Unit} {σ' : St} (h : f_X2_take q0 q1 σ = some (r, σ')) : Ct g yX2_take cX2_take 2 none rm_X2_take [.ref (g.1 q0), .ref (g.1 q1)] σ none σ' := by
  refine ct_of (own := RX2) (by decide) rfl (Nat.le_of_ble_eq_true rfl) (fun x C => ?_) ⟨rfl, rfl⟩
  show V g x _ 2 σ [(0, .ref (g.1 q0)), (1, .ref (g.1 q1))] [] 0
  unfold f_X2_take at h
  refine v_aload_n C dX2_take_0 rfl 0 rfl ?_
  refine v_aload_n C dX2_take_1 rfl 1 rfl ?_
  refine v_getZ C fl_RX2_7 hq1 dX2_take_2 ?_
  obtain ⟨zσ1, h⟩ := gz_some h
  obtain ⟨σ1, eσ1, h⟩ := fI_ex h
  refine x_putZ C fl_RX2_7 fw_2_0 hq0 zσ1 eσ1 dX2_take_5 ?_
  refine v_aload_n C dX2_take_8 rfl 0 rfl ?_
  refine v_aload_n C dX2_take_9 rfl 1 rfl ?_
  refine v_getL C fl_RX2_13 hq1 dX2_take_10 ?_
  obtain ⟨σ2, eσ2, h⟩ := fL_ex h
  refine x_putL C fl_RX2_13 fw_2_1 hq0 eσ2 dX2_take_13 ?_
  refine v_aload_n C dX2_take_16 rfl 0 rfl ?_
  refine v_aload_n C dX2_take_17 rfl 1 rfl ?_
  refine v_getL C fl_RX2_17 hq1 dX2_take_18 ?_
  obtain ⟨σ3, eσ3, h⟩ := fL_ex h
  refine x_putL C fl_RX2_17 fw_2_2 hq0 eσ3 dX2_take_21 ?_
  refine v_aload_n C dX2_take_24 rfl 0 rfl ?_
  refine v_aload_n C dX2_take_25 rfl 1 rfl ?_
  refine v_getL C fl_RX2_20 hq1 dX2_take_26 ?_
  obtain ⟨σ4, eσ4, h⟩ := fL_ex h
  refine x_putL C fl_RX2_20 fw_2_3 hq0 eσ4 dX2_take_29 ?_
  cases h
  exact v_vret C dX2_take_32
theorem dX2_cellsOf_0 : decode cX2_cellsOf 0 = .ok (.iload_n 1, 1) := by decide +kernel
theorem dX2_cellsOf_1 : decode cX2_cellsOf 1 = .ok (.ifCond .ne 10, 3) := by decide +kernel
theorem dX2_cellsOf_4 : decode cX2_cellsOf 4 = .ok (.aload_n 0, 1) := by decide +kernel
theorem dX2_cellsOf_5 : decode cX2_cellsOf 5 = .ok (.getfield 13, 3) := by decide +kernel
theorem dX2_cellsOf_8 : decode cX2_cellsOf 8 = .ok (.goto 19, 3) := by decide +kernel
theorem dX2_cellsOf_11 : decode cX2_cellsOf 11 = .ok (.iload_n 1, 1) := by decide +kernel
theorem dX2_cellsOf_12 : decode cX2_cellsOf 12 = .ok (.iconst 1, 1) := by decide +kernel
theorem dX2_cellsOf_13 : decode cX2_cellsOf 13 = .ok (.if_icmp .ne 10, 3) := by decide +kernel
theorem dX2_cellsOf_16 : decode cX2_cellsOf 16 = .ok (.aload_n 0, 1) := by decide +kernel
theorem dX2_cellsOf_17 : decode cX2_cellsOf 17 = .ok (.getfield 17, 3) := by decide +kernel
theorem dX2_cellsOf_20 : decode cX2_cellsOf 20 = .ok (.goto 7, 3) := by decide +kernel
theorem dX2_cellsOf_23 : decode cX2_cellsOf 23 = .ok (.aload_n 0, 1) := by decide +kernel
theorem dX2_cellsOf_24 : decode cX2_cellsOf 24 = .ok (.getfield 20, 3) := by decide +kernel
theorem dX2_cellsOf_27 : decode cX2_cellsOf 27 = .ok (.lreturn, 1) := by decide +kernel
def f_X2_cellsOf_27 (s0 : Int64) (σ : St) : Option (Int64 × St) :=
  some (s0, σ)
set_option maxRecDepth 100000 in
set_option maxHeartbeats 4000000 in
theorem b_X2_cellsOf_27 {g : Geo} {x : Cx} (C : Ok g x cX2_cellsOf RX2 2 (some .long) rm_X2_cellsOf) : ∀ (s0 : Int64) (σ : St) (r : Int64) (σ' : St), f_X2_cellsOf_27 s0 σ = some (r, σ') → V g x (qm g x (some (.long r)) σ') 2 σ [] [.long s0] 27 := by
  intro s0 σ r σ' h
  unfold f_X2_cellsOf_27 at h
  cases h
  exact v_lret C dX2_cellsOf_27
def f_X2_cellsOf (q0 : Nat) (a1 : Int32) (σ : St) : Option (Int64 × St) :=
  if a1 = 0 then
    f_X2_cellsOf_27 (gl σ q0 1) σ
  else
    if a1 = (1 : Int32) then
      f_X2_cellsOf_27 (gl σ q0 2) σ
    else
      f_X2_cellsOf_27 (gl σ q0 3) σ
set_option maxRecDepth 100000 in
set_option maxHeartbeats 4000000 in
theorem c_X2_cellsOf {g : Geo} {q0 : Nat} {a1 : Int32} (hq0 : kd q0 = 2) {σ : St} {r : Int64} {σ' : St} (h : f_X2_cellsOf q0 a1 σ = some (r, σ')) : Ct g yX2_cellsOf cX2_cellsOf 2 (some .long) rm_X2_cellsOf [.ref (g.1 q0), .int a1] σ (some (.long r)) σ' := by
  refine ct_of (own := RX2) (by decide) rfl (Nat.le_of_ble_eq_true rfl) (fun x C => ?_) ⟨rfl, rfl⟩
  show V g x _ 2 σ [(0, .ref (g.1 q0)), (1, .int a1)] [] 0
  unfold f_X2_cellsOf at h
  refine v_iload_n C dX2_cellsOf_0 rfl 1 rfl ?_
  refine v_if_ne C (tgt := 11) dX2_cellsOf_1 (by decide) (fun q2 => ?_) (fun q2 => ?_)
  · rw [if_neg q2] at h
    refine v_iload_n C dX2_cellsOf_11 rfl 1 rfl ?_
    refine v_iconst C (v := (1 : Int32)) dX2_cellsOf_12 (by decide) ?_
    refine v_icmp_ne C (tgt := 23) dX2_cellsOf_13 (by decide) (fun q1 => ?_) (fun q1 => ?_)
    · rw [if_neg q1] at h
      refine v_aload_n C dX2_cellsOf_23 rfl 0 rfl ?_
      refine v_getL C fl_RX2_20 hq0 dX2_cellsOf_24 ?_
      refine V.sub (lv' := []) [] rfl ?_
      exact b_X2_cellsOf_27 C _  _ _ _ h
    · rw [if_pos q1] at h
      refine v_aload_n C dX2_cellsOf_16 rfl 0 rfl ?_
      refine v_getL C fl_RX2_17 hq0 dX2_cellsOf_17 ?_
      refine v_goto C (tgt := 27) dX2_cellsOf_20 (by decide) ?_
      refine V.sub (lv' := []) [] rfl ?_
      exact b_X2_cellsOf_27 C _  _ _ _ h
  · rw [if_pos q2] at h
    refine v_aload_n C dX2_cellsOf_4 rfl 0 rfl ?_
    refine v_getL C fl_RX2_13 hq0 dX2_cellsOf_5 ?_
    refine v_goto C (tgt := 27) dX2_cellsOf_8 (by decide) ?_
    refine V.sub (lv' := []) [] rfl ?_
    exact b_X2_cellsOf_27 C _  _ _ _ h
theorem dX2_kindAt_0 : decode cX2_kindAt 0 = .ok (.aload_n 0, 1) := by decide +kernel
theorem dX2_kindAt_1 : decode cX2_kindAt 1 = .ok (.getfield 13, 3) := by decide +kernel
theorem dX2_kindAt_4 : decode cX2_kindAt 4 = .ok (.iload_n 1, 1) := by decide +kernel
theorem dX2_kindAt_5 : decode cX2_kindAt 5 = .ok (.lushr, 1) := by decide +kernel
theorem dX2_kindAt_6 : decode cX2_kindAt 6 = .ok (.lconst 1, 1) := by decide +kernel
theorem dX2_kindAt_7 : decode cX2_kindAt 7 = .ok (.land, 1) := by decide +kernel
theorem dX2_kindAt_8 : decode cX2_kindAt 8 = .ok (.lconst 0, 1) := by decide +kernel
theorem dX2_kindAt_9 : decode cX2_kindAt 9 = .ok (.lcmp, 1) := by decide +kernel
theorem dX2_kindAt_10 : decode cX2_kindAt 10 = .ok (.ifCond .eq 5, 3) := by decide +kernel
theorem dX2_kindAt_13 : decode cX2_kindAt 13 = .ok (.iconst 0, 1) := by decide +kernel
theorem dX2_kindAt_14 : decode cX2_kindAt 14 = .ok (.ireturn, 1) := by decide +kernel
theorem dX2_kindAt_15 : decode cX2_kindAt 15 = .ok (.aload_n 0, 1) := by decide +kernel
theorem dX2_kindAt_16 : decode cX2_kindAt 16 = .ok (.getfield 17, 3) := by decide +kernel
theorem dX2_kindAt_19 : decode cX2_kindAt 19 = .ok (.iload_n 1, 1) := by decide +kernel
theorem dX2_kindAt_20 : decode cX2_kindAt 20 = .ok (.lushr, 1) := by decide +kernel
theorem dX2_kindAt_21 : decode cX2_kindAt 21 = .ok (.lconst 1, 1) := by decide +kernel
theorem dX2_kindAt_22 : decode cX2_kindAt 22 = .ok (.land, 1) := by decide +kernel
theorem dX2_kindAt_23 : decode cX2_kindAt 23 = .ok (.lconst 0, 1) := by decide +kernel
theorem dX2_kindAt_24 : decode cX2_kindAt 24 = .ok (.lcmp, 1) := by decide +kernel
theorem dX2_kindAt_25 : decode cX2_kindAt 25 = .ok (.ifCond .eq 5, 3) := by decide +kernel
theorem dX2_kindAt_28 : decode cX2_kindAt 28 = .ok (.iconst 1, 1) := by decide +kernel
theorem dX2_kindAt_29 : decode cX2_kindAt 29 = .ok (.ireturn, 1) := by decide +kernel
theorem dX2_kindAt_30 : decode cX2_kindAt 30 = .ok (.aload_n 0, 1) := by decide +kernel
theorem dX2_kindAt_31 : decode cX2_kindAt 31 = .ok (.getfield 20, 3) := by decide +kernel
theorem dX2_kindAt_34 : decode cX2_kindAt 34 = .ok (.iload_n 1, 1) := by decide +kernel
theorem dX2_kindAt_35 : decode cX2_kindAt 35 = .ok (.lushr, 1) := by decide +kernel
theorem dX2_kindAt_36 : decode cX2_kindAt 36 = .ok (.lconst 1, 1) := by decide +kernel
theorem dX2_kindAt_37 : decode cX2_kindAt 37 = .ok (.land, 1) := by decide +kernel
theorem dX2_kindAt_38 : decode cX2_kindAt 38 = .ok (.lconst 0, 1) := by decide +kernel
theorem dX2_kindAt_39 : decode cX2_kindAt 39 = .ok (.lcmp, 1) := by decide +kernel
theorem dX2_kindAt_40 : decode cX2_kindAt 40 = .ok (.ifCond .eq 7, 3) := by decide +kernel
theorem dX2_kindAt_43 : decode cX2_kindAt 43 = .ok (.iconst 2, 1) := by decide +kernel
theorem dX2_kindAt_44 : decode cX2_kindAt 44 = .ok (.goto 4, 3) := by decide +kernel
theorem dX2_kindAt_47 : decode cX2_kindAt 47 = .ok (.iconst (-1), 1) := by decide +kernel
theorem dX2_kindAt_48 : decode cX2_kindAt 48 = .ok (.ireturn, 1) := by decide +kernel
def f_X2_kindAt_48 (s0 : Int32) (σ : St) : Option (Int32 × St) :=
  some (s0, σ)
set_option maxRecDepth 100000 in
set_option maxHeartbeats 4000000 in
theorem b_X2_kindAt_48 {g : Geo} {x : Cx} (C : Ok g x cX2_kindAt RX2 2 (some .int) rm_X2_kindAt) : ∀ (s0 : Int32) (σ : St) (r : Int32) (σ' : St), f_X2_kindAt_48 s0 σ = some (r, σ') → V g x (qm g x (some (.int r)) σ') 2 σ [] [.int s0] 48 := by
  intro s0 σ r σ' h
  unfold f_X2_kindAt_48 at h
  cases h
  exact v_iret C dX2_kindAt_48
def f_X2_kindAt (q0 : Nat) (a1 : Int32) (σ : St) : Option (Int32 × St) :=
  if ((lushr (gl σ q0 1) a1) &&& (1 : Int64)) = (0 : Int64) then
    if ((lushr (gl σ q0 2) a1) &&& (1 : Int64)) = (0 : Int64) then
      if ((lushr (gl σ q0 3) a1) &&& (1 : Int64)) = (0 : Int64) then
        f_X2_kindAt_48 (-1 : Int32) σ
      else
        f_X2_kindAt_48 (2 : Int32) σ
    else
      some ((1 : Int32), σ)
  else
    some ((0 : Int32), σ)
set_option maxRecDepth 100000 in
set_option maxHeartbeats 4000000 in
theorem c_X2_kindAt {g : Geo} {q0 : Nat} {a1 : Int32} (hq0 : kd q0 = 2) {σ : St} {r : Int32} {σ' : St} (h : f_X2_kindAt q0 a1 σ = some (r, σ')) : Ct g yX2_kindAt cX2_kindAt 2 (some .int) rm_X2_kindAt [.ref (g.1 q0), .int a1] σ (some (.int r)) σ' := by
  refine ct_of (own := RX2) (by decide) rfl (Nat.le_of_ble_eq_true rfl) (fun x C => ?_) ⟨rfl, rfl⟩
  show V g x _ 2 σ [(0, .ref (g.1 q0)), (1, .int a1)] [] 0
  unfold f_X2_kindAt at h
  refine v_aload_n C dX2_kindAt_0 rfl 0 rfl ?_
  refine v_getL C fl_RX2_13 hq0 dX2_kindAt_1 ?_
  refine v_iload_n C dX2_kindAt_4 rfl 1 rfl ?_
  refine v_lushr C dX2_kindAt_5 ?_
  refine v_lconst C (v := (1 : Int64)) dX2_kindAt_6 (by decide) ?_
  refine v_land C dX2_kindAt_7 ?_
  refine v_lconst C (v := (0 : Int64)) dX2_kindAt_8 (by decide) ?_
  refine v_lcmp_eq C (tgt := 15) dX2_kindAt_9 dX2_kindAt_10 (by decide) (fun q3 => ?_) (fun q3 => ?_)
  · rw [if_pos q3] at h
    refine v_aload_n C dX2_kindAt_15 rfl 0 rfl ?_
    refine v_getL C fl_RX2_17 hq0 dX2_kindAt_16 ?_
    refine v_iload_n C dX2_kindAt_19 rfl 1 rfl ?_
    refine v_lushr C dX2_kindAt_20 ?_
    refine v_lconst C (v := (1 : Int64)) dX2_kindAt_21 (by decide) ?_
    refine v_land C dX2_kindAt_22 ?_
    refine v_lconst C (v := (0 : Int64)) dX2_kindAt_23 (by decide) ?_
    refine v_lcmp_eq C (tgt := 30) dX2_kindAt_24 dX2_kindAt_25 (by decide) (fun q2 => ?_) (fun q2 => ?_)
    · rw [if_pos q2] at h
      refine v_aload_n C dX2_kindAt_30 rfl 0 rfl ?_
      refine v_getL C fl_RX2_20 hq0 dX2_kindAt_31 ?_
      refine v_iload_n C dX2_kindAt_34 rfl 1 rfl ?_
      refine v_lushr C dX2_kindAt_35 ?_
      refine v_lconst C (v := (1 : Int64)) dX2_kindAt_36 (by decide) ?_
      refine v_land C dX2_kindAt_37 ?_
      refine v_lconst C (v := (0 : Int64)) dX2_kindAt_38 (by decide) ?_
      refine v_lcmp_eq C (tgt := 47) dX2_kindAt_39 dX2_kindAt_40 (by decide) (fun q1 => ?_) (fun q1 => ?_)
      · rw [if_pos q1] at h
        refine v_iconst C (v := (-1 : Int32)) dX2_kindAt_47 (by decide) ?_
        refine V.sub (lv' := []) [] rfl ?_
        exact b_X2_kindAt_48 C _  _ _ _ h
      · rw [if_neg q1] at h
        refine v_iconst C (v := (2 : Int32)) dX2_kindAt_43 (by decide) ?_
        refine v_goto C (tgt := 48) dX2_kindAt_44 (by decide) ?_
        refine V.sub (lv' := []) [] rfl ?_
        exact b_X2_kindAt_48 C _  _ _ _ h
    · rw [if_neg q2] at h
      refine v_iconst C (v := (1 : Int32)) dX2_kindAt_28 (by decide) ?_
      cases h
      exact v_iret C dX2_kindAt_29
  · rw [if_neg q3] at h
    refine v_iconst C (v := (0 : Int32)) dX2_kindAt_13 (by decide) ?_
    cases h
    exact v_iret C dX2_kindAt_14
theorem dX2_isLike_0 : decode cX2_isLike 0 = .ok (.aload_n 0, 1) := by decide +kernel
theorem dX2_isLike_1 : decode cX2_isLike 1 = .ok (.getfield 13, 3) := by decide +kernel
theorem dX2_isLike_4 : decode cX2_isLike 4 = .ok (.aload_n 1, 1) := by decide +kernel
theorem dX2_isLike_5 : decode cX2_isLike 5 = .ok (.getfield 13, 3) := by decide +kernel
theorem dX2_isLike_8 : decode cX2_isLike 8 = .ok (.lcmp, 1) := by decide +kernel
theorem dX2_isLike_9 : decode cX2_isLike 9 = .ok (.ifCond .ne 31, 3) := by decide +kernel
theorem dX2_isLike_12 : decode cX2_isLike 12 = .ok (.aload_n 0, 1) := by decide +kernel
theorem dX2_isLike_13 : decode cX2_isLike 13 = .ok (.getfield 17, 3) := by decide +kernel
theorem dX2_isLike_16 : decode cX2_isLike 16 = .ok (.aload_n 1, 1) := by decide +kernel
theorem dX2_isLike_17 : decode cX2_isLike 17 = .ok (.getfield 17, 3) := by decide +kernel
theorem dX2_isLike_20 : decode cX2_isLike 20 = .ok (.lcmp, 1) := by decide +kernel
theorem dX2_isLike_21 : decode cX2_isLike 21 = .ok (.ifCond .ne 19, 3) := by decide +kernel
theorem dX2_isLike_24 : decode cX2_isLike 24 = .ok (.aload_n 0, 1) := by decide +kernel
theorem dX2_isLike_25 : decode cX2_isLike 25 = .ok (.getfield 20, 3) := by decide +kernel
theorem dX2_isLike_28 : decode cX2_isLike 28 = .ok (.aload_n 1, 1) := by decide +kernel
theorem dX2_isLike_29 : decode cX2_isLike 29 = .ok (.getfield 20, 3) := by decide +kernel
theorem dX2_isLike_32 : decode cX2_isLike 32 = .ok (.lcmp, 1) := by decide +kernel
theorem dX2_isLike_33 : decode cX2_isLike 33 = .ok (.ifCond .ne 7, 3) := by decide +kernel
theorem dX2_isLike_36 : decode cX2_isLike 36 = .ok (.iconst 1, 1) := by decide +kernel
theorem dX2_isLike_37 : decode cX2_isLike 37 = .ok (.goto 4, 3) := by decide +kernel
theorem dX2_isLike_40 : decode cX2_isLike 40 = .ok (.iconst 0, 1) := by decide +kernel
theorem dX2_isLike_41 : decode cX2_isLike 41 = .ok (.ireturn, 1) := by decide +kernel
def f_X2_isLike_41 (s0 : Int32) (σ : St) : Option (Int32 × St) :=
  gz s0 <|
  some (s0, σ)
set_option maxRecDepth 100000 in
set_option maxHeartbeats 4000000 in
theorem b_X2_isLike_41 {g : Geo} {x : Cx} (C : Ok g x cX2_isLike RX2 2 (some .boolean) rm_X2_isLike) : ∀ (s0 : Int32) (σ : St) (r : Int32) (σ' : St), f_X2_isLike_41 s0 σ = some (r, σ') → V g x (qm g x (some (.int r)) σ') 2 σ [] [.int s0] 41 := by
  intro s0 σ r σ' h
  unfold f_X2_isLike_41 at h
  obtain ⟨hz, h⟩ := gz_some h
  cases h
  exact v_zret C hz dX2_isLike_41
def f_X2_isLike_40 (σ : St) : Option (Int32 × St) :=
  f_X2_isLike_41 (0 : Int32) σ
set_option maxRecDepth 100000 in
set_option maxHeartbeats 4000000 in
theorem b_X2_isLike_40 {g : Geo} {x : Cx} (C : Ok g x cX2_isLike RX2 2 (some .boolean) rm_X2_isLike) : ∀ (σ : St) (r : Int32) (σ' : St), f_X2_isLike_40 σ = some (r, σ') → V g x (qm g x (some (.int r)) σ') 2 σ [] [] 40 := by
  intro σ r σ' h
  unfold f_X2_isLike_40 at h
  refine v_iconst C (v := (0 : Int32)) dX2_isLike_40 (by decide) ?_
  refine V.sub (lv' := []) [] rfl ?_
  exact b_X2_isLike_41 C _  _ _ _ h
def f_X2_isLike (q0 : Nat) (q1 : Nat) (σ : St) : Option (Int32 × St) :=
  if (gl σ q0 1) = (gl σ q1 1) then
    if (gl σ q0 2) = (gl σ q1 2) then
      if (gl σ q0 3) = (gl σ q1 3) then
        f_X2_isLike_41 (1 : Int32) σ
      else
        f_X2_isLike_40 σ
    else
      f_X2_isLike_40 σ
  else
    f_X2_isLike_40 σ
set_option maxRecDepth 100000 in
set_option maxHeartbeats 4000000 in
theorem c_X2_isLike {g : Geo} {q0 : Nat} {q1 : Nat} (hq0 : kd q0 = 2) (hq1 : kd q1 = 2) {σ : St} {r : Int32} {σ' : St} (h : f_X2_isLike q0 q1 σ = some (r, σ')) : Ct g yX2_isLike cX2_isLike 2 (some .boolean) rm_X2_isLike [.ref (g.1 q0), .ref (g.1 q1)] σ (some (.int r)) σ' := by
  refine ct_of (own := RX2) (by decide) rfl (Nat.le_of_ble_eq_true rfl) (fun x C => ?_) ⟨rfl, rfl⟩
  show V g x _ 2 σ [(0, .ref (g.1 q0)), (1, .ref (g.1 q1))] [] 0
  unfold f_X2_isLike at h
  refine v_aload_n C dX2_isLike_0 rfl 0 rfl ?_
  refine v_getL C fl_RX2_13 hq0 dX2_isLike_1 ?_
  refine v_aload_n C dX2_isLike_4 rfl 1 rfl ?_
  refine v_getL C fl_RX2_13 hq1 dX2_isLike_5 ?_
  refine v_lcmp_ne C (tgt := 40) dX2_isLike_8 dX2_isLike_9 (by decide) (fun q3 => ?_) (fun q3 => ?_)
  · rw [if_neg q3] at h
    refine V.sub (lv' := []) [] rfl ?_
    exact b_X2_isLike_40 C  _ _ _ h
  · rw [if_pos q3] at h
    refine v_aload_n C dX2_isLike_12 rfl 0 rfl ?_
    refine v_getL C fl_RX2_17 hq0 dX2_isLike_13 ?_
    refine v_aload_n C dX2_isLike_16 rfl 1 rfl ?_
    refine v_getL C fl_RX2_17 hq1 dX2_isLike_17 ?_
    refine v_lcmp_ne C (tgt := 40) dX2_isLike_20 dX2_isLike_21 (by decide) (fun q2 => ?_) (fun q2 => ?_)
    · rw [if_neg q2] at h
      refine V.sub (lv' := []) [] rfl ?_
      exact b_X2_isLike_40 C  _ _ _ h
    · rw [if_pos q2] at h
      refine v_aload_n C dX2_isLike_24 rfl 0 rfl ?_
      refine v_getL C fl_RX2_20 hq0 dX2_isLike_25 ?_
      refine v_aload_n C dX2_isLike_28 rfl 1 rfl ?_
      refine v_getL C fl_RX2_20 hq1 dX2_isLike_29 ?_
      refine v_lcmp_ne C (tgt := 40) dX2_isLike_32 dX2_isLike_33 (by decide) (fun q1 => ?_) (fun q1 => ?_)
      · rw [if_neg q1] at h
        refine V.sub (lv' := []) [] rfl ?_
        exact b_X2_isLike_40 C  _ _ _ h
      · rw [if_pos q1] at h
        refine v_iconst C (v := (1 : Int32)) dX2_isLike_36 (by decide) ?_
        refine v_goto C (tgt := 41) dX2_isLike_37 (by decide) ?_
        refine V.sub (lv' := []) [] rfl ?_
        exact b_X2_isLike_41 C _  _ _ _ h
theorem dX2_alikeIn_0 : decode cX2_alikeIn 0 = .ok (.aload_n 0, 1) := by decide +kernel
theorem dX2_alikeIn_1 : decode cX2_alikeIn 1 = .ok (.getfield 13, 3) := by decide +kernel
theorem dX2_alikeIn_4 : decode cX2_alikeIn 4 = .ok (.aload_n 1, 1) := by decide +kernel
theorem dX2_alikeIn_5 : decode cX2_alikeIn 5 = .ok (.getfield 13, 3) := by decide +kernel
theorem dX2_alikeIn_8 : decode cX2_alikeIn 8 = .ok (.land, 1) := by decide +kernel
theorem dX2_alikeIn_9 : decode cX2_alikeIn 9 = .ok (.aload_n 0, 1) := by decide +kernel
theorem dX2_alikeIn_10 : decode cX2_alikeIn 10 = .ok (.getfield 17, 3) := by decide +kernel
theorem dX2_alikeIn_13 : decode cX2_alikeIn 13 = .ok (.aload_n 1, 1) := by decide +kernel
theorem dX2_alikeIn_14 : decode cX2_alikeIn 14 = .ok (.getfield 17, 3) := by decide +kernel
theorem dX2_alikeIn_17 : decode cX2_alikeIn 17 = .ok (.land, 1) := by decide +kernel
theorem dX2_alikeIn_18 : decode cX2_alikeIn 18 = .ok (.lor, 1) := by decide +kernel
theorem dX2_alikeIn_19 : decode cX2_alikeIn 19 = .ok (.aload_n 0, 1) := by decide +kernel
theorem dX2_alikeIn_20 : decode cX2_alikeIn 20 = .ok (.getfield 20, 3) := by decide +kernel
theorem dX2_alikeIn_23 : decode cX2_alikeIn 23 = .ok (.aload_n 1, 1) := by decide +kernel
theorem dX2_alikeIn_24 : decode cX2_alikeIn 24 = .ok (.getfield 20, 3) := by decide +kernel
theorem dX2_alikeIn_27 : decode cX2_alikeIn 27 = .ok (.land, 1) := by decide +kernel
theorem dX2_alikeIn_28 : decode cX2_alikeIn 28 = .ok (.lor, 1) := by decide +kernel
theorem dX2_alikeIn_29 : decode cX2_alikeIn 29 = .ok (.lreturn, 1) := by decide +kernel
def f_X2_alikeIn (q0 : Nat) (q1 : Nat) (σ : St) : Option (Int64 × St) :=
  some (((((gl σ q0 1) &&& (gl σ q1 1)) ||| ((gl σ q0 2) &&& (gl σ q1 2))) ||| ((gl σ q0 3) &&& (gl σ q1 3))), σ)
set_option maxRecDepth 100000 in
set_option maxHeartbeats 4000000 in
theorem c_X2_alikeIn {g : Geo} {q0 : Nat} {q1 : Nat} (hq0 : kd q0 = 2) (hq1 : kd q1 = 2) {σ : St} {r : Int64} {σ' : St} (h : f_X2_alikeIn q0 q1 σ = some (r, σ')) : Ct g yX2_alikeIn cX2_alikeIn 2 (some .long) rm_X2_alikeIn [.ref (g.1 q0), .ref (g.1 q1)] σ (some (.long r)) σ' := by
  refine ct_of (own := RX2) (by decide) rfl (Nat.le_of_ble_eq_true rfl) (fun x C => ?_) ⟨rfl, rfl⟩
  show V g x _ 2 σ [(0, .ref (g.1 q0)), (1, .ref (g.1 q1))] [] 0
  unfold f_X2_alikeIn at h
  refine v_aload_n C dX2_alikeIn_0 rfl 0 rfl ?_
  refine v_getL C fl_RX2_13 hq0 dX2_alikeIn_1 ?_
  refine v_aload_n C dX2_alikeIn_4 rfl 1 rfl ?_
  refine v_getL C fl_RX2_13 hq1 dX2_alikeIn_5 ?_
  refine v_land C dX2_alikeIn_8 ?_
  refine v_aload_n C dX2_alikeIn_9 rfl 0 rfl ?_
  refine v_getL C fl_RX2_17 hq0 dX2_alikeIn_10 ?_
  refine v_aload_n C dX2_alikeIn_13 rfl 1 rfl ?_
  refine v_getL C fl_RX2_17 hq1 dX2_alikeIn_14 ?_
  refine v_land C dX2_alikeIn_17 ?_
  refine v_lor C dX2_alikeIn_18 ?_
  refine v_aload_n C dX2_alikeIn_19 rfl 0 rfl ?_
  refine v_getL C fl_RX2_20 hq0 dX2_alikeIn_20 ?_
  refine v_aload_n C dX2_alikeIn_23 rfl 1 rfl ?_
  refine v_getL C fl_RX2_20 hq1 dX2_alikeIn_24 ?_
  refine v_land C dX2_alikeIn_27 ?_
  refine v_lor C dX2_alikeIn_28 ?_
  cases h
  exact v_lret C dX2_alikeIn_29
theorem dX2_lows_0 : decode cX2_lows 0 = .ok (.aload_n 1, 1) := by decide +kernel
theorem dX2_lows_1 : decode cX2_lows 1 = .ok (.getfield 25, 3) := by decide +kernel
theorem dX2_lows_4 : decode cX2_lows 4 = .ok (.aload_n 0, 1) := by decide +kernel
theorem dX2_lows_5 : decode cX2_lows 5 = .ok (.getfield 17, 3) := by decide +kernel
theorem dX2_lows_8 : decode cX2_lows 8 = .ok (.land, 1) := by decide +kernel
theorem dX2_lows_9 : decode cX2_lows 9 = .ok (.aload_n 0, 1) := by decide +kernel
theorem dX2_lows_10 : decode cX2_lows 10 = .ok (.getfield 20, 3) := by decide +kernel
theorem dX2_lows_13 : decode cX2_lows 13 = .ok (.iconst 1, 1) := by decide +kernel
theorem dX2_lows_14 : decode cX2_lows 14 = .ok (.lshl, 1) := by decide +kernel
theorem dX2_lows_15 : decode cX2_lows 15 = .ok (.land, 1) := by decide +kernel
theorem dX2_lows_16 : decode cX2_lows 16 = .ok (.aload_n 0, 1) := by decide +kernel
theorem dX2_lows_17 : decode cX2_lows 17 = .ok (.getfield 13, 3) := by decide +kernel
theorem dX2_lows_20 : decode cX2_lows 20 = .ok (.aload_n 1, 1) := by decide +kernel
theorem dX2_lows_21 : decode cX2_lows 21 = .ok (.getfield 30, 3) := by decide +kernel
theorem dX2_lows_24 : decode cX2_lows 24 = .ok (.lshl, 1) := by decide +kernel
theorem dX2_lows_25 : decode cX2_lows 25 = .ok (.land, 1) := by decide +kernel
theorem dX2_lows_26 : decode cX2_lows 26 = .ok (.lreturn, 1) := by decide +kernel
def f_X2_lows (q0 : Nat) (σ : St) : Option (Int64 × St) :=
  some (((((gl σ 1 6) &&& (gl σ q0 2)) &&& (lshl (gl σ q0 3) (1 : Int32))) &&& (lshl (gl σ q0 1) (gi σ 1 0))), σ)
set_option maxRecDepth 100000 in
set_option maxHeartbeats 4000000 in
theorem c_X2_lows {g : Geo} {q0 : Nat} (hq0 : kd q0 = 2) {σ : St} {r : Int64} {σ' : St} (h : f_X2_lows q0 σ = some (r, σ')) : Ct g yX2_lows cX2_lows 2 (some .long) rm_X2_lows [.ref (g.1 q0), .ref (g.1 1)] σ (some (.long r)) σ' := by
  refine ct_of (own := RX2) (by decide) rfl (Nat.le_of_ble_eq_true rfl) (fun x C => ?_) ⟨rfl, rfl⟩
  show V g x _ 2 σ [(0, .ref (g.1 q0)), (1, .ref (g.1 1))] [] 0
  unfold f_X2_lows at h
  refine v_aload_n C dX2_lows_0 rfl 1 rfl ?_
  refine v_getL C fl_RX2_25 rfl dX2_lows_1 ?_
  refine v_aload_n C dX2_lows_4 rfl 0 rfl ?_
  refine v_getL C fl_RX2_17 hq0 dX2_lows_5 ?_
  refine v_land C dX2_lows_8 ?_
  refine v_aload_n C dX2_lows_9 rfl 0 rfl ?_
  refine v_getL C fl_RX2_20 hq0 dX2_lows_10 ?_
  refine v_iconst C (v := (1 : Int32)) dX2_lows_13 (by decide) ?_
  refine v_lshl C dX2_lows_14 ?_
  refine v_land C dX2_lows_15 ?_
  refine v_aload_n C dX2_lows_16 rfl 0 rfl ?_
  refine v_getL C fl_RX2_13 hq0 dX2_lows_17 ?_
  refine v_aload_n C dX2_lows_20 rfl 1 rfl ?_
  refine v_getI C fl_RX2_30 rfl dX2_lows_21 ?_
  refine v_lshl C dX2_lows_24 ?_
  refine v_land C dX2_lows_25 ?_
  cases h
  exact v_lret C dX2_lows_26
theorem dX2_highs_0 : decode cX2_highs 0 = .ok (.aload_n 1, 1) := by decide +kernel
theorem dX2_highs_1 : decode cX2_highs 1 = .ok (.getfield 25, 3) := by decide +kernel
theorem dX2_highs_4 : decode cX2_highs 4 = .ok (.aload_n 0, 1) := by decide +kernel
theorem dX2_highs_5 : decode cX2_highs 5 = .ok (.getfield 20, 3) := by decide +kernel
theorem dX2_highs_8 : decode cX2_highs 8 = .ok (.land, 1) := by decide +kernel
theorem dX2_highs_9 : decode cX2_highs 9 = .ok (.aload_n 0, 1) := by decide +kernel
theorem dX2_highs_10 : decode cX2_highs 10 = .ok (.getfield 13, 3) := by decide +kernel
theorem dX2_highs_13 : decode cX2_highs 13 = .ok (.iconst 1, 1) := by decide +kernel
theorem dX2_highs_14 : decode cX2_highs 14 = .ok (.lshl, 1) := by decide +kernel
theorem dX2_highs_15 : decode cX2_highs 15 = .ok (.land, 1) := by decide +kernel
theorem dX2_highs_16 : decode cX2_highs 16 = .ok (.aload_n 0, 1) := by decide +kernel
theorem dX2_highs_17 : decode cX2_highs 17 = .ok (.getfield 17, 3) := by decide +kernel
theorem dX2_highs_20 : decode cX2_highs 20 = .ok (.aload_n 1, 1) := by decide +kernel
theorem dX2_highs_21 : decode cX2_highs 21 = .ok (.getfield 30, 3) := by decide +kernel
theorem dX2_highs_24 : decode cX2_highs 24 = .ok (.lshl, 1) := by decide +kernel
theorem dX2_highs_25 : decode cX2_highs 25 = .ok (.land, 1) := by decide +kernel
theorem dX2_highs_26 : decode cX2_highs 26 = .ok (.lreturn, 1) := by decide +kernel
def f_X2_highs (q0 : Nat) (σ : St) : Option (Int64 × St) :=
  some (((((gl σ 1 6) &&& (gl σ q0 3)) &&& (lshl (gl σ q0 1) (1 : Int32))) &&& (lshl (gl σ q0 2) (gi σ 1 0))), σ)
set_option maxRecDepth 100000 in
set_option maxHeartbeats 4000000 in
theorem c_X2_highs {g : Geo} {q0 : Nat} (hq0 : kd q0 = 2) {σ : St} {r : Int64} {σ' : St} (h : f_X2_highs q0 σ = some (r, σ')) : Ct g yX2_highs cX2_highs 2 (some .long) rm_X2_highs [.ref (g.1 q0), .ref (g.1 1)] σ (some (.long r)) σ' := by
  refine ct_of (own := RX2) (by decide) rfl (Nat.le_of_ble_eq_true rfl) (fun x C => ?_) ⟨rfl, rfl⟩
  show V g x _ 2 σ [(0, .ref (g.1 q0)), (1, .ref (g.1 1))] [] 0
  unfold f_X2_highs at h
  refine v_aload_n C dX2_highs_0 rfl 1 rfl ?_
  refine v_getL C fl_RX2_25 rfl dX2_highs_1 ?_
  refine v_aload_n C dX2_highs_4 rfl 0 rfl ?_
  refine v_getL C fl_RX2_20 hq0 dX2_highs_5 ?_
  refine v_land C dX2_highs_8 ?_
  refine v_aload_n C dX2_highs_9 rfl 0 rfl ?_
  refine v_getL C fl_RX2_13 hq0 dX2_highs_10 ?_
  refine v_iconst C (v := (1 : Int32)) dX2_highs_13 (by decide) ?_
  refine v_lshl C dX2_highs_14 ?_
  refine v_land C dX2_highs_15 ?_
  refine v_aload_n C dX2_highs_16 rfl 0 rfl ?_
  refine v_getL C fl_RX2_17 hq0 dX2_highs_17 ?_
  refine v_aload_n C dX2_highs_20 rfl 1 rfl ?_
  refine v_getI C fl_RX2_30 rfl dX2_highs_21 ?_
  refine v_lshl C dX2_highs_24 ?_
  refine v_land C dX2_highs_25 ?_
  cases h
  exact v_lret C dX2_highs_26
theorem dX2_flip_0 : decode cX2_flip 0 = .ok (.aload_n 0, 1) := by decide +kernel
theorem dX2_flip_1 : decode cX2_flip 1 = .ok (.dup, 1) := by decide +kernel
theorem dX2_flip_2 : decode cX2_flip 2 = .ok (.getfield 13, 3) := by decide +kernel
theorem dX2_flip_5 : decode cX2_flip 5 = .ok (.lload_n 1, 1) := by decide +kernel
theorem dX2_flip_6 : decode cX2_flip 6 = .ok (.iconst 1, 1) := by decide +kernel
theorem dX2_flip_7 : decode cX2_flip 7 = .ok (.lushr, 1) := by decide +kernel
theorem dX2_flip_8 : decode cX2_flip 8 = .ok (.lload_n 1, 1) := by decide +kernel
theorem dX2_flip_9 : decode cX2_flip 9 = .ok (.iload_n 3, 1) := by decide +kernel
theorem dX2_flip_10 : decode cX2_flip 10 = .ok (.lushr, 1) := by decide +kernel
theorem dX2_flip_11 : decode cX2_flip 11 = .ok (.lxor, 1) := by decide +kernel
theorem dX2_flip_12 : decode cX2_flip 12 = .ok (.lxor, 1) := by decide +kernel
theorem dX2_flip_13 : decode cX2_flip 13 = .ok (.putfield 13, 3) := by decide +kernel
theorem dX2_flip_16 : decode cX2_flip 16 = .ok (.aload_n 0, 1) := by decide +kernel
theorem dX2_flip_17 : decode cX2_flip 17 = .ok (.dup, 1) := by decide +kernel
theorem dX2_flip_18 : decode cX2_flip 18 = .ok (.getfield 17, 3) := by decide +kernel
theorem dX2_flip_21 : decode cX2_flip 21 = .ok (.lload_n 1, 1) := by decide +kernel
theorem dX2_flip_22 : decode cX2_flip 22 = .ok (.lload_n 1, 1) := by decide +kernel
theorem dX2_flip_23 : decode cX2_flip 23 = .ok (.iload_n 3, 1) := by decide +kernel
theorem dX2_flip_24 : decode cX2_flip 24 = .ok (.lushr, 1) := by decide +kernel
theorem dX2_flip_25 : decode cX2_flip 25 = .ok (.lxor, 1) := by decide +kernel
theorem dX2_flip_26 : decode cX2_flip 26 = .ok (.lxor, 1) := by decide +kernel
theorem dX2_flip_27 : decode cX2_flip 27 = .ok (.putfield 17, 3) := by decide +kernel
theorem dX2_flip_30 : decode cX2_flip 30 = .ok (.aload_n 0, 1) := by decide +kernel
theorem dX2_flip_31 : decode cX2_flip 31 = .ok (.dup, 1) := by decide +kernel
theorem dX2_flip_32 : decode cX2_flip 32 = .ok (.getfield 20, 3) := by decide +kernel
theorem dX2_flip_35 : decode cX2_flip 35 = .ok (.lload_n 1, 1) := by decide +kernel
theorem dX2_flip_36 : decode cX2_flip 36 = .ok (.lload_n 1, 1) := by decide +kernel
theorem dX2_flip_37 : decode cX2_flip 37 = .ok (.iconst 1, 1) := by decide +kernel
theorem dX2_flip_38 : decode cX2_flip 38 = .ok (.lushr, 1) := by decide +kernel
theorem dX2_flip_39 : decode cX2_flip 39 = .ok (.lxor, 1) := by decide +kernel
theorem dX2_flip_40 : decode cX2_flip 40 = .ok (.lxor, 1) := by decide +kernel
theorem dX2_flip_41 : decode cX2_flip 41 = .ok (.putfield 20, 3) := by decide +kernel
theorem dX2_flip_44 : decode cX2_flip 44 = .ok (.return_, 1) := by decide +kernel
def f_X2_flip (q0 : Nat) (a1 : Int64) (a2 : Int32) (σ : St) : Option (Unit × St) :=
  fL σ q0 1 ((gl σ q0 1) ^^^ ((lushr a1 (1 : Int32)) ^^^ (lushr a1 a2))) fun σ1 =>
  fL σ1 q0 2 ((gl σ1 q0 2) ^^^ (a1 ^^^ (lushr a1 a2))) fun σ2 =>
  fL σ2 q0 3 ((gl σ2 q0 3) ^^^ (a1 ^^^ (lushr a1 (1 : Int32)))) fun σ3 =>
  some ((), σ3)
set_option maxRecDepth 100000 in
set_option maxHeartbeats 4000000 in
theorem c_X2_flip {g : Geo} {q0 : Nat} {a1 : Int64} {a2 : Int32} (hq0 : kd q0 = 2) {σ : St} {r : Unit} {σ' : St} (h : f_X2_flip q0 a1 a2 σ = some (r, σ')) : Ct g yX2_flip cX2_flip 4 none rm_X2_flip [.ref (g.1 q0), .long a1, .int a2] σ none σ' := by
  refine ct_of (own := RX2) (by decide) rfl (Nat.le_of_ble_eq_true rfl) (fun x C => ?_) ⟨rfl, rfl⟩
  show V g x _ 4 σ [(0, .ref (g.1 q0)), (1, .long a1), (3, .int a2)] [] 0
  unfold f_X2_flip at h
  refine v_aload_n C dX2_flip_0 rfl 0 rfl ?_
  refine v_dup C dX2_flip_1 rfl ?_
  refine v_getL C fl_RX2_13 hq0 dX2_flip_2 ?_
  refine v_lload_n C dX2_flip_5 rfl 1 rfl ?_
  refine v_iconst C (v := (1 : Int32)) dX2_flip_6 (by decide) ?_
  refine v_lushr C dX2_flip_7 ?_
  refine v_lload_n C dX2_flip_8 rfl 1 rfl ?_
  refine v_iload_n C dX2_flip_9 rfl 2 rfl ?_
  refine v_lushr C dX2_flip_10 ?_
  refine v_lxor C dX2_flip_11 ?_
  refine v_lxor C dX2_flip_12 ?_
  obtain ⟨σ1, eσ1, h⟩ := fL_ex h
  refine x_putL C fl_RX2_13 fw_2_1 hq0 eσ1 dX2_flip_13 ?_
  refine v_aload_n C dX2_flip_16 rfl 0 rfl ?_
  refine v_dup C dX2_flip_17 rfl ?_
  refine v_getL C fl_RX2_17 hq0 dX2_flip_18 ?_
  refine v_lload_n C dX2_flip_21 rfl 1 rfl ?_
  refine v_lload_n C dX2_flip_22 rfl 1 rfl ?_
  refine v_iload_n C dX2_flip_23 rfl 2 rfl ?_
  refine v_lushr C dX2_flip_24 ?_
  refine v_lxor C dX2_flip_25 ?_
  refine v_lxor C dX2_flip_26 ?_
  obtain ⟨σ2, eσ2, h⟩ := fL_ex h
  refine x_putL C fl_RX2_17 fw_2_2 hq0 eσ2 dX2_flip_27 ?_
  refine v_aload_n C dX2_flip_30 rfl 0 rfl ?_
  refine v_dup C dX2_flip_31 rfl ?_
  refine v_getL C fl_RX2_20 hq0 dX2_flip_32 ?_
  refine v_lload_n C dX2_flip_35 rfl 1 rfl ?_
  refine v_lload_n C dX2_flip_36 rfl 1 rfl ?_
  refine v_iconst C (v := (1 : Int32)) dX2_flip_37 (by decide) ?_
  refine v_lushr C dX2_flip_38 ?_
  refine v_lxor C dX2_flip_39 ?_
  refine v_lxor C dX2_flip_40 ?_
  obtain ⟨σ3, eσ3, h⟩ := fL_ex h
  refine x_putL C fl_RX2_20 fw_2_3 hq0 eσ3 dX2_flip_41 ?_
  cases h
  exact v_vret C dX2_flip_44
theorem dJ7_fill_53178_0 : decode cJ7_fill_53178 0 = .ok (.iconst 0, 1) := by decide +kernel
theorem dJ7_fill_53178_1 : decode cJ7_fill_53178 1 = .ok (.istore_n 2, 1) := by decide +kernel
theorem dJ7_fill_53178_2 : decode cJ7_fill_53178 2 = .ok (.aload_n 0, 1) := by decide +kernel
theorem dJ7_fill_53178_3 : decode cJ7_fill_53178 3 = .ok (.arraylength, 1) := by decide +kernel
theorem dJ7_fill_53178_4 : decode cJ7_fill_53178 4 = .ok (.istore_n 3, 1) := by decide +kernel
theorem dJ7_fill_53178_5 : decode cJ7_fill_53178 5 = .ok (.iload_n 2, 1) := by decide +kernel
theorem dJ7_fill_53178_6 : decode cJ7_fill_53178 6 = .ok (.iload_n 3, 1) := by decide +kernel
theorem dJ7_fill_53178_7 : decode cJ7_fill_53178 7 = .ok (.if_icmp .ge 13, 3) := by decide +kernel
theorem dJ7_fill_53178_10 : decode cJ7_fill_53178 10 = .ok (.aload_n 0, 1) := by decide +kernel
theorem dJ7_fill_53178_11 : decode cJ7_fill_53178 11 = .ok (.iload_n 2, 1) := by decide +kernel
theorem dJ7_fill_53178_12 : decode cJ7_fill_53178 12 = .ok (.iload_n 1, 1) := by decide +kernel
theorem dJ7_fill_53178_13 : decode cJ7_fill_53178 13 = .ok (.iastore, 1) := by decide +kernel
theorem dJ7_fill_53178_14 : decode cJ7_fill_53178 14 = .ok (.iinc 2 1, 3) := by decide +kernel
theorem dJ7_fill_53178_17 : decode cJ7_fill_53178 17 = .ok (.goto (-12), 3) := by decide +kernel
theorem dJ7_fill_53178_20 : decode cJ7_fill_53178 20 = .ok (.return_, 1) := by decide +kernel
def f_J7_fill_53178_5 : Nat → Nat → Int32 → Int32 → Int32 → St → Option (Unit × St)
  | 0, _, _, _, _, _ => none
  | n + 1, r0, x1, x2, x3, σ =>
    if x3 ≤ x2 then
      some ((), σ)
    else
      wrI σ r0 x2 x1 fun σ1 =>
      f_J7_fill_53178_5 n r0 x1 (x2 + 1) x3 σ1
set_option maxRecDepth 100000 in
set_option maxHeartbeats 4000000 in
theorem b_J7_fill_53178_5 {g : Geo} {x : Cx} (C : Ok g x cJ7_fill_53178 RJ7 4 none rm_J7_fill_53178) : ∀ (n : Nat) (r0 : Nat) (x1 : Int32) (x2 : Int32) (x3 : Int32) (hr0 : kd r0 = 7) (σ : St) (r : Unit) (σ' : St), f_J7_fill_53178_5 n r0 x1 x2 x3 σ = some (r, σ') → V g x (qm g x none σ') 4 σ [(0, .ref (g.1 r0)), (1, .int x1), (2, .int x2), (3, .int x3)] [] 5 := by
  intro n
  induction n with
  | zero =>
    intro r0 x1 x2 x3 hr0 σ r σ' h
    rw [f_J7_fill_53178_5] at h
    cases h
  | succ n ih =>
    intro r0 x1 x2 x3 hr0 σ r σ' h
    rw [f_J7_fill_53178_5] at h
    refine v_iload_n C dJ7_fill_53178_5 rfl 2 rfl ?_
    refine v_iload_n C dJ7_fill_53178_6 rfl 3 rfl ?_
    refine v_icmp_ge C (tgt := 20) dJ7_fill_53178_7 (by decide) (fun q2 => ?_) (fun q2 => ?_)
    · rw [if_pos q2] at h
      cases h
      exact v_vret C dJ7_fill_53178_20
    · rw [if_neg q2] at h
      refine v_aload_n C dJ7_fill_53178_10 rfl 0 rfl ?_
      refine v_iload_n C dJ7_fill_53178_11 rfl 2 rfl ?_
      refine v_iload_n C dJ7_fill_53178_12 rfl 1 rfl ?_
      obtain ⟨nσ1, σ1, eσ1, h⟩ := wrI_ex h
      refine x_iast C hr0 nσ1 eσ1 dJ7_fill_53178_13 ?_
      refine v_iinc C (v := (x2 + 1)) (lv' := [(2, .int _), (0, .ref _), (1, .int _), (3, .int _)]) dJ7_fill_53178_14 2 rfl rfl (by decide) rfl ?_
      refine v_goto C (tgt := 5) dJ7_fill_53178_17 (by decide) ?_
      refine V.sub (lv' := [(0, .ref _), (1, .int _), (2, .int _), (3, .int _)]) [1, 2, 0, 3] rfl ?_
      exact ih _ _ _ _ hr0 _ _ _ h
def f_J7_fill_53178 (q1 : Nat) (a2 : Int32) (σ : St) : Option (Unit × St) :=
  f_J7_fill_53178_5 FU q1 a2 (0 : Int32) (Int32.ofNat (len q1)) σ
set_option maxRecDepth 100000 in
set_option maxHeartbeats 4000000 in
theorem c_J7_fill_53178 {g : Geo} {q1 : Nat} {a2 : Int32} (hq1 : kd q1 = 7) {σ : St} {r : Unit} {σ' : St} (h : f_J7_fill_53178 q1 a2 σ = some (r, σ')) : Ct g yJ7_fill_53178 cJ7_fill_53178 4 none rm_J7_fill_53178 [.ref (g.1 q1), .int a2] σ none σ' := by
  refine ct_of (own := RJ7) (by decide) rfl (Nat.le_of_ble_eq_true rfl) (fun x C => ?_) ⟨rfl, rfl⟩
  show V g x _ 4 σ [(0, .ref (g.1 q1)), (1, .int a2)] [] 0
  unfold f_J7_fill_53178 at h
  refine v_iconst C (v := (0 : Int32)) dJ7_fill_53178_0 (by decide) ?_
  refine v_istore_n C (lv' := [(2, .int _), (0, .ref _), (1, .int _)]) dJ7_fill_53178_1 rfl (by decide) rfl ?_
  refine v_aload_n C dJ7_fill_53178_2 rfl 1 rfl ?_
  refine v_alenI C (v := (Int32.ofNat (len q1))) hq1 rfl dJ7_fill_53178_3 ?_
  refine v_istore_n C (lv' := [(3, .int _), (2, .int _), (0, .ref _), (1, .int _)]) dJ7_fill_53178_4 rfl (by decide) rfl ?_
  refine V.sub (lv' := [(0, .ref _), (1, .int _), (2, .int _), (3, .int _)]) [2, 3, 1, 0] rfl ?_
  exact b_J7_fill_53178_5 C FU _ _ _ _ hq1 _ _ _ h
theorem dX3_openAfter_0 : decode cX3_openAfter 0 = .ok (.iconst 1, 1) := by decide +kernel
theorem dX3_openAfter_1 : decode cX3_openAfter 1 = .ok (.aload_n 0, 1) := by decide +kernel
theorem dX3_openAfter_2 : decode cX3_openAfter 2 = .ok (.getfield 64, 3) := by decide +kernel
theorem dX3_openAfter_5 : decode cX3_openAfter 5 = .ok (.iconst 1, 1) := by decide +kernel
theorem dX3_openAfter_6 : decode cX3_openAfter 6 = .ok (.isub, 1) := by decide +kernel
theorem dX3_openAfter_7 : decode cX3_openAfter 7 = .ok (.ishl, 1) := by decide +kernel
theorem dX3_openAfter_8 : decode cX3_openAfter 8 = .ok (.istore 4, 2) := by decide +kernel
theorem dX3_openAfter_10 : decode cX3_openAfter 10 = .ok (.iload_n 2, 1) := by decide +kernel
theorem dX3_openAfter_11 : decode cX3_openAfter 11 = .ok (.istore 5, 2) := by decide +kernel
theorem dX3_openAfter_13 : decode cX3_openAfter 13 = .ok (.aload_n 0, 1) := by decide +kernel
theorem dX3_openAfter_14 : decode cX3_openAfter 14 = .ok (.getfield 67, 3) := by decide +kernel
theorem dX3_openAfter_17 : decode cX3_openAfter 17 = .ok (.iload_n 1, 1) := by decide +kernel
theorem dX3_openAfter_18 : decode cX3_openAfter 18 = .ok (.lushr, 1) := by decide +kernel
theorem dX3_openAfter_19 : decode cX3_openAfter 19 = .ok (.lconst 1, 1) := by decide +kernel
theorem dX3_openAfter_20 : decode cX3_openAfter 20 = .ok (.land, 1) := by decide +kernel
theorem dX3_openAfter_21 : decode cX3_openAfter 21 = .ok (.l2i, 1) := by decide +kernel
theorem dX3_openAfter_22 : decode cX3_openAfter 22 = .ok (.istore 6, 2) := by decide +kernel
theorem dX3_openAfter_24 : decode cX3_openAfter 24 = .ok (.aload_n 0, 1) := by decide +kernel
theorem dX3_openAfter_25 : decode cX3_openAfter 25 = .ok (.getfield 71, 3) := by decide +kernel
theorem dX3_openAfter_28 : decode cX3_openAfter 28 = .ok (.iload_n 1, 1) := by decide +kernel
theorem dX3_openAfter_29 : decode cX3_openAfter 29 = .ok (.lushr, 1) := by decide +kernel
theorem dX3_openAfter_30 : decode cX3_openAfter 30 = .ok (.lconst 1, 1) := by decide +kernel
theorem dX3_openAfter_31 : decode cX3_openAfter 31 = .ok (.land, 1) := by decide +kernel
theorem dX3_openAfter_32 : decode cX3_openAfter 32 = .ok (.lconst 0, 1) := by decide +kernel
theorem dX3_openAfter_33 : decode cX3_openAfter 33 = .ok (.lcmp, 1) := by decide +kernel
theorem dX3_openAfter_34 : decode cX3_openAfter 34 = .ok (.ifCond .ne 9, 3) := by decide +kernel
theorem dX3_openAfter_37 : decode cX3_openAfter 37 = .ok (.iload_n 3, 1) := by decide +kernel
theorem dX3_openAfter_38 : decode cX3_openAfter 38 = .ok (.ifCond .eq 58, 3) := by decide +kernel
theorem dX3_openAfter_41 : decode cX3_openAfter 41 = .ok (.iconst (-1), 1) := by decide +kernel
theorem dX3_openAfter_42 : decode cX3_openAfter 42 = .ok (.ireturn, 1) := by decide +kernel
theorem dX3_openAfter_43 : decode cX3_openAfter 43 = .ok (.iload_n 3, 1) := by decide +kernel
theorem dX3_openAfter_44 : decode cX3_openAfter 44 = .ok (.ifCond .ne 16, 3) := by decide +kernel
theorem dX3_openAfter_47 : decode cX3_openAfter 47 = .ok (.iload 6, 2) := by decide +kernel
theorem dX3_openAfter_49 : decode cX3_openAfter 49 = .ok (.ifCond .ne 5, 3) := by decide +kernel
theorem dX3_openAfter_52 : decode cX3_openAfter 52 = .ok (.iconst (-1), 1) := by decide +kernel
theorem dX3_openAfter_53 : decode cX3_openAfter 53 = .ok (.ireturn, 1) := by decide +kernel
theorem dX3_openAfter_54 : decode cX3_openAfter 54 = .ok (.iconst 0, 1) := by decide +kernel
theorem dX3_openAfter_55 : decode cX3_openAfter 55 = .ok (.istore 6, 2) := by decide +kernel
theorem dX3_openAfter_57 : decode cX3_openAfter 57 = .ok (.goto 39, 3) := by decide +kernel
theorem dX3_openAfter_60 : decode cX3_openAfter 60 = .ok (.iload_n 3, 1) := by decide +kernel
theorem dX3_openAfter_61 : decode cX3_openAfter 61 = .ok (.iconst 2, 1) := by decide +kernel
theorem dX3_openAfter_62 : decode cX3_openAfter 62 = .ok (.if_icmp .ne 8, 3) := by decide +kernel
theorem dX3_openAfter_65 : decode cX3_openAfter 65 = .ok (.iload 4, 2) := by decide +kernel
theorem dX3_openAfter_67 : decode cX3_openAfter 67 = .ok (.goto 12, 3) := by decide +kernel
theorem dX3_openAfter_70 : decode cX3_openAfter 70 = .ok (.aload_n 0, 1) := by decide +kernel
theorem dX3_openAfter_71 : decode cX3_openAfter 71 = .ok (.getfield 74, 3) := by decide +kernel
theorem dX3_openAfter_74 : decode cX3_openAfter 74 = .ok (.iload_n 1, 1) := by decide +kernel
theorem dX3_openAfter_75 : decode cX3_openAfter 75 = .ok (.lushr, 1) := by decide +kernel
theorem dX3_openAfter_76 : decode cX3_openAfter 76 = .ok (.lconst 1, 1) := by decide +kernel
theorem dX3_openAfter_77 : decode cX3_openAfter 77 = .ok (.land, 1) := by decide +kernel
theorem dX3_openAfter_78 : decode cX3_openAfter 78 = .ok (.l2i, 1) := by decide +kernel
theorem dX3_openAfter_79 : decode cX3_openAfter 79 = .ok (.istore 7, 2) := by decide +kernel
theorem dX3_openAfter_81 : decode cX3_openAfter 81 = .ok (.iload_n 2, 1) := by decide +kernel
theorem dX3_openAfter_82 : decode cX3_openAfter 82 = .ok (.iload 7, 2) := by decide +kernel
theorem dX3_openAfter_84 : decode cX3_openAfter 84 = .ok (.iand, 1) := by decide +kernel
theorem dX3_openAfter_85 : decode cX3_openAfter 85 = .ok (.ifCond .ne 5, 3) := by decide +kernel
theorem dX3_openAfter_88 : decode cX3_openAfter 88 = .ok (.iconst (-1), 1) := by decide +kernel
theorem dX3_openAfter_89 : decode cX3_openAfter 89 = .ok (.ireturn, 1) := by decide +kernel
theorem dX3_openAfter_90 : decode cX3_openAfter 90 = .ok (.iload_n 2, 1) := by decide +kernel
theorem dX3_openAfter_91 : decode cX3_openAfter 91 = .ok (.iload 7, 2) := by decide +kernel
theorem dX3_openAfter_93 : decode cX3_openAfter 93 = .ok (.ixor, 1) := by decide +kernel
theorem dX3_openAfter_94 : decode cX3_openAfter 94 = .ok (.istore 5, 2) := by decide +kernel
theorem dX3_openAfter_96 : decode cX3_openAfter 96 = .ok (.iload 5, 2) := by decide +kernel
theorem dX3_openAfter_98 : decode cX3_openAfter 98 = .ok (.iload 4, 2) := by decide +kernel
theorem dX3_openAfter_100 : decode cX3_openAfter 100 = .ok (.iand, 1) := by decide +kernel
theorem dX3_openAfter_101 : decode cX3_openAfter 101 = .ok (.ifCond .eq 7, 3) := by decide +kernel
theorem dX3_openAfter_104 : decode cX3_openAfter 104 = .ok (.iconst (-1), 1) := by decide +kernel
theorem dX3_openAfter_105 : decode cX3_openAfter 105 = .ok (.goto 10, 3) := by decide +kernel
theorem dX3_openAfter_108 : decode cX3_openAfter 108 = .ok (.iload 5, 2) := by decide +kernel
theorem dX3_openAfter_110 : decode cX3_openAfter 110 = .ok (.iconst 1, 1) := by decide +kernel
theorem dX3_openAfter_111 : decode cX3_openAfter 111 = .ok (.ishl, 1) := by decide +kernel
theorem dX3_openAfter_112 : decode cX3_openAfter 112 = .ok (.iload 6, 2) := by decide +kernel
theorem dX3_openAfter_114 : decode cX3_openAfter 114 = .ok (.ior, 1) := by decide +kernel
theorem dX3_openAfter_115 : decode cX3_openAfter 115 = .ok (.ireturn, 1) := by decide +kernel
def f_X3_openAfter_115 (s0 : Int32) (σ : St) : Option (Int32 × St) :=
  some (s0, σ)
set_option maxRecDepth 100000 in
set_option maxHeartbeats 4000000 in
theorem b_X3_openAfter_115 {g : Geo} {x : Cx} (C : Ok g x cX3_openAfter RX3 8 (some .int) rm_X3_openAfter) : ∀ (s0 : Int32) (σ : St) (r : Int32) (σ' : St), f_X3_openAfter_115 s0 σ = some (r, σ') → V g x (qm g x (some (.int r)) σ') 8 σ [] [.int s0] 115 := by
  intro s0 σ r σ' h
  unfold f_X3_openAfter_115 at h
  cases h
  exact v_iret C dX3_openAfter_115
def f_X3_openAfter_96 (x4 : Int32) (x5 : Int32) (x6 : Int32) (σ : St) : Option (Int32 × St) :=
  if (x5 &&& x4) = 0 then
    f_X3_openAfter_115 ((jshl x5 (1 : Int32)) ||| x6) σ
  else
    f_X3_openAfter_115 (-1 : Int32) σ
set_option maxRecDepth 100000 in
set_option maxHeartbeats 4000000 in
theorem b_X3_openAfter_96 {g : Geo} {x : Cx} (C : Ok g x cX3_openAfter RX3 8 (some .int) rm_X3_openAfter) : ∀ (x4 : Int32) (x5 : Int32) (x6 : Int32) (σ : St) (r : Int32) (σ' : St), f_X3_openAfter_96 x4 x5 x6 σ = some (r, σ') → V g x (qm g x (some (.int r)) σ') 8 σ [(4, .int x4), (5, .int x5), (6, .int x6)] [] 96 := by
  intro x4 x5 x6 σ r σ' h
  unfold f_X3_openAfter_96 at h
  refine v_iload C dX3_openAfter_96 1 rfl ?_
  refine v_iload C dX3_openAfter_98 0 rfl ?_
  refine v_iand C dX3_openAfter_100 ?_
  refine v_if_eq C (tgt := 108) dX3_openAfter_101 (by decide) (fun q1 => ?_) (fun q1 => ?_)
  · rw [if_pos q1] at h
    refine v_iload C dX3_openAfter_108 1 rfl ?_
    refine v_iconst C (v := (1 : Int32)) dX3_openAfter_110 (by decide) ?_
    refine v_ishl C dX3_openAfter_111 ?_
    refine v_iload C dX3_openAfter_112 2 rfl ?_
    refine v_ior C dX3_openAfter_114 ?_
    refine V.sub (lv' := []) [] rfl ?_
    exact b_X3_openAfter_115 C _  _ _ _ h
  · rw [if_neg q1] at h
    refine v_iconst C (v := (-1 : Int32)) dX3_openAfter_104 (by decide) ?_
    refine v_goto C (tgt := 115) dX3_openAfter_105 (by decide) ?_
    refine V.sub (lv' := []) [] rfl ?_
    exact b_X3_openAfter_115 C _  _ _ _ h
def f_X3_openAfter_79 (x2 : Int32) (x4 : Int32) (x6 : Int32) (s0 : Int32) (σ : St) : Option (Int32 × St) :=
  if (x2 &&& s0) = 0 then
    some ((-1 : Int32), σ)
  else
    f_X3_openAfter_96 x4 (x2 ^^^ s0) x6 σ
set_option maxRecDepth 100000 in
set_option maxHeartbeats 4000000 in
theorem b_X3_openAfter_79 {g : Geo} {x : Cx} (C : Ok g x cX3_openAfter RX3 8 (some .int) rm_X3_openAfter) : ∀ (x2 : Int32) (x4 : Int32) (x6 : Int32) (s0 : Int32) (σ : St) (r : Int32) (σ' : St), f_X3_openAfter_79 x2 x4 x6 s0 σ = some (r, σ') → V g x (qm g x (some (.int r)) σ') 8 σ [(2, .int x2), (4, .int x4), (6, .int x6)] [.int s0] 79 := by
  intro x2 x4 x6 s0 σ r σ' h
  unfold f_X3_openAfter_79 at h
  refine v_istore C (lv' := [(7, .int _), (2, .int _), (4, .int _), (6, .int _)]) dX3_openAfter_79 (by decide) rfl ?_
  refine v_iload_n C dX3_openAfter_81 rfl 1 rfl ?_
  refine v_iload C dX3_openAfter_82 0 rfl ?_
  refine v_iand C dX3_openAfter_84 ?_
  refine v_if_ne C (tgt := 90) dX3_openAfter_85 (by decide) (fun q1 => ?_) (fun q1 => ?_)
  · rw [if_neg q1] at h
    refine v_iload_n C dX3_openAfter_90 rfl 1 rfl ?_
    refine v_iload C dX3_openAfter_91 0 rfl ?_
    refine v_ixor C dX3_openAfter_93 ?_
    refine v_istore C (lv' := [(5, .int _), (7, .int _), (2, .int _), (4, .int _), (6, .int _)]) dX3_openAfter_94 (by decide) rfl ?_
    refine V.sub (lv' := [(4, .int _), (5, .int _), (6, .int _)]) [3, 0, 4] rfl ?_
    exact b_X3_openAfter_96 C _ _ _  _ _ _ h
  · rw [if_pos q1] at h
    refine v_iconst C (v := (-1 : Int32)) dX3_openAfter_88 (by decide) ?_
    cases h
    exact v_iret C dX3_openAfter_89
def f_X3_openAfter (a2 : Int32) (a3 : Int32) (a4 : Int32) (σ : St) : Option (Int32 × St) :=
  if ((lushr (gl σ 1 3) a2) &&& (1 : Int64)) = (0 : Int64) then
    if a4 = 0 then
      f_X3_openAfter_96 (jshl (1 : Int32) ((gi σ 1 0) - (1 : Int32))) a3 ((((lushr (gl σ 1 4) a2) &&& (1 : Int64))).toInt32) σ
    else
      some ((-1 : Int32), σ)
  else
    if a4 = 0 then
      if ((((lushr (gl σ 1 4) a2) &&& (1 : Int64))).toInt32) = 0 then
        some ((-1 : Int32), σ)
      else
        f_X3_openAfter_96 (jshl (1 : Int32) ((gi σ 1 0) - (1 : Int32))) a3 (0 : Int32) σ
    else
      if a4 = (2 : Int32) then
        f_X3_openAfter_79 a3 (jshl (1 : Int32) ((gi σ 1 0) - (1 : Int32))) ((((lushr (gl σ 1 4) a2) &&& (1 : Int64))).toInt32) (jshl (1 : Int32) ((gi σ 1 0) - (1 : Int32))) σ
      else
        f_X3_openAfter_79 a3 (jshl (1 : Int32) ((gi σ 1 0) - (1 : Int32))) ((((lushr (gl σ 1 4) a2) &&& (1 : Int64))).toInt32) ((((lushr (gl σ 1 5) a2) &&& (1 : Int64))).toInt32) σ
set_option maxRecDepth 100000 in
set_option maxHeartbeats 4000000 in
theorem c_X3_openAfter {g : Geo} {a2 : Int32} {a3 : Int32} {a4 : Int32} {σ : St} {r : Int32} {σ' : St} (h : f_X3_openAfter a2 a3 a4 σ = some (r, σ')) : Ct g yX3_openAfter cX3_openAfter 8 (some .int) rm_X3_openAfter [.ref (g.1 1), .int a2, .int a3, .int a4] σ (some (.int r)) σ' := by
  refine ct_of (own := RX3) (by decide) rfl (Nat.le_of_ble_eq_true rfl) (fun x C => ?_) ⟨rfl, rfl⟩
  show V g x _ 8 σ [(0, .ref (g.1 1)), (1, .int a2), (2, .int a3), (3, .int a4)] [] 0
  unfold f_X3_openAfter at h
  refine v_iconst C (v := (1 : Int32)) dX3_openAfter_0 (by decide) ?_
  refine v_aload_n C dX3_openAfter_1 rfl 0 rfl ?_
  refine v_getI C fl_RX3_64 rfl dX3_openAfter_2 ?_
  refine v_iconst C (v := (1 : Int32)) dX3_openAfter_5 (by decide) ?_
  refine v_isub C dX3_openAfter_6 ?_
  refine v_ishl C dX3_openAfter_7 ?_
  refine v_istore C (lv' := [(4, .int _), (0, .ref _), (1, .int _), (2, .int _), (3, .int _)]) dX3_openAfter_8 (by decide) rfl ?_
  refine v_iload_n C dX3_openAfter_10 rfl 3 rfl ?_
  refine v_istore C (lv' := [(5, .int _), (4, .int _), (0, .ref _), (1, .int _), (2, .int _), (3, .int _)]) dX3_openAfter_11 (by decide) rfl ?_
  refine v_aload_n C dX3_openAfter_13 rfl 2 rfl ?_
  refine v_getL C fl_RX3_67 rfl dX3_openAfter_14 ?_
  refine v_iload_n C dX3_openAfter_17 rfl 3 rfl ?_
  refine v_lushr C dX3_openAfter_18 ?_
  refine v_lconst C (v := (1 : Int64)) dX3_openAfter_19 (by decide) ?_
  refine v_land C dX3_openAfter_20 ?_
  refine v_l2i C dX3_openAfter_21 ?_
  refine v_istore C (lv' := [(6, .int _), (5, .int _), (4, .int _), (0, .ref _), (1, .int _), (2, .int _), (3, .int _)]) dX3_openAfter_22 (by decide) rfl ?_
  refine v_aload_n C dX3_openAfter_24 rfl 3 rfl ?_
  refine v_getL C fl_RX3_71 rfl dX3_openAfter_25 ?_
  refine v_iload_n C dX3_openAfter_28 rfl 4 rfl ?_
  refine v_lushr C dX3_openAfter_29 ?_
  refine v_lconst C (v := (1 : Int64)) dX3_openAfter_30 (by decide) ?_
  refine v_land C dX3_openAfter_31 ?_
  refine v_lconst C (v := (0 : Int64)) dX3_openAfter_32 (by decide) ?_
  refine v_lcmp_ne C (tgt := 43) dX3_openAfter_33 dX3_openAfter_34 (by decide) (fun q5 => ?_) (fun q5 => ?_)
  · rw [if_neg q5] at h
    refine v_iload_n C dX3_openAfter_43 rfl 6 rfl ?_
    refine v_if_ne C (tgt := 60) dX3_openAfter_44 (by decide) (fun q3 => ?_) (fun q3 => ?_)
    · rw [if_neg q3] at h
      refine v_iload_n C dX3_openAfter_60 rfl 6 rfl ?_
      refine v_iconst C (v := (2 : Int32)) dX3_openAfter_61 (by decide) ?_
      refine v_icmp_ne C (tgt := 70) dX3_openAfter_62 (by decide) (fun q1 => ?_) (fun q1 => ?_)
      · rw [if_neg q1] at h
        refine v_aload_n C dX3_openAfter_70 rfl 3 rfl ?_
        refine v_getL C fl_RX3_74 rfl dX3_openAfter_71 ?_
        refine v_iload_n C dX3_openAfter_74 rfl 4 rfl ?_
        refine v_lushr C dX3_openAfter_75 ?_
        refine v_lconst C (v := (1 : Int64)) dX3_openAfter_76 (by decide) ?_
        refine v_land C dX3_openAfter_77 ?_
        refine v_l2i C dX3_openAfter_78 ?_
        refine V.sub (lv' := [(2, .int _), (4, .int _), (6, .int _)]) [5, 2, 0] rfl ?_
        exact b_X3_openAfter_79 C _ _ _ _  _ _ _ h
      · rw [if_pos q1] at h
        refine v_iload C dX3_openAfter_65 2 rfl ?_
        refine v_goto C (tgt := 79) dX3_openAfter_67 (by decide) ?_
        refine V.sub (lv' := [(2, .int _), (4, .int _), (6, .int _)]) [5, 2, 0] rfl ?_
        exact b_X3_openAfter_79 C _ _ _ _  _ _ _ h
    · rw [if_pos q3] at h
      refine v_iload C dX3_openAfter_47 0 rfl ?_
      refine v_if_ne C (tgt := 54) dX3_openAfter_49 (by decide) (fun q2 => ?_) (fun q2 => ?_)
      · rw [if_neg q2] at h
        refine v_iconst C (v := (0 : Int32)) dX3_openAfter_54 (by decide) ?_
        refine v_istore C (lv' := [(6, .int _), (5, .int _), (4, .int _), (0, .ref _), (1, .int _), (2, .int _), (3, .int _)]) dX3_openAfter_55 (by decide) rfl ?_
        refine v_goto C (tgt := 96) dX3_openAfter_57 (by decide) ?_
        refine V.sub (lv' := [(4, .int _), (5, .int _), (6, .int _)]) [2, 1, 0] rfl ?_
        exact b_X3_openAfter_96 C _ _ _  _ _ _ h
      · rw [if_pos q2] at h
        refine v_iconst C (v := (-1 : Int32)) dX3_openAfter_52 (by decide) ?_
        cases h
        exact v_iret C dX3_openAfter_53
  · rw [if_pos q5] at h
    refine v_iload_n C dX3_openAfter_37 rfl 6 rfl ?_
    refine v_if_eq C (tgt := 96) dX3_openAfter_38 (by decide) (fun q4 => ?_) (fun q4 => ?_)
    · rw [if_pos q4] at h
      refine V.sub (lv' := [(4, .int _), (5, .int _), (6, .int _)]) [2, 1, 0] rfl ?_
      exact b_X3_openAfter_96 C _ _ _  _ _ _ h
    · rw [if_neg q4] at h
      refine v_iconst C (v := (-1 : Int32)) dX3_openAfter_41 (by decide) ?_
      cases h
      exact v_iret C dX3_openAfter_42
theorem dX3_nodeFor_0 : decode cX3_nodeFor 0 = .ok (.iload_n 1, 1) := by decide +kernel
theorem dX3_nodeFor_1 : decode cX3_nodeFor 1 = .ok (.ifCond .lt 12, 3) := by decide +kernel
theorem dX3_nodeFor_4 : decode cX3_nodeFor 4 = .ok (.iload_n 1, 1) := by decide +kernel
theorem dX3_nodeFor_5 : decode cX3_nodeFor 5 = .ok (.aload_n 0, 1) := by decide +kernel
theorem dX3_nodeFor_6 : decode cX3_nodeFor 6 = .ok (.getfield 31, 3) := by decide +kernel
theorem dX3_nodeFor_9 : decode cX3_nodeFor 9 = .ok (.arraylength, 1) := by decide +kernel
theorem dX3_nodeFor_10 : decode cX3_nodeFor 10 = .ok (.if_icmp .lt 5, 3) := by decide +kernel
theorem dX3_nodeFor_13 : decode cX3_nodeFor 13 = .ok (.iconst (-1), 1) := by decide +kernel
theorem dX3_nodeFor_14 : decode cX3_nodeFor 14 = .ok (.ireturn, 1) := by decide +kernel
theorem dX3_nodeFor_15 : decode cX3_nodeFor 15 = .ok (.aload_n 0, 1) := by decide +kernel
theorem dX3_nodeFor_16 : decode cX3_nodeFor 16 = .ok (.getfield 31, 3) := by decide +kernel
theorem dX3_nodeFor_19 : decode cX3_nodeFor 19 = .ok (.iload_n 1, 1) := by decide +kernel
theorem dX3_nodeFor_20 : decode cX3_nodeFor 20 = .ok (.iaload, 1) := by decide +kernel
theorem dX3_nodeFor_21 : decode cX3_nodeFor 21 = .ok (.iconst (-1), 1) := by decide +kernel
theorem dX3_nodeFor_22 : decode cX3_nodeFor 22 = .ok (.if_icmp .ne 43, 3) := by decide +kernel
theorem dX3_nodeFor_25 : decode cX3_nodeFor 25 = .ok (.aload_n 0, 1) := by decide +kernel
theorem dX3_nodeFor_26 : decode cX3_nodeFor 26 = .ok (.getfield 34, 3) := by decide +kernel
theorem dX3_nodeFor_29 : decode cX3_nodeFor 29 = .ok (.sipush 4550, 3) := by decide +kernel
theorem dX3_nodeFor_32 : decode cX3_nodeFor 32 = .ok (.if_icmp .ge 33, 3) := by decide +kernel
theorem dX3_nodeFor_35 : decode cX3_nodeFor 35 = .ok (.aload_n 0, 1) := by decide +kernel
theorem dX3_nodeFor_36 : decode cX3_nodeFor 36 = .ok (.getfield 31, 3) := by decide +kernel
theorem dX3_nodeFor_39 : decode cX3_nodeFor 39 = .ok (.iload_n 1, 1) := by decide +kernel
theorem dX3_nodeFor_40 : decode cX3_nodeFor 40 = .ok (.aload_n 0, 1) := by decide +kernel
theorem dX3_nodeFor_41 : decode cX3_nodeFor 41 = .ok (.getfield 34, 3) := by decide +kernel
theorem dX3_nodeFor_44 : decode cX3_nodeFor 44 = .ok (.iastore, 1) := by decide +kernel
theorem dX3_nodeFor_45 : decode cX3_nodeFor 45 = .ok (.aload_n 0, 1) := by decide +kernel
theorem dX3_nodeFor_46 : decode cX3_nodeFor 46 = .ok (.getfield 15, 3) := by decide +kernel
theorem dX3_nodeFor_49 : decode cX3_nodeFor 49 = .ok (.aload_n 0, 1) := by decide +kernel
theorem dX3_nodeFor_50 : decode cX3_nodeFor 50 = .ok (.getfield 34, 3) := by decide +kernel
theorem dX3_nodeFor_53 : decode cX3_nodeFor 53 = .ok (.iload_n 1, 1) := by decide +kernel
theorem dX3_nodeFor_54 : decode cX3_nodeFor 54 = .ok (.iastore, 1) := by decide +kernel
theorem dX3_nodeFor_55 : decode cX3_nodeFor 55 = .ok (.aload_n 0, 1) := by decide +kernel
theorem dX3_nodeFor_56 : decode cX3_nodeFor 56 = .ok (.dup, 1) := by decide +kernel
theorem dX3_nodeFor_57 : decode cX3_nodeFor 57 = .ok (.getfield 34, 3) := by decide +kernel
theorem dX3_nodeFor_60 : decode cX3_nodeFor 60 = .ok (.iconst 1, 1) := by decide +kernel
theorem dX3_nodeFor_61 : decode cX3_nodeFor 61 = .ok (.iadd, 1) := by decide +kernel
theorem dX3_nodeFor_62 : decode cX3_nodeFor 62 = .ok (.putfield 34, 3) := by decide +kernel
theorem dX3_nodeFor_65 : decode cX3_nodeFor 65 = .ok (.aload_n 0, 1) := by decide +kernel
theorem dX3_nodeFor_66 : decode cX3_nodeFor 66 = .ok (.getfield 31, 3) := by decide +kernel
theorem dX3_nodeFor_69 : decode cX3_nodeFor 69 = .ok (.iload_n 1, 1) := by decide +kernel
theorem dX3_nodeFor_70 : decode cX3_nodeFor 70 = .ok (.iaload, 1) := by decide +kernel
theorem dX3_nodeFor_71 : decode cX3_nodeFor 71 = .ok (.ireturn, 1) := by decide +kernel
def f_X3_nodeFor_65 (x1 : Int32) (σ : St) : Option (Int32 × St) :=
  rdI σ 23 x1 fun v1 =>
  some (v1, σ)
set_option maxRecDepth 100000 in
set_option maxHeartbeats 4000000 in
theorem b_X3_nodeFor_65 {g : Geo} {x : Cx} (C : Ok g x cX3_nodeFor RX3 2 (some .int) rm_X3_nodeFor) : ∀ (x1 : Int32) (σ : St) (r : Int32) (σ' : St), f_X3_nodeFor_65 x1 σ = some (r, σ') → V g x (qm g x (some (.int r)) σ') 2 σ [(0, .ref (g.1 2)), (1, .int x1)] [] 65 := by
  intro x1 σ r σ' h
  unfold f_X3_nodeFor_65 at h
  refine v_aload_n C dX3_nodeFor_65 rfl 0 rfl ?_
  refine v_getR C (p' := 23) fl_RX3_31 rfl rfl dX3_nodeFor_66 ?_
  refine v_iload_n C dX3_nodeFor_69 rfl 1 rfl ?_
  obtain ⟨nv1, v1, ev1, h⟩ := rdI_ex h
  refine x_iald C rfl nv1 ev1 dX3_nodeFor_70 ?_
  cases h
  exact v_iret C dX3_nodeFor_71
def f_X3_nodeFor_13 (σ : St) : Option (Int32 × St) :=
  some ((-1 : Int32), σ)
set_option maxRecDepth 100000 in
set_option maxHeartbeats 4000000 in
theorem b_X3_nodeFor_13 {g : Geo} {x : Cx} (C : Ok g x cX3_nodeFor RX3 2 (some .int) rm_X3_nodeFor) : ∀ (σ : St) (r : Int32) (σ' : St), f_X3_nodeFor_13 σ = some (r, σ') → V g x (qm g x (some (.int r)) σ') 2 σ [] [] 13 := by
  intro σ r σ' h
  unfold f_X3_nodeFor_13 at h
  refine v_iconst C (v := (-1 : Int32)) dX3_nodeFor_13 (by decide) ?_
  cases h
  exact v_iret C dX3_nodeFor_14
def f_X3_nodeFor (a1 : Int32) (σ : St) : Option (Int32 × St) :=
  if a1 < 0 then
    f_X3_nodeFor_13 σ
  else
    if a1 < (Int32.ofNat (len 23)) then
      rdI σ 23 a1 fun v1 =>
      if v1 = (-1 : Int32) then
        if (4550 : Int32) ≤ (gi σ 2 7) then
          f_X3_nodeFor_65 a1 σ
        else
          wrI σ 23 a1 (gi σ 2 7) fun σ2 =>
          wrI σ2 18 (gi σ2 2 7) a1 fun σ3 =>
          fI σ3 2 7 ((gi σ3 2 7) + (1 : Int32)) fun σ4 =>
          f_X3_nodeFor_65 a1 σ4
      else
        f_X3_nodeFor_65 a1 σ
    else
      f_X3_nodeFor_13 σ
set_option maxRecDepth 100000 in
set_option maxHeartbeats 4000000 in
theorem c_X3_nodeFor {g : Geo} {a1 : Int32} {σ : St} {r : Int32} {σ' : St} (h : f_X3_nodeFor a1 σ = some (r, σ')) : Ct g yX3_nodeFor cX3_nodeFor 2 (some .int) rm_X3_nodeFor [.ref (g.1 2), .int a1] σ (some (.int r)) σ' := by
  refine ct_of (own := RX3) (by decide) rfl (Nat.le_of_ble_eq_true rfl) (fun x C => ?_) ⟨rfl, rfl⟩
  show V g x _ 2 σ [(0, .ref (g.1 2)), (1, .int a1)] [] 0
  unfold f_X3_nodeFor at h
  refine v_iload_n C dX3_nodeFor_0 rfl 1 rfl ?_
  refine v_if_lt C (tgt := 13) dX3_nodeFor_1 (by decide) (fun q8 => ?_) (fun q8 => ?_)
  · rw [if_pos q8] at h
    refine V.sub (lv' := []) [] rfl ?_
    exact b_X3_nodeFor_13 C  _ _ _ h
  · rw [if_neg q8] at h
    refine v_iload_n C dX3_nodeFor_4 rfl 1 rfl ?_
    refine v_aload_n C dX3_nodeFor_5 rfl 0 rfl ?_
    refine v_getR C (p' := 23) fl_RX3_31 rfl rfl dX3_nodeFor_6 ?_
    refine v_alenI C (v := (Int32.ofNat (len 23))) rfl rfl dX3_nodeFor_9 ?_
    refine v_icmp_lt C (tgt := 15) dX3_nodeFor_10 (by decide) (fun q7 => ?_) (fun q7 => ?_)
    · rw [if_pos q7] at h
      refine v_aload_n C dX3_nodeFor_15 rfl 0 rfl ?_
      refine v_getR C (p' := 23) fl_RX3_31 rfl rfl dX3_nodeFor_16 ?_
      refine v_iload_n C dX3_nodeFor_19 rfl 1 rfl ?_
      obtain ⟨nv1, v1, ev1, h⟩ := rdI_ex h
      refine x_iald C rfl nv1 ev1 dX3_nodeFor_20 ?_
      refine v_iconst C (v := (-1 : Int32)) dX3_nodeFor_21 (by decide) ?_
      refine v_icmp_ne C (tgt := 65) dX3_nodeFor_22 (by decide) (fun q6 => ?_) (fun q6 => ?_)
      · rw [if_neg q6] at h
        refine V.sub (lv' := [(0, .ref _), (1, .int _)]) [0, 1] rfl ?_
        exact b_X3_nodeFor_65 C _  _ _ _ h
      · rw [if_pos q6] at h
        refine v_aload_n C dX3_nodeFor_25 rfl 0 rfl ?_
        refine v_getI C fl_RX3_34 rfl dX3_nodeFor_26 ?_
        refine v_sipush C (v := (4550 : Int32)) dX3_nodeFor_29 (by decide) ?_
        refine v_icmp_ge C (tgt := 65) dX3_nodeFor_32 (by decide) (fun q5 => ?_) (fun q5 => ?_)
        · rw [if_pos q5] at h
          refine V.sub (lv' := [(0, .ref _), (1, .int _)]) [0, 1] rfl ?_
          exact b_X3_nodeFor_65 C _  _ _ _ h
        · rw [if_neg q5] at h
          refine v_aload_n C dX3_nodeFor_35 rfl 0 rfl ?_
          refine v_getR C (p' := 23) fl_RX3_31 rfl rfl dX3_nodeFor_36 ?_
          refine v_iload_n C dX3_nodeFor_39 rfl 1 rfl ?_
          refine v_aload_n C dX3_nodeFor_40 rfl 0 rfl ?_
          refine v_getI C fl_RX3_34 rfl dX3_nodeFor_41 ?_
          obtain ⟨nσ2, σ2, eσ2, h⟩ := wrI_ex h
          refine x_iast C rfl nσ2 eσ2 dX3_nodeFor_44 ?_
          refine v_aload_n C dX3_nodeFor_45 rfl 0 rfl ?_
          refine v_getR C (p' := 18) fl_RX3_15 rfl rfl dX3_nodeFor_46 ?_
          refine v_aload_n C dX3_nodeFor_49 rfl 0 rfl ?_
          refine v_getI C fl_RX3_34 rfl dX3_nodeFor_50 ?_
          refine v_iload_n C dX3_nodeFor_53 rfl 1 rfl ?_
          obtain ⟨nσ3, σ3, eσ3, h⟩ := wrI_ex h
          refine x_iast C rfl nσ3 eσ3 dX3_nodeFor_54 ?_
          refine v_aload_n C dX3_nodeFor_55 rfl 0 rfl ?_
          refine v_dup C dX3_nodeFor_56 rfl ?_
          refine v_getI C fl_RX3_34 rfl dX3_nodeFor_57 ?_
          refine v_iconst C (v := (1 : Int32)) dX3_nodeFor_60 (by decide) ?_
          refine v_iadd C dX3_nodeFor_61 ?_
          obtain ⟨σ4, eσ4, h⟩ := fI_ex h
          refine x_putI C fl_RX3_34 fw_3_7 rfl eσ4 dX3_nodeFor_62 ?_
          refine V.sub (lv' := [(0, .ref _), (1, .int _)]) [0, 1] rfl ?_
          exact b_X3_nodeFor_65 C _  _ _ _ h
    · rw [if_neg q7] at h
      refine V.sub (lv' := []) [] rfl ?_
      exact b_X3_nodeFor_13 C  _ _ _ h
theorem dX3_countOnward_0 : decode cX3_countOnward 0 = .ok (.aload_n 0, 1) := by decide +kernel
theorem dX3_countOnward_1 : decode cX3_countOnward 1 = .ok (.getfield 9, 3) := by decide +kernel
theorem dX3_countOnward_4 : decode cX3_countOnward 4 = .ok (.aload_n 1, 1) := by decide +kernel
theorem dX3_countOnward_5 : decode cX3_countOnward 5 = .ok (.getfield 38, 3) := by decide +kernel
theorem dX3_countOnward_8 : decode cX3_countOnward 8 = .ok (.iaload, 1) := by decide +kernel
theorem dX3_countOnward_9 : decode cX3_countOnward 9 = .ok (.istore_n 2, 1) := by decide +kernel
theorem dX3_countOnward_10 : decode cX3_countOnward 10 = .ok (.iload_n 2, 1) := by decide +kernel
theorem dX3_countOnward_11 : decode cX3_countOnward 11 = .ok (.aload_n 0, 1) := by decide +kernel
theorem dX3_countOnward_12 : decode cX3_countOnward 12 = .ok (.getfield 34, 3) := by decide +kernel
theorem dX3_countOnward_15 : decode cX3_countOnward 15 = .ok (.if_icmp .ge 29, 3) := by decide +kernel
theorem dX3_countOnward_18 : decode cX3_countOnward 18 = .ok (.aload_n 0, 1) := by decide +kernel
theorem dX3_countOnward_19 : decode cX3_countOnward 19 = .ok (.getfield 21, 3) := by decide +kernel
theorem dX3_countOnward_22 : decode cX3_countOnward 22 = .ok (.iload_n 2, 1) := by decide +kernel
theorem dX3_countOnward_23 : decode cX3_countOnward 23 = .ok (.aload_n 0, 1) := by decide +kernel
theorem dX3_countOnward_24 : decode cX3_countOnward 24 = .ok (.getfield 15, 3) := by decide +kernel
theorem dX3_countOnward_27 : decode cX3_countOnward 27 = .ok (.iload_n 2, 1) := by decide +kernel
theorem dX3_countOnward_28 : decode cX3_countOnward 28 = .ok (.iaload, 1) := by decide +kernel
theorem dX3_countOnward_29 : decode cX3_countOnward 29 = .ok (.ifCond .ne 7, 3) := by decide +kernel
theorem dX3_countOnward_32 : decode cX3_countOnward 32 = .ok (.lconst 1, 1) := by decide +kernel
theorem dX3_countOnward_33 : decode cX3_countOnward 33 = .ok (.goto 4, 3) := by decide +kernel
theorem dX3_countOnward_36 : decode cX3_countOnward 36 = .ok (.lconst 0, 1) := by decide +kernel
theorem dX3_countOnward_37 : decode cX3_countOnward 37 = .ok (.lastore, 1) := by decide +kernel
theorem dX3_countOnward_38 : decode cX3_countOnward 38 = .ok (.iinc 2 1, 3) := by decide +kernel
theorem dX3_countOnward_41 : decode cX3_countOnward 41 = .ok (.goto (-31), 3) := by decide +kernel
theorem dX3_countOnward_44 : decode cX3_countOnward 44 = .ok (.aload_n 0, 1) := by decide +kernel
theorem dX3_countOnward_45 : decode cX3_countOnward 45 = .ok (.getfield 9, 3) := by decide +kernel
theorem dX3_countOnward_48 : decode cX3_countOnward 48 = .ok (.aload_n 1, 1) := by decide +kernel
theorem dX3_countOnward_49 : decode cX3_countOnward 49 = .ok (.getfield 38, 3) := by decide +kernel
theorem dX3_countOnward_52 : decode cX3_countOnward 52 = .ok (.iaload, 1) := by decide +kernel
theorem dX3_countOnward_53 : decode cX3_countOnward 53 = .ok (.iconst 1, 1) := by decide +kernel
theorem dX3_countOnward_54 : decode cX3_countOnward 54 = .ok (.isub, 1) := by decide +kernel
theorem dX3_countOnward_55 : decode cX3_countOnward 55 = .ok (.istore_n 2, 1) := by decide +kernel
theorem dX3_countOnward_56 : decode cX3_countOnward 56 = .ok (.iload_n 2, 1) := by decide +kernel
theorem dX3_countOnward_57 : decode cX3_countOnward 57 = .ok (.ifCond .lt 88, 3) := by decide +kernel
theorem dX3_countOnward_60 : decode cX3_countOnward 60 = .ok (.lconst 0, 1) := by decide +kernel
theorem dX3_countOnward_61 : decode cX3_countOnward 61 = .ok (.lstore_n 3, 1) := by decide +kernel
theorem dX3_countOnward_62 : decode cX3_countOnward 62 = .ok (.iconst 0, 1) := by decide +kernel
theorem dX3_countOnward_63 : decode cX3_countOnward 63 = .ok (.istore 5, 2) := by decide +kernel
theorem dX3_countOnward_65 : decode cX3_countOnward 65 = .ok (.iload 5, 2) := by decide +kernel
theorem dX3_countOnward_67 : decode cX3_countOnward 67 = .ok (.iconst 3, 1) := by decide +kernel
theorem dX3_countOnward_68 : decode cX3_countOnward 68 = .ok (.if_icmp .ge 64, 3) := by decide +kernel
theorem dX3_countOnward_71 : decode cX3_countOnward 71 = .ok (.aload_n 0, 1) := by decide +kernel
theorem dX3_countOnward_72 : decode cX3_countOnward 72 = .ok (.getfield 18, 3) := by decide +kernel
theorem dX3_countOnward_75 : decode cX3_countOnward 75 = .ok (.iload_n 2, 1) := by decide +kernel
theorem dX3_countOnward_76 : decode cX3_countOnward 76 = .ok (.iconst 3, 1) := by decide +kernel
theorem dX3_countOnward_77 : decode cX3_countOnward 77 = .ok (.imul, 1) := by decide +kernel
theorem dX3_countOnward_78 : decode cX3_countOnward 78 = .ok (.iload 5, 2) := by decide +kernel
theorem dX3_countOnward_80 : decode cX3_countOnward 80 = .ok (.iadd, 1) := by decide +kernel
theorem dX3_countOnward_81 : decode cX3_countOnward 81 = .ok (.iaload, 1) := by decide +kernel
theorem dX3_countOnward_82 : decode cX3_countOnward 82 = .ok (.istore 6, 2) := by decide +kernel
theorem dX3_countOnward_84 : decode cX3_countOnward 84 = .ok (.iload 6, 2) := by decide +kernel
theorem dX3_countOnward_86 : decode cX3_countOnward 86 = .ok (.ifCond .lt 28, 3) := by decide +kernel
theorem dX3_countOnward_89 : decode cX3_countOnward 89 = .ok (.aload_n 0, 1) := by decide +kernel
theorem dX3_countOnward_90 : decode cX3_countOnward 90 = .ok (.getfield 21, 3) := by decide +kernel
theorem dX3_countOnward_93 : decode cX3_countOnward 93 = .ok (.iload 6, 2) := by decide +kernel
theorem dX3_countOnward_95 : decode cX3_countOnward 95 = .ok (.laload, 1) := by decide +kernel
theorem dX3_countOnward_96 : decode cX3_countOnward 96 = .ok (.lconst 0, 1) := by decide +kernel
theorem dX3_countOnward_97 : decode cX3_countOnward 97 = .ok (.lcmp, 1) := by decide +kernel
theorem dX3_countOnward_98 : decode cX3_countOnward 98 = .ok (.ifCond .eq 16, 3) := by decide +kernel
theorem dX3_countOnward_101 : decode cX3_countOnward 101 = .ok (.lload_n 3, 1) := by decide +kernel
theorem dX3_countOnward_102 : decode cX3_countOnward 102 = .ok (.aload_n 0, 1) := by decide +kernel
theorem dX3_countOnward_103 : decode cX3_countOnward 103 = .ok (.getfield 21, 3) := by decide +kernel
theorem dX3_countOnward_106 : decode cX3_countOnward 106 = .ok (.iload 6, 2) := by decide +kernel
theorem dX3_countOnward_108 : decode cX3_countOnward 108 = .ok (.laload, 1) := by decide +kernel
theorem dX3_countOnward_109 : decode cX3_countOnward 109 = .ok (.ladd, 1) := by decide +kernel
theorem dX3_countOnward_110 : decode cX3_countOnward 110 = .ok (.lstore_n 3, 1) := by decide +kernel
theorem dX3_countOnward_111 : decode cX3_countOnward 111 = .ok (.goto 15, 3) := by decide +kernel
theorem dX3_countOnward_114 : decode cX3_countOnward 114 = .ok (.aload_n 0, 1) := by decide +kernel
theorem dX3_countOnward_115 : decode cX3_countOnward 115 = .ok (.getfield 18, 3) := by decide +kernel
theorem dX3_countOnward_118 : decode cX3_countOnward 118 = .ok (.iload_n 2, 1) := by decide +kernel
theorem dX3_countOnward_119 : decode cX3_countOnward 119 = .ok (.iconst 3, 1) := by decide +kernel
theorem dX3_countOnward_120 : decode cX3_countOnward 120 = .ok (.imul, 1) := by decide +kernel
theorem dX3_countOnward_121 : decode cX3_countOnward 121 = .ok (.iload 5, 2) := by decide +kernel
theorem dX3_countOnward_123 : decode cX3_countOnward 123 = .ok (.iadd, 1) := by decide +kernel
theorem dX3_countOnward_124 : decode cX3_countOnward 124 = .ok (.iconst (-1), 1) := by decide +kernel
theorem dX3_countOnward_125 : decode cX3_countOnward 125 = .ok (.iastore, 1) := by decide +kernel
theorem dX3_countOnward_126 : decode cX3_countOnward 126 = .ok (.iinc 5 1, 3) := by decide +kernel
theorem dX3_countOnward_129 : decode cX3_countOnward 129 = .ok (.goto (-64), 3) := by decide +kernel
theorem dX3_countOnward_132 : decode cX3_countOnward 132 = .ok (.aload_n 0, 1) := by decide +kernel
theorem dX3_countOnward_133 : decode cX3_countOnward 133 = .ok (.getfield 21, 3) := by decide +kernel
theorem dX3_countOnward_136 : decode cX3_countOnward 136 = .ok (.iload_n 2, 1) := by decide +kernel
theorem dX3_countOnward_137 : decode cX3_countOnward 137 = .ok (.lload_n 3, 1) := by decide +kernel
theorem dX3_countOnward_138 : decode cX3_countOnward 138 = .ok (.lastore, 1) := by decide +kernel
theorem dX3_countOnward_139 : decode cX3_countOnward 139 = .ok (.iinc 2 (-1), 3) := by decide +kernel
theorem dX3_countOnward_142 : decode cX3_countOnward 142 = .ok (.goto (-86), 3) := by decide +kernel
theorem dX3_countOnward_145 : decode cX3_countOnward 145 = .ok (.return_, 1) := by decide +kernel
def f_X3_countOnward_126 (k65 : Int32 → Int64 → Int32 → St → Option (Unit × St)) (x2 : Int32) (x3 : Int64) (x5 : Int32) (σ : St) : Option (Unit × St) :=
  k65 x2 x3 (x5 + 1) σ
set_option maxRecDepth 100000 in
set_option maxHeartbeats 4000000 in
theorem b_X3_countOnward_126 {g : Geo} {x : Cx} (C : Ok g x cX3_countOnward RX3 7 none rm_X3_countOnward) (k65 : Int32 → Int64 → Int32 → St → Option (Unit × St)) (hk65 : ∀ (x2 : Int32) (x3 : Int64) (x5 : Int32) (τ : St) (r : Unit) (τ' : St), k65 x2 x3 x5 τ = some (r, τ') → V g x (qm g x none τ') 7 τ [(0, .ref (g.1 2)), (2, .int x2), (3, .long x3), (5, .int x5)] [] 65) : ∀ (x2 : Int32) (x3 : Int64) (x5 : Int32) (σ : St) (r : Unit) (σ' : St), f_X3_countOnward_126 k65 x2 x3 x5 σ = some (r, σ') → V g x (qm g x none σ') 7 σ [(0, .ref (g.1 2)), (2, .int x2), (3, .long x3), (5, .int x5)] [] 126 := by
  intro x2 x3 x5 σ r σ' h
  unfold f_X3_countOnward_126 at h
  refine v_iinc C (v := (x5 + 1)) (lv' := [(5, .int _), (0, .ref _), (2, .int _), (3, .long _)]) dX3_countOnward_126 3 rfl rfl (by decide) rfl ?_
  refine v_goto C (tgt := 65) dX3_countOnward_129 (by decide) ?_
  refine V.sub (lv' := [(0, .ref _), (2, .int _), (3, .long _), (5, .int _)]) [1, 2, 3, 0] rfl ?_
  exact hk65 _ _ _  _ _ _ h
def f_X3_countOnward_114 (k65 : Int32 → Int64 → Int32 → St → Option (Unit × St)) (x2 : Int32) (x3 : Int64) (x5 : Int32) (σ : St) : Option (Unit × St) :=
  wrI σ 19 ((x2 * (3 : Int32)) + x5) (-1 : Int32) fun σ1 =>
  f_X3_countOnward_126 k65 x2 x3 x5 σ1
set_option maxRecDepth 100000 in
set_option maxHeartbeats 4000000 in
theorem b_X3_countOnward_114 {g : Geo} {x : Cx} (C : Ok g x cX3_countOnward RX3 7 none rm_X3_countOnward) (k65 : Int32 → Int64 → Int32 → St → Option (Unit × St)) (hk65 : ∀ (x2 : Int32) (x3 : Int64) (x5 : Int32) (τ : St) (r : Unit) (τ' : St), k65 x2 x3 x5 τ = some (r, τ') → V g x (qm g x none τ') 7 τ [(0, .ref (g.1 2)), (2, .int x2), (3, .long x3), (5, .int x5)] [] 65) : ∀ (x2 : Int32) (x3 : Int64) (x5 : Int32) (σ : St) (r : Unit) (σ' : St), f_X3_countOnward_114 k65 x2 x3 x5 σ = some (r, σ') → V g x (qm g x none σ') 7 σ [(0, .ref (g.1 2)), (2, .int x2), (3, .long x3), (5, .int x5)] [] 114 := by
  intro x2 x3 x5 σ r σ' h
  unfold f_X3_countOnward_114 at h
  refine v_aload_n C dX3_countOnward_114 rfl 0 rfl ?_
  refine v_getR C (p' := 19) fl_RX3_18 rfl rfl dX3_countOnward_115 ?_
  refine v_iload_n C dX3_countOnward_118 rfl 1 rfl ?_
  refine v_iconst C (v := (3 : Int32)) dX3_countOnward_119 (by decide) ?_
  refine v_imul C dX3_countOnward_120 ?_
  refine v_iload C dX3_countOnward_121 3 rfl ?_
  refine v_iadd C dX3_countOnward_123 ?_
  refine v_iconst C (v := (-1 : Int32)) dX3_countOnward_124 (by decide) ?_
  obtain ⟨nσ1, σ1, eσ1, h⟩ := wrI_ex h
  refine x_iast C rfl nσ1 eσ1 dX3_countOnward_125 ?_
  refine V.sub (lv' := [(0, .ref _), (2, .int _), (3, .long _), (5, .int _)]) [0, 1, 2, 3] rfl ?_
  exact b_X3_countOnward_126 C _ hk65 _ _ _  _ _ _ h
def f_X3_countOnward_65 (k56 : Int32 → St → Option (Unit × St)) : Nat → Int32 → Int64 → Int32 → St → Option (Unit × St)
  | 0, _, _, _, _ => none
  | n + 1, x2, x3, x5, σ =>
    if (3 : Int32) ≤ x5 then
      wrL σ 20 x2 x3 fun σ1 =>
      k56 (x2 + (-1)) σ1
    else
      rdI σ 19 ((x2 * (3 : Int32)) + x5) fun v2 =>
      if v2 < 0 then
        f_X3_countOnward_114 (f_X3_countOnward_65 k56 n) x2 x3 x5 σ
      else
        rdL σ 20 v2 fun v3 =>
        if v3 = (0 : Int64) then
          f_X3_countOnward_114 (f_X3_countOnward_65 k56 n) x2 x3 x5 σ
        else
          rdL σ 20 v2 fun v4 =>
          f_X3_countOnward_126 (f_X3_countOnward_65 k56 n) x2 (x3 + v4) x5 σ
set_option maxRecDepth 100000 in
set_option maxHeartbeats 4000000 in
theorem b_X3_countOnward_65 {g : Geo} {x : Cx} (C : Ok g x cX3_countOnward RX3 7 none rm_X3_countOnward) (k56 : Int32 → St → Option (Unit × St)) (hk56 : ∀ (x2 : Int32) (τ : St) (r : Unit) (τ' : St), k56 x2 τ = some (r, τ') → V g x (qm g x none τ') 7 τ [(0, .ref (g.1 2)), (2, .int x2)] [] 56) : ∀ (n : Nat) (x2 : Int32) (x3 : Int64) (x5 : Int32) (σ : St) (r : Unit) (σ' : St), f_X3_countOnward_65 k56 n x2 x3 x5 σ = some (r, σ') → V g x (qm g x none σ') 7 σ [(0, .ref (g.1 2)), (2, .int x2), (3, .long x3), (5, .int x5)] [] 65 := by
  intro n
  induction n with
  | zero =>
    intro x2 x3 x5 σ r σ' h
    rw [f_X3_countOnward_65] at h
    cases h
  | succ n ih =>
    intro x2 x3 x5 σ r σ' h
    rw [f_X3_countOnward_65] at h
    refine v_iload C dX3_countOnward_65 3 rfl ?_
    refine v_iconst C (v := (3 : Int32)) dX3_countOnward_67 (by decide) ?_
    refine v_icmp_ge C (tgt := 132) dX3_countOnward_68 (by decide) (fun q7 => ?_) (fun q7 => ?_)
    · rw [if_pos q7] at h
      refine v_aload_n C dX3_countOnward_132 rfl 0 rfl ?_
      refine v_getR C (p' := 20) fl_RX3_21 rfl rfl dX3_countOnward_133 ?_
      refine v_iload_n C dX3_countOnward_136 rfl 1 rfl ?_
      refine v_lload_n C dX3_countOnward_137 rfl 2 rfl ?_
      obtain ⟨nσ1, σ1, eσ1, h⟩ := wrL_ex h
      refine x_last C rfl nσ1 eσ1 dX3_countOnward_138 ?_
      refine v_iinc C (v := (x2 + (-1))) (lv' := [(2, .int _), (0, .ref _), (3, .long _), (5, .int _)]) dX3_countOnward_139 1 rfl rfl (by decide) rfl ?_
      refine v_goto C (tgt := 56) dX3_countOnward_142 (by decide) ?_
      refine V.sub (lv' := [(0, .ref _), (2, .int _)]) [1, 0] rfl ?_
      exact hk56 _  _ _ _ h
    · rw [if_neg q7] at h
      refine v_aload_n C dX3_countOnward_71 rfl 0 rfl ?_
      refine v_getR C (p' := 19) fl_RX3_18 rfl rfl dX3_countOnward_72 ?_
      refine v_iload_n C dX3_countOnward_75 rfl 1 rfl ?_
      refine v_iconst C (v := (3 : Int32)) dX3_countOnward_76 (by decide) ?_
      refine v_imul C dX3_countOnward_77 ?_
      refine v_iload C dX3_countOnward_78 3 rfl ?_
      refine v_iadd C dX3_countOnward_80 ?_
      obtain ⟨nv2, v2, ev2, h⟩ := rdI_ex h
      refine x_iald C rfl nv2 ev2 dX3_countOnward_81 ?_
      refine v_istore C (lv' := [(6, .int _), (0, .ref _), (2, .int _), (3, .long _), (5, .int _)]) dX3_countOnward_82 (by decide) rfl ?_
      refine v_iload C dX3_countOnward_84 0 rfl ?_
      refine v_if_lt C (tgt := 114) dX3_countOnward_86 (by decide) (fun q6 => ?_) (fun q6 => ?_)
      · rw [if_pos q6] at h
        refine V.sub (lv' := [(0, .ref _), (2, .int _), (3, .long _), (5, .int _)]) [1, 2, 3, 4] rfl ?_
        exact b_X3_countOnward_114 C _ ih _ _ _  _ _ _ h
      · rw [if_neg q6] at h
        refine v_aload_n C dX3_countOnward_89 rfl 1 rfl ?_
        refine v_getR C (p' := 20) fl_RX3_21 rfl rfl dX3_countOnward_90 ?_
        refine v_iload C dX3_countOnward_93 0 rfl ?_
        obtain ⟨nv3, v3, ev3, h⟩ := rdL_ex h
        refine x_lald C rfl nv3 ev3 dX3_countOnward_95 ?_
        refine v_lconst C (v := (0 : Int64)) dX3_countOnward_96 (by decide) ?_
        refine v_lcmp_eq C (tgt := 114) dX3_countOnward_97 dX3_countOnward_98 (by decide) (fun q5 => ?_) (fun q5 => ?_)
        · rw [if_pos q5] at h
          refine V.sub (lv' := [(0, .ref _), (2, .int _), (3, .long _), (5, .int _)]) [1, 2, 3, 4] rfl ?_
          exact b_X3_countOnward_114 C _ ih _ _ _  _ _ _ h
        · rw [if_neg q5] at h
          refine v_lload_n C dX3_countOnward_101 rfl 3 rfl ?_
          refine v_aload_n C dX3_countOnward_102 rfl 1 rfl ?_
          refine v_getR C (p' := 20) fl_RX3_21 rfl rfl dX3_countOnward_103 ?_
          refine v_iload C dX3_countOnward_106 0 rfl ?_
          obtain ⟨nv4, v4, ev4, h⟩ := rdL_ex h
          refine x_lald C rfl nv4 ev4 dX3_countOnward_108 ?_
          refine v_ladd C dX3_countOnward_109 ?_
          refine v_lstore_n C (lv' := [(3, .long _), (6, .int _), (0, .ref _), (2, .int _), (5, .int _)]) dX3_countOnward_110 rfl (by decide) rfl ?_
          refine v_goto C (tgt := 126) dX3_countOnward_111 (by decide) ?_
          refine V.sub (lv' := [(0, .ref _), (2, .int _), (3, .long _), (5, .int _)]) [2, 3, 0, 4] rfl ?_
          exact b_X3_countOnward_126 C _ ih _ _ _  _ _ _ h
def f_X3_countOnward_56 : Nat → Int32 → St → Option (Unit × St)
  | 0, _, _ => none
  | n + 1, x2, σ =>
    if x2 < 0 then
      some ((), σ)
    else
      f_X3_countOnward_65 (f_X3_countOnward_56 n) FU x2 (0 : Int64) (0 : Int32) σ
set_option maxRecDepth 100000 in
set_option maxHeartbeats 4000000 in
theorem b_X3_countOnward_56 {g : Geo} {x : Cx} (C : Ok g x cX3_countOnward RX3 7 none rm_X3_countOnward) : ∀ (n : Nat) (x2 : Int32) (σ : St) (r : Unit) (σ' : St), f_X3_countOnward_56 n x2 σ = some (r, σ') → V g x (qm g x none σ') 7 σ [(0, .ref (g.1 2)), (2, .int x2)] [] 56 := by
  intro n
  induction n with
  | zero =>
    intro x2 σ r σ' h
    rw [f_X3_countOnward_56] at h
    cases h
  | succ n ih =>
    intro x2 σ r σ' h
    rw [f_X3_countOnward_56] at h
    refine v_iload_n C dX3_countOnward_56 rfl 1 rfl ?_
    refine v_if_lt C (tgt := 145) dX3_countOnward_57 (by decide) (fun q1 => ?_) (fun q1 => ?_)
    · rw [if_pos q1] at h
      cases h
      exact v_vret C dX3_countOnward_145
    · rw [if_neg q1] at h
      refine v_lconst C (v := (0 : Int64)) dX3_countOnward_60 (by decide) ?_
      refine v_lstore_n C (lv' := [(3, .long _), (0, .ref _), (2, .int _)]) dX3_countOnward_61 rfl (by decide) rfl ?_
      refine v_iconst C (v := (0 : Int32)) dX3_countOnward_62 (by decide) ?_
      refine v_istore C (lv' := [(5, .int _), (3, .long _), (0, .ref _), (2, .int _)]) dX3_countOnward_63 (by decide) rfl ?_
      refine V.sub (lv' := [(0, .ref _), (2, .int _), (3, .long _), (5, .int _)]) [2, 3, 1, 0] rfl ?_
      exact b_X3_countOnward_65 C _ ih FU _ _ _  _ _ _ h
def f_X3_countOnward_37 (k10 : Int32 → St → Option (Unit × St)) (x2 : Int32) (s1 : Int32) (s2 : Int64) (σ : St) : Option (Unit × St) :=
  wrL σ 20 s1 s2 fun σ1 =>
  k10 (x2 + 1) σ1
set_option maxRecDepth 100000 in
set_option maxHeartbeats 4000000 in
theorem b_X3_countOnward_37 {g : Geo} {x : Cx} (C : Ok g x cX3_countOnward RX3 7 none rm_X3_countOnward) (k10 : Int32 → St → Option (Unit × St)) (hk10 : ∀ (x2 : Int32) (τ : St) (r : Unit) (τ' : St), k10 x2 τ = some (r, τ') → V g x (qm g x none τ') 7 τ [(0, .ref (g.1 2)), (1, .ref (g.1 1)), (2, .int x2)] [] 10) : ∀ (x2 : Int32) (s1 : Int32) (s2 : Int64) (σ : St) (r : Unit) (σ' : St), f_X3_countOnward_37 k10 x2 s1 s2 σ = some (r, σ') → V g x (qm g x none σ') 7 σ [(0, .ref (g.1 2)), (1, .ref (g.1 1)), (2, .int x2)] [.long s2, .int s1, .ref (g.1 20)] 37 := by
  intro x2 s1 s2 σ r σ' h
  unfold f_X3_countOnward_37 at h
  obtain ⟨nσ1, σ1, eσ1, h⟩ := wrL_ex h
  refine x_last C rfl nσ1 eσ1 dX3_countOnward_37 ?_
  refine v_iinc C (v := (x2 + 1)) (lv' := [(2, .int _), (0, .ref _), (1, .ref _)]) dX3_countOnward_38 2 rfl rfl (by decide) rfl ?_
  refine v_goto C (tgt := 10) dX3_countOnward_41 (by decide) ?_
  refine V.sub (lv' := [(0, .ref _), (1, .ref _), (2, .int _)]) [1, 2, 0] rfl ?_
  exact hk10 _  _ _ _ h
def f_X3_countOnward_10 : Nat → Int32 → St → Option (Unit × St)
  | 0, _, _ => none
  | n + 1, x2, σ =>
    if (gi σ 2 7) ≤ x2 then
      rdI σ 17 (gi σ 1 2) fun v1 =>
      f_X3_countOnward_56 FU (v1 - (1 : Int32)) σ
    else
      rdI σ 18 x2 fun v2 =>
      if v2 = 0 then
        f_X3_countOnward_37 (f_X3_countOnward_10 n) x2 x2 (1 : Int64) σ
      else
        f_X3_countOnward_37 (f_X3_countOnward_10 n) x2 x2 (0 : Int64) σ
set_option maxRecDepth 100000 in
set_option maxHeartbeats 4000000 in
theorem b_X3_countOnward_10 {g : Geo} {x : Cx} (C : Ok g x cX3_countOnward RX3 7 none rm_X3_countOnward) : ∀ (n : Nat) (x2 : Int32) (σ : St) (r : Unit) (σ' : St), f_X3_countOnward_10 n x2 σ = some (r, σ') → V g x (qm g x none σ') 7 σ [(0, .ref (g.1 2)), (1, .ref (g.1 1)), (2, .int x2)] [] 10 := by
  intro n
  induction n with
  | zero =>
    intro x2 σ r σ' h
    rw [f_X3_countOnward_10] at h
    cases h
  | succ n ih =>
    intro x2 σ r σ' h
    rw [f_X3_countOnward_10] at h
    refine v_iload_n C dX3_countOnward_10 rfl 2 rfl ?_
    refine v_aload_n C dX3_countOnward_11 rfl 0 rfl ?_
    refine v_getI C fl_RX3_34 rfl dX3_countOnward_12 ?_
    refine v_icmp_ge C (tgt := 44) dX3_countOnward_15 (by decide) (fun q4 => ?_) (fun q4 => ?_)
    · rw [if_pos q4] at h
      refine v_aload_n C dX3_countOnward_44 rfl 0 rfl ?_
      refine v_getR C (p' := 17) fl_RX3_9 rfl rfl dX3_countOnward_45 ?_
      refine v_aload_n C dX3_countOnward_48 rfl 1 rfl ?_
      refine v_getI C fl_RX3_38 rfl dX3_countOnward_49 ?_
      obtain ⟨nv1, v1, ev1, h⟩ := rdI_ex h
      refine x_iald C rfl nv1 ev1 dX3_countOnward_52 ?_
      refine v_iconst C (v := (1 : Int32)) dX3_countOnward_53 (by decide) ?_
      refine v_isub C dX3_countOnward_54 ?_
      refine v_istore_n C (lv' := [(2, .int _), (0, .ref _), (1, .ref _)]) dX3_countOnward_55 rfl (by decide) rfl ?_
      refine V.sub (lv' := [(0, .ref _), (2, .int _)]) [1, 0] rfl ?_
      exact b_X3_countOnward_56 C FU _  _ _ _ h
    · rw [if_neg q4] at h
      refine v_aload_n C dX3_countOnward_18 rfl 0 rfl ?_
      refine v_getR C (p' := 20) fl_RX3_21 rfl rfl dX3_countOnward_19 ?_
      refine v_iload_n C dX3_countOnward_22 rfl 2 rfl ?_
      refine v_aload_n C dX3_countOnward_23 rfl 0 rfl ?_
      refine v_getR C (p' := 18) fl_RX3_15 rfl rfl dX3_countOnward_24 ?_
      refine v_iload_n C dX3_countOnward_27 rfl 2 rfl ?_
      obtain ⟨nv2, v2, ev2, h⟩ := rdI_ex h
      refine x_iald C rfl nv2 ev2 dX3_countOnward_28 ?_
      refine v_if_ne C (tgt := 36) dX3_countOnward_29 (by decide) (fun q3 => ?_) (fun q3 => ?_)
      · rw [if_neg q3] at h
        refine v_lconst C (v := (0 : Int64)) dX3_countOnward_36 (by decide) ?_
        refine V.sub (lv' := [(0, .ref _), (1, .ref _), (2, .int _)]) [0, 1, 2] rfl ?_
        exact b_X3_countOnward_37 C _ ih _ _ _  _ _ _ h
      · rw [if_pos q3] at h
        refine v_lconst C (v := (1 : Int64)) dX3_countOnward_32 (by decide) ?_
        refine v_goto C (tgt := 37) dX3_countOnward_33 (by decide) ?_
        refine V.sub (lv' := [(0, .ref _), (1, .ref _), (2, .int _)]) [0, 1, 2] rfl ?_
        exact b_X3_countOnward_37 C _ ih _ _ _  _ _ _ h
def f_X3_countOnward (σ : St) : Option (Unit × St) :=
  rdI σ 17 (gi σ 1 2) fun v1 =>
  f_X3_countOnward_10 FU v1 σ
set_option maxRecDepth 100000 in
set_option maxHeartbeats 4000000 in
theorem c_X3_countOnward {g : Geo} {σ : St} {r : Unit} {σ' : St} (h : f_X3_countOnward σ = some (r, σ')) : Ct g yX3_countOnward cX3_countOnward 7 none rm_X3_countOnward [.ref (g.1 2), .ref (g.1 1)] σ none σ' := by
  refine ct_of (own := RX3) (by decide) rfl (Nat.le_of_ble_eq_true rfl) (fun x C => ?_) ⟨rfl, rfl⟩
  show V g x _ 7 σ [(0, .ref (g.1 2)), (1, .ref (g.1 1))] [] 0
  unfold f_X3_countOnward at h
  refine v_aload_n C dX3_countOnward_0 rfl 0 rfl ?_
  refine v_getR C (p' := 17) fl_RX3_9 rfl rfl dX3_countOnward_1 ?_
  refine v_aload_n C dX3_countOnward_4 rfl 1 rfl ?_
  refine v_getI C fl_RX3_38 rfl dX3_countOnward_5 ?_
  obtain ⟨nv1, v1, ev1, h⟩ := rdI_ex h
  refine x_iald C rfl nv1 ev1 dX3_countOnward_8 ?_
  refine v_istore_n C (lv' := [(2, .int _), (0, .ref _), (1, .ref _)]) dX3_countOnward_9 rfl (by decide) rfl ?_
  refine V.sub (lv' := [(0, .ref _), (1, .ref _), (2, .int _)]) [1, 2, 0] rfl ?_
  exact b_X3_countOnward_10 C FU _  _ _ _ h
theorem dX3_countHither_0 : decode cX3_countHither 0 = .ok (.iconst 0, 1) := by decide +kernel
theorem dX3_countHither_1 : decode cX3_countHither 1 = .ok (.istore_n 2, 1) := by decide +kernel
theorem dX3_countHither_2 : decode cX3_countHither 2 = .ok (.iload_n 2, 1) := by decide +kernel
theorem dX3_countHither_3 : decode cX3_countHither 3 = .ok (.aload_n 0, 1) := by decide +kernel
theorem dX3_countHither_4 : decode cX3_countHither 4 = .ok (.getfield 34, 3) := by decide +kernel
theorem dX3_countHither_7 : decode cX3_countHither 7 = .ok (.if_icmp .ge 24, 3) := by decide +kernel
theorem dX3_countHither_10 : decode cX3_countHither 10 = .ok (.aload_n 0, 1) := by decide +kernel
theorem dX3_countHither_11 : decode cX3_countHither 11 = .ok (.getfield 25, 3) := by decide +kernel
theorem dX3_countHither_14 : decode cX3_countHither 14 = .ok (.iload_n 2, 1) := by decide +kernel
theorem dX3_countHither_15 : decode cX3_countHither 15 = .ok (.iload_n 2, 1) := by decide +kernel
theorem dX3_countHither_16 : decode cX3_countHither 16 = .ok (.ifCond .ne 7, 3) := by decide +kernel
theorem dX3_countHither_19 : decode cX3_countHither 19 = .ok (.lconst 1, 1) := by decide +kernel
theorem dX3_countHither_20 : decode cX3_countHither 20 = .ok (.goto 4, 3) := by decide +kernel
theorem dX3_countHither_23 : decode cX3_countHither 23 = .ok (.lconst 0, 1) := by decide +kernel
theorem dX3_countHither_24 : decode cX3_countHither 24 = .ok (.lastore, 1) := by decide +kernel
theorem dX3_countHither_25 : decode cX3_countHither 25 = .ok (.iinc 2 1, 3) := by decide +kernel
theorem dX3_countHither_28 : decode cX3_countHither 28 = .ok (.goto (-26), 3) := by decide +kernel
theorem dX3_countHither_31 : decode cX3_countHither 31 = .ok (.iconst 0, 1) := by decide +kernel
theorem dX3_countHither_32 : decode cX3_countHither 32 = .ok (.istore_n 2, 1) := by decide +kernel
theorem dX3_countHither_33 : decode cX3_countHither 33 = .ok (.iload_n 2, 1) := by decide +kernel
theorem dX3_countHither_34 : decode cX3_countHither 34 = .ok (.aload_n 0, 1) := by decide +kernel
theorem dX3_countHither_35 : decode cX3_countHither 35 = .ok (.getfield 9, 3) := by decide +kernel
theorem dX3_countHither_38 : decode cX3_countHither 38 = .ok (.aload_n 1, 1) := by decide +kernel
theorem dX3_countHither_39 : decode cX3_countHither 39 = .ok (.getfield 38, 3) := by decide +kernel
theorem dX3_countHither_42 : decode cX3_countHither 42 = .ok (.iaload, 1) := by decide +kernel
theorem dX3_countHither_43 : decode cX3_countHither 43 = .ok (.if_icmp .ge 55, 3) := by decide +kernel
theorem dX3_countHither_46 : decode cX3_countHither 46 = .ok (.iconst 0, 1) := by decide +kernel
theorem dX3_countHither_47 : decode cX3_countHither 47 = .ok (.istore_n 3, 1) := by decide +kernel
theorem dX3_countHither_48 : decode cX3_countHither 48 = .ok (.iload_n 3, 1) := by decide +kernel
theorem dX3_countHither_49 : decode cX3_countHither 49 = .ok (.iconst 3, 1) := by decide +kernel
theorem dX3_countHither_50 : decode cX3_countHither 50 = .ok (.if_icmp .ge 42, 3) := by decide +kernel
theorem dX3_countHither_53 : decode cX3_countHither 53 = .ok (.aload_n 0, 1) := by decide +kernel
theorem dX3_countHither_54 : decode cX3_countHither 54 = .ok (.getfield 18, 3) := by decide +kernel
theorem dX3_countHither_57 : decode cX3_countHither 57 = .ok (.iload_n 2, 1) := by decide +kernel
theorem dX3_countHither_58 : decode cX3_countHither 58 = .ok (.iconst 3, 1) := by decide +kernel
theorem dX3_countHither_59 : decode cX3_countHither 59 = .ok (.imul, 1) := by decide +kernel
theorem dX3_countHither_60 : decode cX3_countHither 60 = .ok (.iload_n 3, 1) := by decide +kernel
theorem dX3_countHither_61 : decode cX3_countHither 61 = .ok (.iadd, 1) := by decide +kernel
theorem dX3_countHither_62 : decode cX3_countHither 62 = .ok (.iaload, 1) := by decide +kernel
theorem dX3_countHither_63 : decode cX3_countHither 63 = .ok (.istore 4, 2) := by decide +kernel
theorem dX3_countHither_65 : decode cX3_countHither 65 = .ok (.iload 4, 2) := by decide +kernel
theorem dX3_countHither_67 : decode cX3_countHither 67 = .ok (.ifCond .lt 19, 3) := by decide +kernel
theorem dX3_countHither_70 : decode cX3_countHither 70 = .ok (.aload_n 0, 1) := by decide +kernel
theorem dX3_countHither_71 : decode cX3_countHither 71 = .ok (.getfield 25, 3) := by decide +kernel
theorem dX3_countHither_74 : decode cX3_countHither 74 = .ok (.iload 4, 2) := by decide +kernel
theorem dX3_countHither_76 : decode cX3_countHither 76 = .ok (.dup2, 1) := by decide +kernel
theorem dX3_countHither_77 : decode cX3_countHither 77 = .ok (.laload, 1) := by decide +kernel
theorem dX3_countHither_78 : decode cX3_countHither 78 = .ok (.aload_n 0, 1) := by decide +kernel
theorem dX3_countHither_79 : decode cX3_countHither 79 = .ok (.getfield 25, 3) := by decide +kernel
theorem dX3_countHither_82 : decode cX3_countHither 82 = .ok (.iload_n 2, 1) := by decide +kernel
theorem dX3_countHither_83 : decode cX3_countHither 83 = .ok (.laload, 1) := by decide +kernel
theorem dX3_countHither_84 : decode cX3_countHither 84 = .ok (.ladd, 1) := by decide +kernel
theorem dX3_countHither_85 : decode cX3_countHither 85 = .ok (.lastore, 1) := by decide +kernel
theorem dX3_countHither_86 : decode cX3_countHither 86 = .ok (.iinc 3 1, 3) := by decide +kernel
theorem dX3_countHither_89 : decode cX3_countHither 89 = .ok (.goto (-41), 3) := by decide +kernel
theorem dX3_countHither_92 : decode cX3_countHither 92 = .ok (.iinc 2 1, 3) := by decide +kernel
theorem dX3_countHither_95 : decode cX3_countHither 95 = .ok (.goto (-62), 3) := by decide +kernel
theorem dX3_countHither_98 : decode cX3_countHither 98 = .ok (.return_, 1) := by decide +kernel
def f_X3_countHither_86 (k48 : Int32 → Int32 → St → Option (Unit × St)) (x2 : Int32) (x3 : Int32) (σ : St) : Option (Unit × St) :=
  k48 x2 (x3 + 1) σ
set_option maxRecDepth 100000 in
set_option maxHeartbeats 4000000 in
theorem b_X3_countHither_86 {g : Geo} {x : Cx} (C : Ok g x cX3_countHither RX3 5 none rm_X3_countHither) (k48 : Int32 → Int32 → St → Option (Unit × St)) (hk48 : ∀ (x2 : Int32) (x3 : Int32) (τ : St) (r : Unit) (τ' : St), k48 x2 x3 τ = some (r, τ') → V g x (qm g x none τ') 5 τ [(0, .ref (g.1 2)), (1, .ref (g.1 1)), (2, .int x2), (3, .int x3)] [] 48) : ∀ (x2 : Int32) (x3 : Int32) (σ : St) (r : Unit) (σ' : St), f_X3_countHither_86 k48 x2 x3 σ = some (r, σ') → V g x (qm g x none σ') 5 σ [(0, .ref (g.1 2)), (1, .ref (g.1 1)), (2, .int x2), (3, .int x3)] [] 86 := by
  intro x2 x3 σ r σ' h
  unfold f_X3_countHither_86 at h
  refine v_iinc C (v := (x3 + 1)) (lv' := [(3, .int _), (0, .ref _), (1, .ref _), (2, .int _)]) dX3_countHither_86 3 rfl rfl (by decide) rfl ?_
  refine v_goto C (tgt := 48) dX3_countHither_89 (by decide) ?_
  refine V.sub (lv' := [(0, .ref _), (1, .ref _), (2, .int _), (3, .int _)]) [1, 2, 3, 0] rfl ?_
  exact hk48 _ _  _ _ _ h
def f_X3_countHither_48 (k33 : Int32 → St → Option (Unit × St)) : Nat → Int32 → Int32 → St → Option (Unit × St)
  | 0, _, _, _ => none
  | n + 1, x2, x3, σ =>
    if (3 : Int32) ≤ x3 then
      k33 (x2 + 1) σ
    else
      rdI σ 19 ((x2 * (3 : Int32)) + x3) fun v1 =>
      if v1 < 0 then
        f_X3_countHither_86 (f_X3_countHither_48 k33 n) x2 x3 σ
      else
        rdL σ 21 v1 fun v2 =>
        rdL σ 21 x2 fun v3 =>
        wrL σ 21 v1 (v2 + v3) fun σ4 =>
        f_X3_countHither_86 (f_X3_countHither_48 k33 n) x2 x3 σ4
set_option maxRecDepth 100000 in
set_option maxHeartbeats 4000000 in
theorem b_X3_countHither_48 {g : Geo} {x : Cx} (C : Ok g x cX3_countHither RX3 5 none rm_X3_countHither) (k33 : Int32 → St → Option (Unit × St)) (hk33 : ∀ (x2 : Int32) (τ : St) (r : Unit) (τ' : St), k33 x2 τ = some (r, τ') → V g x (qm g x none τ') 5 τ [(0, .ref (g.1 2)), (1, .ref (g.1 1)), (2, .int x2)] [] 33) : ∀ (n : Nat) (x2 : Int32) (x3 : Int32) (σ : St) (r : Unit) (σ' : St), f_X3_countHither_48 k33 n x2 x3 σ = some (r, σ') → V g x (qm g x none σ') 5 σ [(0, .ref (g.1 2)), (1, .ref (g.1 1)), (2, .int x2), (3, .int x3)] [] 48 := by
  intro n
  induction n with
  | zero =>
    intro x2 x3 σ r σ' h
    rw [f_X3_countHither_48] at h
    cases h
  | succ n ih =>
    intro x2 x3 σ r σ' h
    rw [f_X3_countHither_48] at h
    refine v_iload_n C dX3_countHither_48 rfl 3 rfl ?_
    refine v_iconst C (v := (3 : Int32)) dX3_countHither_49 (by decide) ?_
    refine v_icmp_ge C (tgt := 92) dX3_countHither_50 (by decide) (fun q6 => ?_) (fun q6 => ?_)
    · rw [if_pos q6] at h
      refine v_iinc C (v := (x2 + 1)) (lv' := [(2, .int _), (0, .ref _), (1, .ref _), (3, .int _)]) dX3_countHither_92 2 rfl rfl (by decide) rfl ?_
      refine v_goto C (tgt := 33) dX3_countHither_95 (by decide) ?_
      refine V.sub (lv' := [(0, .ref _), (1, .ref _), (2, .int _)]) [1, 2, 0] rfl ?_
      exact hk33 _  _ _ _ h
    · rw [if_neg q6] at h
      refine v_aload_n C dX3_countHither_53 rfl 0 rfl ?_
      refine v_getR C (p' := 19) fl_RX3_18 rfl rfl dX3_countHither_54 ?_
      refine v_iload_n C dX3_countHither_57 rfl 2 rfl ?_
      refine v_iconst C (v := (3 : Int32)) dX3_countHither_58 (by decide) ?_
      refine v_imul C dX3_countHither_59 ?_
      refine v_iload_n C dX3_countHither_60 rfl 3 rfl ?_
      refine v_iadd C dX3_countHither_61 ?_
      obtain ⟨nv1, v1, ev1, h⟩ := rdI_ex h
      refine x_iald C rfl nv1 ev1 dX3_countHither_62 ?_
      refine v_istore C (lv' := [(4, .int _), (0, .ref _), (1, .ref _), (2, .int _), (3, .int _)]) dX3_countHither_63 (by decide) rfl ?_
      refine v_iload C dX3_countHither_65 0 rfl ?_
      refine v_if_lt C (tgt := 86) dX3_countHither_67 (by decide) (fun q5 => ?_) (fun q5 => ?_)
      · rw [if_pos q5] at h
        refine V.sub (lv' := [(0, .ref _), (1, .ref _), (2, .int _), (3, .int _)]) [1, 2, 3, 4] rfl ?_
        exact b_X3_countHither_86 C _ ih _ _  _ _ _ h
      · rw [if_neg q5] at h
        refine v_aload_n C dX3_countHither_70 rfl 1 rfl ?_
        refine v_getR C (p' := 21) fl_RX3_25 rfl rfl dX3_countHither_71 ?_
        refine v_iload C dX3_countHither_74 0 rfl ?_
        refine v_dup2 C dX3_countHither_76 rfl rfl ?_
        obtain ⟨nv2, v2, ev2, h⟩ := rdL_ex h
        refine x_lald C rfl nv2 ev2 dX3_countHither_77 ?_
        refine v_aload_n C dX3_countHither_78 rfl 1 rfl ?_
        refine v_getR C (p' := 21) fl_RX3_25 rfl rfl dX3_countHither_79 ?_
        refine v_iload_n C dX3_countHither_82 rfl 3 rfl ?_
        obtain ⟨nv3, v3, ev3, h⟩ := rdL_ex h
        refine x_lald C rfl nv3 ev3 dX3_countHither_83 ?_
        refine v_ladd C dX3_countHither_84 ?_
        obtain ⟨nσ4, σ4, eσ4, h⟩ := wrL_ex h
        refine x_last C rfl nσ4 eσ4 dX3_countHither_85 ?_
        refine V.sub (lv' := [(0, .ref _), (1, .ref _), (2, .int _), (3, .int _)]) [1, 2, 3, 4] rfl ?_
        exact b_X3_countHither_86 C _ ih _ _  _ _ _ h
def f_X3_countHither_33 : Nat → Int32 → St → Option (Unit × St)
  | 0, _, _ => none
  | n + 1, x2, σ =>
    rdI σ 17 (gi σ 1 2) fun v1 =>
    if v1 ≤ x2 then
      some ((), σ)
    else
      f_X3_countHither_48 (f_X3_countHither_33 n) FU x2 (0 : Int32) σ
set_option maxRecDepth 100000 in
set_option maxHeartbeats 4000000 in
theorem b_X3_countHither_33 {g : Geo} {x : Cx} (C : Ok g x cX3_countHither RX3 5 none rm_X3_countHither) : ∀ (n : Nat) (x2 : Int32) (σ : St) (r : Unit) (σ' : St), f_X3_countHither_33 n x2 σ = some (r, σ') → V g x (qm g x none σ') 5 σ [(0, .ref (g.1 2)), (1, .ref (g.1 1)), (2, .int x2)] [] 33 := by
  intro n
  induction n with
  | zero =>
    intro x2 σ r σ' h
    rw [f_X3_countHither_33] at h
    cases h
  | succ n ih =>
    intro x2 σ r σ' h
    rw [f_X3_countHither_33] at h
    refine v_iload_n C dX3_countHither_33 rfl 2 rfl ?_
    refine v_aload_n C dX3_countHither_34 rfl 0 rfl ?_
    refine v_getR C (p' := 17) fl_RX3_9 rfl rfl dX3_countHither_35 ?_
    refine v_aload_n C dX3_countHither_38 rfl 1 rfl ?_
    refine v_getI C fl_RX3_38 rfl dX3_countHither_39 ?_
    obtain ⟨nv1, v1, ev1, h⟩ := rdI_ex h
    refine x_iald C rfl nv1 ev1 dX3_countHither_42 ?_
    refine v_icmp_ge C (tgt := 98) dX3_countHither_43 (by decide) (fun q2 => ?_) (fun q2 => ?_)
    · rw [if_pos q2] at h
      cases h
      exact v_vret C dX3_countHither_98
    · rw [if_neg q2] at h
      refine v_iconst C (v := (0 : Int32)) dX3_countHither_46 (by decide) ?_
      refine v_istore_n C (lv' := [(3, .int _), (0, .ref _), (1, .ref _), (2, .int _)]) dX3_countHither_47 rfl (by decide) rfl ?_
      refine V.sub (lv' := [(0, .ref _), (1, .ref _), (2, .int _), (3, .int _)]) [1, 2, 3, 0] rfl ?_
      exact b_X3_countHither_48 C _ ih FU _ _  _ _ _ h
def f_X3_countHither_24 (k2 : Int32 → St → Option (Unit × St)) (x2 : Int32) (s1 : Int32) (s2 : Int64) (σ : St) : Option (Unit × St) :=
  wrL σ 21 s1 s2 fun σ1 =>
  k2 (x2 + 1) σ1
set_option maxRecDepth 100000 in
set_option maxHeartbeats 4000000 in
theorem b_X3_countHither_24 {g : Geo} {x : Cx} (C : Ok g x cX3_countHither RX3 5 none rm_X3_countHither) (k2 : Int32 → St → Option (Unit × St)) (hk2 : ∀ (x2 : Int32) (τ : St) (r : Unit) (τ' : St), k2 x2 τ = some (r, τ') → V g x (qm g x none τ') 5 τ [(0, .ref (g.1 2)), (1, .ref (g.1 1)), (2, .int x2)] [] 2) : ∀ (x2 : Int32) (s1 : Int32) (s2 : Int64) (σ : St) (r : Unit) (σ' : St), f_X3_countHither_24 k2 x2 s1 s2 σ = some (r, σ') → V g x (qm g x none σ') 5 σ [(0, .ref (g.1 2)), (1, .ref (g.1 1)), (2, .int x2)] [.long s2, .int s1, .ref (g.1 21)] 24 := by
  intro x2 s1 s2 σ r σ' h
  unfold f_X3_countHither_24 at h
  obtain ⟨nσ1, σ1, eσ1, h⟩ := wrL_ex h
  refine x_last C rfl nσ1 eσ1 dX3_countHither_24 ?_
  refine v_iinc C (v := (x2 + 1)) (lv' := [(2, .int _), (0, .ref _), (1, .ref _)]) dX3_countHither_25 2 rfl rfl (by decide) rfl ?_
  refine v_goto C (tgt := 2) dX3_countHither_28 (by decide) ?_
  refine V.sub (lv' := [(0, .ref _), (1, .ref _), (2, .int _)]) [1, 2, 0] rfl ?_
  exact hk2 _  _ _ _ h
def f_X3_countHither_2 : Nat → Int32 → St → Option (Unit × St)
  | 0, _, _ => none
  | n + 1, x2, σ =>
    if (gi σ 2 7) ≤ x2 then
      f_X3_countHither_33 FU (0 : Int32) σ
    else
      if x2 = 0 then
        f_X3_countHither_24 (f_X3_countHither_2 n) x2 x2 (1 : Int64) σ
      else
        f_X3_countHither_24 (f_X3_countHither_2 n) x2 x2 (0 : Int64) σ
set_option maxRecDepth 100000 in
set_option maxHeartbeats 4000000 in
theorem b_X3_countHither_2 {g : Geo} {x : Cx} (C : Ok g x cX3_countHither RX3 5 none rm_X3_countHither) : ∀ (n : Nat) (x2 : Int32) (σ : St) (r : Unit) (σ' : St), f_X3_countHither_2 n x2 σ = some (r, σ') → V g x (qm g x none σ') 5 σ [(0, .ref (g.1 2)), (1, .ref (g.1 1)), (2, .int x2)] [] 2 := by
  intro n
  induction n with
  | zero =>
    intro x2 σ r σ' h
    rw [f_X3_countHither_2] at h
    cases h
  | succ n ih =>
    intro x2 σ r σ' h
    rw [f_X3_countHither_2] at h
    refine v_iload_n C dX3_countHither_2 rfl 2 rfl ?_
    refine v_aload_n C dX3_countHither_3 rfl 0 rfl ?_
    refine v_getI C fl_RX3_34 rfl dX3_countHither_4 ?_
    refine v_icmp_ge C (tgt := 31) dX3_countHither_7 (by decide) (fun q2 => ?_) (fun q2 => ?_)
    · rw [if_pos q2] at h
      refine v_iconst C (v := (0 : Int32)) dX3_countHither_31 (by decide) ?_
      refine v_istore_n C (lv' := [(2, .int _), (0, .ref _), (1, .ref _)]) dX3_countHither_32 rfl (by decide) rfl ?_
      refine V.sub (lv' := [(0, .ref _), (1, .ref _), (2, .int _)]) [1, 2, 0] rfl ?_
      exact b_X3_countHither_33 C FU _  _ _ _ h
    · rw [if_neg q2] at h
      refine v_aload_n C dX3_countHither_10 rfl 0 rfl ?_
      refine v_getR C (p' := 21) fl_RX3_25 rfl rfl dX3_countHither_11 ?_
      refine v_iload_n C dX3_countHither_14 rfl 2 rfl ?_
      refine v_iload_n C dX3_countHither_15 rfl 2 rfl ?_
      refine v_if_ne C (tgt := 23) dX3_countHither_16 (by decide) (fun q1 => ?_) (fun q1 => ?_)
      · rw [if_neg q1] at h
        refine v_lconst C (v := (0 : Int64)) dX3_countHither_23 (by decide) ?_
        refine V.sub (lv' := [(0, .ref _), (1, .ref _), (2, .int _)]) [0, 1, 2] rfl ?_
        exact b_X3_countHither_24 C _ ih _ _ _  _ _ _ h
      · rw [if_pos q1] at h
        refine v_lconst C (v := (1 : Int64)) dX3_countHither_19 (by decide) ?_
        refine v_goto C (tgt := 24) dX3_countHither_20 (by decide) ?_
        refine V.sub (lv' := [(0, .ref _), (1, .ref _), (2, .int _)]) [0, 1, 2] rfl ?_
        exact b_X3_countHither_24 C _ ih _ _ _  _ _ _ h
def f_X3_countHither (σ : St) : Option (Unit × St) :=
  f_X3_countHither_2 FU (0 : Int32) σ
set_option maxRecDepth 100000 in
set_option maxHeartbeats 4000000 in
theorem c_X3_countHither {g : Geo} {σ : St} {r : Unit} {σ' : St} (h : f_X3_countHither σ = some (r, σ')) : Ct g yX3_countHither cX3_countHither 5 none rm_X3_countHither [.ref (g.1 2), .ref (g.1 1)] σ none σ' := by
  refine ct_of (own := RX3) (by decide) rfl (Nat.le_of_ble_eq_true rfl) (fun x C => ?_) ⟨rfl, rfl⟩
  show V g x _ 5 σ [(0, .ref (g.1 2)), (1, .ref (g.1 1))] [] 0
  unfold f_X3_countHither at h
  refine v_iconst C (v := (0 : Int32)) dX3_countHither_0 (by decide) ?_
  refine v_istore_n C (lv' := [(2, .int _), (0, .ref _), (1, .ref _)]) dX3_countHither_1 rfl (by decide) rfl ?_
  refine V.sub (lv' := [(0, .ref _), (1, .ref _), (2, .int _)]) [1, 2, 0] rfl ?_
  exact b_X3_countHither_2 C FU _  _ _ _ h
theorem dX3_build_0 : decode cX3_build 0 = .ok (.aload_n 0, 1) := by decide +kernel
theorem dX3_build_1 : decode cX3_build 1 = .ok (.iconst 1, 1) := by decide +kernel
theorem dX3_build_2 : decode cX3_build 2 = .ok (.putfield 34, 3) := by decide +kernel
theorem dX3_build_5 : decode cX3_build 5 = .ok (.aload_n 0, 1) := by decide +kernel
theorem dX3_build_6 : decode cX3_build 6 = .ok (.getfield 9, 3) := by decide +kernel
theorem dX3_build_9 : decode cX3_build 9 = .ok (.iconst 0, 1) := by decide +kernel
theorem dX3_build_10 : decode cX3_build 10 = .ok (.iconst 0, 1) := by decide +kernel
theorem dX3_build_11 : decode cX3_build 11 = .ok (.iastore, 1) := by decide +kernel
theorem dX3_build_12 : decode cX3_build 12 = .ok (.aload_n 0, 1) := by decide +kernel
theorem dX3_build_13 : decode cX3_build 13 = .ok (.getfield 15, 3) := by decide +kernel
theorem dX3_build_16 : decode cX3_build 16 = .ok (.iconst 0, 1) := by decide +kernel
theorem dX3_build_17 : decode cX3_build 17 = .ok (.iconst 0, 1) := by decide +kernel
theorem dX3_build_18 : decode cX3_build 18 = .ok (.iastore, 1) := by decide +kernel
theorem dX3_build_19 : decode cX3_build 19 = .ok (.iconst 0, 1) := by decide +kernel
theorem dX3_build_20 : decode cX3_build 20 = .ok (.istore_n 2, 1) := by decide +kernel
theorem dX3_build_21 : decode cX3_build 21 = .ok (.iload_n 2, 1) := by decide +kernel
theorem dX3_build_22 : decode cX3_build 22 = .ok (.aload_n 1, 1) := by decide +kernel
theorem dX3_build_23 : decode cX3_build 23 = .ok (.getfield 38, 3) := by decide +kernel
theorem dX3_build_26 : decode cX3_build 26 = .ok (.if_icmp .ge 97, 3) := by decide +kernel
theorem dX3_build_29 : decode cX3_build 29 = .ok (.aload_n 0, 1) := by decide +kernel
theorem dX3_build_30 : decode cX3_build 30 = .ok (.getfield 9, 3) := by decide +kernel
theorem dX3_build_33 : decode cX3_build 33 = .ok (.iload_n 2, 1) := by decide +kernel
theorem dX3_build_34 : decode cX3_build 34 = .ok (.iconst 1, 1) := by decide +kernel
theorem dX3_build_35 : decode cX3_build 35 = .ok (.iadd, 1) := by decide +kernel
theorem dX3_build_36 : decode cX3_build 36 = .ok (.aload_n 0, 1) := by decide +kernel
theorem dX3_build_37 : decode cX3_build 37 = .ok (.getfield 34, 3) := by decide +kernel
theorem dX3_build_40 : decode cX3_build 40 = .ok (.iastore, 1) := by decide +kernel
theorem dX3_build_41 : decode cX3_build 41 = .ok (.aload_n 0, 1) := by decide +kernel
theorem dX3_build_42 : decode cX3_build 42 = .ok (.getfield 31, 3) := by decide +kernel
theorem dX3_build_45 : decode cX3_build 45 = .ok (.iconst (-1), 1) := by decide +kernel
theorem dX3_build_46 : decode cX3_build 46 = .ok (.invokestatic 43, 3) := by decide +kernel
theorem dX3_build_49 : decode cX3_build 49 = .ok (.aload_n 0, 1) := by decide +kernel
theorem dX3_build_50 : decode cX3_build 50 = .ok (.getfield 9, 3) := by decide +kernel
theorem dX3_build_53 : decode cX3_build 53 = .ok (.iload_n 2, 1) := by decide +kernel
theorem dX3_build_54 : decode cX3_build 54 = .ok (.iaload, 1) := by decide +kernel
theorem dX3_build_55 : decode cX3_build 55 = .ok (.istore_n 3, 1) := by decide +kernel
theorem dX3_build_56 : decode cX3_build 56 = .ok (.iload_n 3, 1) := by decide +kernel
theorem dX3_build_57 : decode cX3_build 57 = .ok (.aload_n 0, 1) := by decide +kernel
theorem dX3_build_58 : decode cX3_build 58 = .ok (.getfield 9, 3) := by decide +kernel
theorem dX3_build_61 : decode cX3_build 61 = .ok (.iload_n 2, 1) := by decide +kernel
theorem dX3_build_62 : decode cX3_build 62 = .ok (.iconst 1, 1) := by decide +kernel
theorem dX3_build_63 : decode cX3_build 63 = .ok (.iadd, 1) := by decide +kernel
theorem dX3_build_64 : decode cX3_build 64 = .ok (.iaload, 1) := by decide +kernel
theorem dX3_build_65 : decode cX3_build 65 = .ok (.if_icmp .ge 52, 3) := by decide +kernel
theorem dX3_build_68 : decode cX3_build 68 = .ok (.iconst 0, 1) := by decide +kernel
theorem dX3_build_69 : decode cX3_build 69 = .ok (.istore 4, 2) := by decide +kernel
theorem dX3_build_71 : decode cX3_build 71 = .ok (.iload 4, 2) := by decide +kernel
theorem dX3_build_73 : decode cX3_build 73 = .ok (.iconst 3, 1) := by decide +kernel
theorem dX3_build_74 : decode cX3_build 74 = .ok (.if_icmp .ge 37, 3) := by decide +kernel
theorem dX3_build_77 : decode cX3_build 77 = .ok (.aload_n 0, 1) := by decide +kernel
theorem dX3_build_78 : decode cX3_build 78 = .ok (.getfield 18, 3) := by decide +kernel
theorem dX3_build_81 : decode cX3_build 81 = .ok (.iload_n 3, 1) := by decide +kernel
theorem dX3_build_82 : decode cX3_build 82 = .ok (.iconst 3, 1) := by decide +kernel
theorem dX3_build_83 : decode cX3_build 83 = .ok (.imul, 1) := by decide +kernel
theorem dX3_build_84 : decode cX3_build 84 = .ok (.iload 4, 2) := by decide +kernel
theorem dX3_build_86 : decode cX3_build 86 = .ok (.iadd, 1) := by decide +kernel
theorem dX3_build_87 : decode cX3_build 87 = .ok (.aload_n 0, 1) := by decide +kernel
theorem dX3_build_88 : decode cX3_build 88 = .ok (.aload_n 1, 1) := by decide +kernel
theorem dX3_build_89 : decode cX3_build 89 = .ok (.iload_n 2, 1) := by decide +kernel
theorem dX3_build_90 : decode cX3_build 90 = .ok (.aload_n 0, 1) := by decide +kernel
theorem dX3_build_91 : decode cX3_build 91 = .ok (.getfield 15, 3) := by decide +kernel
theorem dX3_build_94 : decode cX3_build 94 = .ok (.iload_n 3, 1) := by decide +kernel
theorem dX3_build_95 : decode cX3_build 95 = .ok (.iaload, 1) := by decide +kernel
theorem dX3_build_96 : decode cX3_build 96 = .ok (.iload 4, 2) := by decide +kernel
theorem dX3_build_98 : decode cX3_build 98 = .ok (.invokestatic 49, 3) := by decide +kernel
theorem dX3_build_101 : decode cX3_build 101 = .ok (.invokevirtual 53, 3) := by decide +kernel
theorem dX3_build_104 : decode cX3_build 104 = .ok (.iastore, 1) := by decide +kernel
theorem dX3_build_105 : decode cX3_build 105 = .ok (.iinc 4 1, 3) := by decide +kernel
theorem dX3_build_108 : decode cX3_build 108 = .ok (.goto (-37), 3) := by decide +kernel
theorem dX3_build_111 : decode cX3_build 111 = .ok (.iinc 3 1, 3) := by decide +kernel
theorem dX3_build_114 : decode cX3_build 114 = .ok (.goto (-58), 3) := by decide +kernel
theorem dX3_build_117 : decode cX3_build 117 = .ok (.iinc 2 1, 3) := by decide +kernel
theorem dX3_build_120 : decode cX3_build 120 = .ok (.goto (-99), 3) := by decide +kernel
theorem dX3_build_123 : decode cX3_build 123 = .ok (.aload_n 0, 1) := by decide +kernel
theorem dX3_build_124 : decode cX3_build 124 = .ok (.getfield 9, 3) := by decide +kernel
theorem dX3_build_127 : decode cX3_build 127 = .ok (.aload_n 1, 1) := by decide +kernel
theorem dX3_build_128 : decode cX3_build 128 = .ok (.getfield 38, 3) := by decide +kernel
theorem dX3_build_131 : decode cX3_build 131 = .ok (.iconst 1, 1) := by decide +kernel
theorem dX3_build_132 : decode cX3_build 132 = .ok (.iadd, 1) := by decide +kernel
theorem dX3_build_133 : decode cX3_build 133 = .ok (.aload_n 0, 1) := by decide +kernel
theorem dX3_build_134 : decode cX3_build 134 = .ok (.getfield 34, 3) := by decide +kernel
theorem dX3_build_137 : decode cX3_build 137 = .ok (.iastore, 1) := by decide +kernel
theorem dX3_build_138 : decode cX3_build 138 = .ok (.aload_n 0, 1) := by decide +kernel
theorem dX3_build_139 : decode cX3_build 139 = .ok (.aload_n 1, 1) := by decide +kernel
theorem dX3_build_140 : decode cX3_build 140 = .ok (.invokevirtual 57, 3) := by decide +kernel
theorem dX3_build_143 : decode cX3_build 143 = .ok (.aload_n 0, 1) := by decide +kernel
theorem dX3_build_144 : decode cX3_build 144 = .ok (.aload_n 1, 1) := by decide +kernel
theorem dX3_build_145 : decode cX3_build 145 = .ok (.invokevirtual 61, 3) := by decide +kernel
theorem dX3_build_148 : decode cX3_build 148 = .ok (.return_, 1) := by decide +kernel
def f_X3_build_71 (k56 : Int32 → Int32 → St → Option (Unit × St)) : Nat → Int32 → Int32 → Int32 → St → Option (Unit × St)
  | 0, _, _, _, _ => none
  | n + 1, x2, x3, x4, σ =>
    if (3 : Int32) ≤ x4 then
      k56 x2 (x3 + 1) σ
    else
      rdI σ 18 x3 fun v1 =>
      bd (f_X3_openAfter x2 v1 x4 σ) fun v2 σ3 =>
      bd (f_X3_nodeFor v2 σ3) fun v4 σ5 =>
      wrI σ5 19 ((x3 * (3 : Int32)) + x4) v4 fun σ6 =>
      f_X3_build_71 k56 n x2 x3 (x4 + 1) σ6
set_option maxRecDepth 100000 in
set_option maxHeartbeats 4000000 in
theorem b_X3_build_71 {g : Geo} {x : Cx} (C : Ok g x cX3_build RX3 5 none rm_X3_build) (k56 : Int32 → Int32 → St → Option (Unit × St)) (hk56 : ∀ (x2 : Int32) (x3 : Int32) (τ : St) (r : Unit) (τ' : St), k56 x2 x3 τ = some (r, τ') → V g x (qm g x none τ') 5 τ [(0, .ref (g.1 2)), (1, .ref (g.1 1)), (2, .int x2), (3, .int x3)] [] 56) : ∀ (n : Nat) (x2 : Int32) (x3 : Int32) (x4 : Int32) (σ : St) (r : Unit) (σ' : St), f_X3_build_71 k56 n x2 x3 x4 σ = some (r, σ') → V g x (qm g x none σ') 5 σ [(0, .ref (g.1 2)), (1, .ref (g.1 1)), (2, .int x2), (3, .int x3), (4, .int x4)] [] 71 := by
  intro n
  induction n with
  | zero =>
    intro x2 x3 x4 σ r σ' h
    rw [f_X3_build_71] at h
    cases h
  | succ n ih =>
    intro x2 x3 x4 σ r σ' h
    rw [f_X3_build_71] at h
    refine v_iload C dX3_build_71 4 rfl ?_
    refine v_iconst C (v := (3 : Int32)) dX3_build_73 (by decide) ?_
    refine v_icmp_ge C (tgt := 111) dX3_build_74 (by decide) (fun q7 => ?_) (fun q7 => ?_)
    · rw [if_pos q7] at h
      refine v_iinc C (v := (x3 + 1)) (lv' := [(3, .int _), (0, .ref _), (1, .ref _), (2, .int _), (4, .int _)]) dX3_build_111 3 rfl rfl (by decide) rfl ?_
      refine v_goto C (tgt := 56) dX3_build_114 (by decide) ?_
      refine V.sub (lv' := [(0, .ref _), (1, .ref _), (2, .int _), (3, .int _)]) [1, 2, 3, 0] rfl ?_
      exact hk56 _ _  _ _ _ h
    · rw [if_neg q7] at h
      refine v_aload_n C dX3_build_77 rfl 0 rfl ?_
      refine v_getR C (p' := 19) fl_RX3_18 rfl rfl dX3_build_78 ?_
      refine v_iload_n C dX3_build_81 rfl 3 rfl ?_
      refine v_iconst C (v := (3 : Int32)) dX3_build_82 (by decide) ?_
      refine v_imul C dX3_build_83 ?_
      refine v_iload C dX3_build_84 4 rfl ?_
      refine v_iadd C dX3_build_86 ?_
      refine v_aload_n C dX3_build_87 rfl 0 rfl ?_
      refine v_aload_n C dX3_build_88 rfl 1 rfl ?_
      refine v_iload_n C dX3_build_89 rfl 2 rfl ?_
      refine v_aload_n C dX3_build_90 rfl 0 rfl ?_
      refine v_getR C (p' := 18) fl_RX3_15 rfl rfl dX3_build_91 ?_
      refine v_iload_n C dX3_build_94 rfl 3 rfl ?_
      obtain ⟨nv1, v1, ev1, h⟩ := rdI_ex h
      refine x_iald C rfl nv1 ev1 dX3_build_95 ?_
      refine v_iload C dX3_build_96 4 rfl ?_
      obtain ⟨v2, σ3, cσ3, h⟩ := bd_some h
      refine callSi C (c_X3_openAfter cσ3) km_X3_openAfter ks_X3_openAfter ml_RX3_49 rfl rfl (by decide) (Nat.le_of_ble_eq_true rfl) dX3_build_98 ?_
      obtain ⟨v4, σ5, cσ5, h⟩ := bd_some h
      refine callVi C (c_X3_nodeFor cσ5) km_X3_nodeFor kv_X3_nodeFor rfl ml_RX3_53 rfl rfl (by decide) (Nat.le_of_ble_eq_true rfl) dX3_build_101 ?_
      obtain ⟨nσ6, σ6, eσ6, h⟩ := wrI_ex h
      refine x_iast C rfl nσ6 eσ6 dX3_build_104 ?_
      refine v_iinc C (v := (x4 + 1)) (lv' := [(4, .int _), (0, .ref _), (1, .ref _), (2, .int _), (3, .int _)]) dX3_build_105 4 rfl rfl (by decide) rfl ?_
      refine v_goto C (tgt := 71) dX3_build_108 (by decide) ?_
      refine V.sub (lv' := [(0, .ref _), (1, .ref _), (2, .int _), (3, .int _), (4, .int _)]) [1, 2, 3, 4, 0] rfl ?_
      exact ih _ _ _  _ _ _ h
def f_X3_build_56 (k21 : Int32 → St → Option (Unit × St)) : Nat → Int32 → Int32 → St → Option (Unit × St)
  | 0, _, _, _ => none
  | n + 1, x2, x3, σ =>
    rdI σ 17 (x2 + (1 : Int32)) fun v1 =>
    if v1 ≤ x3 then
      k21 (x2 + 1) σ
    else
      f_X3_build_71 (f_X3_build_56 k21 n) FU x2 x3 (0 : Int32) σ
set_option maxRecDepth 100000 in
set_option maxHeartbeats 4000000 in
theorem b_X3_build_56 {g : Geo} {x : Cx} (C : Ok g x cX3_build RX3 5 none rm_X3_build) (k21 : Int32 → St → Option (Unit × St)) (hk21 : ∀ (x2 : Int32) (τ : St) (r : Unit) (τ' : St), k21 x2 τ = some (r, τ') → V g x (qm g x none τ') 5 τ [(0, .ref (g.1 2)), (1, .ref (g.1 1)), (2, .int x2)] [] 21) : ∀ (n : Nat) (x2 : Int32) (x3 : Int32) (σ : St) (r : Unit) (σ' : St), f_X3_build_56 k21 n x2 x3 σ = some (r, σ') → V g x (qm g x none σ') 5 σ [(0, .ref (g.1 2)), (1, .ref (g.1 1)), (2, .int x2), (3, .int x3)] [] 56 := by
  intro n
  induction n with
  | zero =>
    intro x2 x3 σ r σ' h
    rw [f_X3_build_56] at h
    cases h
  | succ n ih =>
    intro x2 x3 σ r σ' h
    rw [f_X3_build_56] at h
    refine v_iload_n C dX3_build_56 rfl 3 rfl ?_
    refine v_aload_n C dX3_build_57 rfl 0 rfl ?_
    refine v_getR C (p' := 17) fl_RX3_9 rfl rfl dX3_build_58 ?_
    refine v_iload_n C dX3_build_61 rfl 2 rfl ?_
    refine v_iconst C (v := (1 : Int32)) dX3_build_62 (by decide) ?_
    refine v_iadd C dX3_build_63 ?_
    obtain ⟨nv1, v1, ev1, h⟩ := rdI_ex h
    refine x_iald C rfl nv1 ev1 dX3_build_64 ?_
    refine v_icmp_ge C (tgt := 117) dX3_build_65 (by decide) (fun q2 => ?_) (fun q2 => ?_)
    · rw [if_pos q2] at h
      refine v_iinc C (v := (x2 + 1)) (lv' := [(2, .int _), (0, .ref _), (1, .ref _), (3, .int _)]) dX3_build_117 2 rfl rfl (by decide) rfl ?_
      refine v_goto C (tgt := 21) dX3_build_120 (by decide) ?_
      refine V.sub (lv' := [(0, .ref _), (1, .ref _), (2, .int _)]) [1, 2, 0] rfl ?_
      exact hk21 _  _ _ _ h
    · rw [if_neg q2] at h
      refine v_iconst C (v := (0 : Int32)) dX3_build_68 (by decide) ?_
      refine v_istore C (lv' := [(4, .int _), (0, .ref _), (1, .ref _), (2, .int _), (3, .int _)]) dX3_build_69 (by decide) rfl ?_
      refine V.sub (lv' := [(0, .ref _), (1, .ref _), (2, .int _), (3, .int _), (4, .int _)]) [1, 2, 3, 4, 0] rfl ?_
      exact b_X3_build_71 C _ ih FU _ _ _  _ _ _ h
def f_X3_build_21 : Nat → Int32 → St → Option (Unit × St)
  | 0, _, _ => none
  | n + 1, x2, σ =>
    if (gi σ 1 2) ≤ x2 then
      wrI σ 17 ((gi σ 1 2) + (1 : Int32)) (gi σ 2 7) fun σ1 =>
      bd (f_X3_countOnward σ1) fun _ σ3 =>
      bd (f_X3_countHither σ3) fun _ σ5 =>
      some ((), σ5)
    else
      wrI σ 17 (x2 + (1 : Int32)) (gi σ 2 7) fun σ6 =>
      bd (f_J7_fill_53178 23 (-1 : Int32) σ6) fun _ σ8 =>
      rdI σ8 17 x2 fun v9 =>
      f_X3_build_56 (f_X3_build_21 n) FU x2 v9 σ8
set_option maxRecDepth 100000 in
set_option maxHeartbeats 4000000 in
theorem b_X3_build_21 {g : Geo} {x : Cx} (C : Ok g x cX3_build RX3 5 none rm_X3_build) : ∀ (n : Nat) (x2 : Int32) (σ : St) (r : Unit) (σ' : St), f_X3_build_21 n x2 σ = some (r, σ') → V g x (qm g x none σ') 5 σ [(0, .ref (g.1 2)), (1, .ref (g.1 1)), (2, .int x2)] [] 21 := by
  intro n
  induction n with
  | zero =>
    intro x2 σ r σ' h
    rw [f_X3_build_21] at h
    cases h
  | succ n ih =>
    intro x2 σ r σ' h
    rw [f_X3_build_21] at h
    refine v_iload_n C dX3_build_21 rfl 2 rfl ?_
    refine v_aload_n C dX3_build_22 rfl 1 rfl ?_
    refine v_getI C fl_RX3_38 rfl dX3_build_23 ?_
    refine v_icmp_ge C (tgt := 123) dX3_build_26 (by decide) (fun q10 => ?_) (fun q10 => ?_)
    · rw [if_pos q10] at h
      refine v_aload_n C dX3_build_123 rfl 0 rfl ?_
      refine v_getR C (p' := 17) fl_RX3_9 rfl rfl dX3_build_124 ?_
      refine v_aload_n C dX3_build_127 rfl 1 rfl ?_
      refine v_getI C fl_RX3_38 rfl dX3_build_128 ?_
      refine v_iconst C (v := (1 : Int32)) dX3_build_131 (by decide) ?_
      refine v_iadd C dX3_build_132 ?_
      refine v_aload_n C dX3_build_133 rfl 0 rfl ?_
      refine v_getI C fl_RX3_34 rfl dX3_build_134 ?_
      obtain ⟨nσ1, σ1, eσ1, h⟩ := wrI_ex h
      refine x_iast C rfl nσ1 eσ1 dX3_build_137 ?_
      refine v_aload_n C dX3_build_138 rfl 0 rfl ?_
      refine v_aload_n C dX3_build_139 rfl 1 rfl ?_
      obtain ⟨v2, σ3, cσ3, h⟩ := bd_some h
      refine callVv C (c_X3_countOnward cσ3) km_X3_countOnward kv_X3_countOnward rfl ml_RX3_57 rfl rfl (by decide) (Nat.le_of_ble_eq_true rfl) dX3_build_140 ?_
      refine v_aload_n C dX3_build_143 rfl 0 rfl ?_
      refine v_aload_n C dX3_build_144 rfl 1 rfl ?_
      obtain ⟨v4, σ5, cσ5, h⟩ := bd_some h
      refine callVv C (c_X3_countHither cσ5) km_X3_countHither kv_X3_countHither rfl ml_RX3_61 rfl rfl (by decide) (Nat.le_of_ble_eq_true rfl) dX3_build_145 ?_
      cases h
      exact v_vret C dX3_build_148
    · rw [if_neg q10] at h
      refine v_aload_n C dX3_build_29 rfl 0 rfl ?_
      refine v_getR C (p' := 17) fl_RX3_9 rfl rfl dX3_build_30 ?_
      refine v_iload_n C dX3_build_33 rfl 2 rfl ?_
      refine v_iconst C (v := (1 : Int32)) dX3_build_34 (by decide) ?_
      refine v_iadd C dX3_build_35 ?_
      refine v_aload_n C dX3_build_36 rfl 0 rfl ?_
      refine v_getI C fl_RX3_34 rfl dX3_build_37 ?_
      obtain ⟨nσ6, σ6, eσ6, h⟩ := wrI_ex h
      refine x_iast C rfl nσ6 eσ6 dX3_build_40 ?_
      refine v_aload_n C dX3_build_41 rfl 0 rfl ?_
      refine v_getR C (p' := 23) fl_RX3_31 rfl rfl dX3_build_42 ?_
      refine v_iconst C (v := (-1 : Int32)) dX3_build_45 (by decide) ?_
      obtain ⟨v7, σ8, cσ8, h⟩ := bd_some h
      refine callSv C (c_J7_fill_53178 rfl cσ8) km_J7_fill_53178 ks_J7_fill_53178 ml_RX3_43 rfl rfl (by decide) (Nat.le_of_ble_eq_true rfl) dX3_build_46 ?_
      refine v_aload_n C dX3_build_49 rfl 0 rfl ?_
      refine v_getR C (p' := 17) fl_RX3_9 rfl rfl dX3_build_50 ?_
      refine v_iload_n C dX3_build_53 rfl 2 rfl ?_
      obtain ⟨nv9, v9, ev9, h⟩ := rdI_ex h
      refine x_iald C rfl nv9 ev9 dX3_build_54 ?_
      refine v_istore_n C (lv' := [(3, .int _), (0, .ref _), (1, .ref _), (2, .int _)]) dX3_build_55 rfl (by decide) rfl ?_
      refine V.sub (lv' := [(0, .ref _), (1, .ref _), (2, .int _), (3, .int _)]) [1, 2, 3, 0] rfl ?_
      exact b_X3_build_56 C _ ih FU _ _  _ _ _ h
def f_X3_build (σ : St) : Option (Unit × St) :=
  fI σ 2 7 (1 : Int32) fun σ1 =>
  wrI σ1 17 (0 : Int32) (0 : Int32) fun σ2 =>
  wrI σ2 18 (0 : Int32) (0 : Int32) fun σ3 =>
  f_X3_build_21 FU (0 : Int32) σ3
set_option maxRecDepth 100000 in
set_option maxHeartbeats 4000000 in
theorem c_X3_build {g : Geo} {σ : St} {r : Unit} {σ' : St} (h : f_X3_build σ = some (r, σ')) : Ct g yX3_build cX3_build 5 none rm_X3_build [.ref (g.1 2), .ref (g.1 1)] σ none σ' := by
  refine ct_of (own := RX3) (by decide) rfl (Nat.le_of_ble_eq_true rfl) (fun x C => ?_) ⟨rfl, rfl⟩
  show V g x _ 5 σ [(0, .ref (g.1 2)), (1, .ref (g.1 1))] [] 0
  unfold f_X3_build at h
  refine v_aload_n C dX3_build_0 rfl 0 rfl ?_
  refine v_iconst C (v := (1 : Int32)) dX3_build_1 (by decide) ?_
  obtain ⟨σ1, eσ1, h⟩ := fI_ex h
  refine x_putI C fl_RX3_34 fw_3_7 rfl eσ1 dX3_build_2 ?_
  refine v_aload_n C dX3_build_5 rfl 0 rfl ?_
  refine v_getR C (p' := 17) fl_RX3_9 rfl rfl dX3_build_6 ?_
  refine v_iconst C (v := (0 : Int32)) dX3_build_9 (by decide) ?_
  refine v_iconst C (v := (0 : Int32)) dX3_build_10 (by decide) ?_
  obtain ⟨nσ2, σ2, eσ2, h⟩ := wrI_ex h
  refine x_iast C rfl nσ2 eσ2 dX3_build_11 ?_
  refine v_aload_n C dX3_build_12 rfl 0 rfl ?_
  refine v_getR C (p' := 18) fl_RX3_15 rfl rfl dX3_build_13 ?_
  refine v_iconst C (v := (0 : Int32)) dX3_build_16 (by decide) ?_
  refine v_iconst C (v := (0 : Int32)) dX3_build_17 (by decide) ?_
  obtain ⟨nσ3, σ3, eσ3, h⟩ := wrI_ex h
  refine x_iast C rfl nσ3 eσ3 dX3_build_18 ?_
  refine v_iconst C (v := (0 : Int32)) dX3_build_19 (by decide) ?_
  refine v_istore_n C (lv' := [(2, .int _), (0, .ref _), (1, .ref _)]) dX3_build_20 rfl (by decide) rfl ?_
  refine V.sub (lv' := [(0, .ref _), (1, .ref _), (2, .int _)]) [1, 2, 0] rfl ?_
  exact b_X3_build_21 C FU _  _ _ _ h
theorem dX3_total_0 : decode cX3_total 0 = .ok (.aload_n 0, 1) := by decide +kernel
theorem dX3_total_1 : decode cX3_total 1 = .ok (.getfield 21, 3) := by decide +kernel
theorem dX3_total_4 : decode cX3_total 4 = .ok (.iconst 0, 1) := by decide +kernel
theorem dX3_total_5 : decode cX3_total 5 = .ok (.laload, 1) := by decide +kernel
theorem dX3_total_6 : decode cX3_total 6 = .ok (.lreturn, 1) := by decide +kernel
def f_X3_total (σ : St) : Option (Int64 × St) :=
  rdL σ 20 (0 : Int32) fun v1 =>
  some (v1, σ)
set_option maxRecDepth 100000 in
set_option maxHeartbeats 4000000 in
theorem c_X3_total {g : Geo} {σ : St} {r : Int64} {σ' : St} (h : f_X3_total σ = some (r, σ')) : Ct g yX3_total cX3_total 1 (some .long) rm_X3_total [.ref (g.1 2)] σ (some (.long r)) σ' := by
  refine ct_of (own := RX3) (by decide) rfl (Nat.le_of_ble_eq_true rfl) (fun x C => ?_) ⟨rfl, rfl⟩
  show V g x _ 1 σ [(0, .ref (g.1 2))] [] 0
  unfold f_X3_total at h
  refine v_aload_n C dX3_total_0 rfl 0 rfl ?_
  refine v_getR C (p' := 20) fl_RX3_21 rfl rfl dX3_total_1 ?_
  refine v_iconst C (v := (0 : Int32)) dX3_total_4 (by decide) ?_
  obtain ⟨nv1, v1, ev1, h⟩ := rdL_ex h
  refine x_lald C rfl nv1 ev1 dX3_total_5 ?_
  cases h
  exact v_lret C dX3_total_6
