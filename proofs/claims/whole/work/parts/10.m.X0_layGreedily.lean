/-! ===== printed: X0_layGreedily, X0_downsBeside, X0_mates, X0_search, X0_mateOf, X2_put, X0_shift, X0_solve, J13_bitCount_95d88, X0_joined, X1_pointBit, X1_findInner, X1_shape, X1_shapeHexagon, X1_hasTriangle, X1_hasCell, X1_hasPoint ===== -/
theorem dX0_layGreedily_0 : decode cX0_layGreedily 0 = .ok (.aload_n 0, 1) := by decide +kernel
theorem dX0_layGreedily_1 : decode cX0_layGreedily 1 = .ok (.getfield 12, 3) := by decide +kernel
theorem dX0_layGreedily_4 : decode cX0_layGreedily 4 = .ok (.aload_n 1, 1) := by decide +kernel
theorem dX0_layGreedily_5 : decode cX0_layGreedily 5 = .ok (.getfield 53, 3) := by decide +kernel
theorem dX0_layGreedily_8 : decode cX0_layGreedily 8 = .ok (.aload_n 1, 1) := by decide +kernel
theorem dX0_layGreedily_9 : decode cX0_layGreedily 9 = .ok (.getfield 58, 3) := by decide +kernel
theorem dX0_layGreedily_12 : decode cX0_layGreedily 12 = .ok (.land, 1) := by decide +kernel
theorem dX0_layGreedily_13 : decode cX0_layGreedily 13 = .ok (.putfield 38, 3) := by decide +kernel
theorem dX0_layGreedily_16 : decode cX0_layGreedily 16 = .ok (.aload_n 1, 1) := by decide +kernel
theorem dX0_layGreedily_17 : decode cX0_layGreedily 17 = .ok (.getfield 53, 3) := by decide +kernel
theorem dX0_layGreedily_20 : decode cX0_layGreedily 20 = .ok (.aload_n 0, 1) := by decide +kernel
theorem dX0_layGreedily_21 : decode cX0_layGreedily 21 = .ok (.getfield 12, 3) := by decide +kernel
theorem dX0_layGreedily_24 : decode cX0_layGreedily 24 = .ok (.getfield 38, 3) := by decide +kernel
theorem dX0_layGreedily_27 : decode cX0_layGreedily 27 = .ok (.ldc2_w 61, 3) := by decide +kernel
theorem dX0_layGreedily_30 : decode cX0_layGreedily 30 = .ok (.lxor, 1) := by decide +kernel
theorem dX0_layGreedily_31 : decode cX0_layGreedily 31 = .ok (.land, 1) := by decide +kernel
theorem dX0_layGreedily_32 : decode cX0_layGreedily 32 = .ok (.lstore_n 2, 1) := by decide +kernel
theorem dX0_layGreedily_33 : decode cX0_layGreedily 33 = .ok (.aload_n 1, 1) := by decide +kernel
theorem dX0_layGreedily_34 : decode cX0_layGreedily 34 = .ok (.getfield 58, 3) := by decide +kernel
theorem dX0_layGreedily_37 : decode cX0_layGreedily 37 = .ok (.aload_n 0, 1) := by decide +kernel
theorem dX0_layGreedily_38 : decode cX0_layGreedily 38 = .ok (.getfield 12, 3) := by decide +kernel
theorem dX0_layGreedily_41 : decode cX0_layGreedily 41 = .ok (.getfield 38, 3) := by decide +kernel
theorem dX0_layGreedily_44 : decode cX0_layGreedily 44 = .ok (.ldc2_w 61, 3) := by decide +kernel
theorem dX0_layGreedily_47 : decode cX0_layGreedily 47 = .ok (.lxor, 1) := by decide +kernel
theorem dX0_layGreedily_48 : decode cX0_layGreedily 48 = .ok (.land, 1) := by decide +kernel
theorem dX0_layGreedily_49 : decode cX0_layGreedily 49 = .ok (.lstore 4, 2) := by decide +kernel
theorem dX0_layGreedily_51 : decode cX0_layGreedily 51 = .ok (.aload_n 0, 1) := by decide +kernel
theorem dX0_layGreedily_52 : decode cX0_layGreedily 52 = .ok (.getfield 12, 3) := by decide +kernel
theorem dX0_layGreedily_55 : decode cX0_layGreedily 55 = .ok (.lload_n 2, 1) := by decide +kernel
theorem dX0_layGreedily_56 : decode cX0_layGreedily 56 = .ok (.aload_n 1, 1) := by decide +kernel
theorem dX0_layGreedily_57 : decode cX0_layGreedily 57 = .ok (.getfield 63, 3) := by decide +kernel
theorem dX0_layGreedily_60 : decode cX0_layGreedily 60 = .ok (.land, 1) := by decide +kernel
theorem dX0_layGreedily_61 : decode cX0_layGreedily 61 = .ok (.lload 4, 2) := by decide +kernel
theorem dX0_layGreedily_63 : decode cX0_layGreedily 63 = .ok (.iconst 1, 1) := by decide +kernel
theorem dX0_layGreedily_64 : decode cX0_layGreedily 64 = .ok (.lshl, 1) := by decide +kernel
theorem dX0_layGreedily_65 : decode cX0_layGreedily 65 = .ok (.land, 1) := by decide +kernel
theorem dX0_layGreedily_66 : decode cX0_layGreedily 66 = .ok (.putfield 41, 3) := by decide +kernel
theorem dX0_layGreedily_69 : decode cX0_layGreedily 69 = .ok (.aload_n 0, 1) := by decide +kernel
theorem dX0_layGreedily_70 : decode cX0_layGreedily 70 = .ok (.getfield 12, 3) := by decide +kernel
theorem dX0_layGreedily_73 : decode cX0_layGreedily 73 = .ok (.lload_n 2, 1) := by decide +kernel
theorem dX0_layGreedily_74 : decode cX0_layGreedily 74 = .ok (.aload_n 0, 1) := by decide +kernel
theorem dX0_layGreedily_75 : decode cX0_layGreedily 75 = .ok (.getfield 12, 3) := by decide +kernel
theorem dX0_layGreedily_78 : decode cX0_layGreedily 78 = .ok (.getfield 41, 3) := by decide +kernel
theorem dX0_layGreedily_81 : decode cX0_layGreedily 81 = .ok (.ldc2_w 61, 3) := by decide +kernel
theorem dX0_layGreedily_84 : decode cX0_layGreedily 84 = .ok (.lxor, 1) := by decide +kernel
theorem dX0_layGreedily_85 : decode cX0_layGreedily 85 = .ok (.land, 1) := by decide +kernel
theorem dX0_layGreedily_86 : decode cX0_layGreedily 86 = .ok (.lload 4, 2) := by decide +kernel
theorem dX0_layGreedily_88 : decode cX0_layGreedily 88 = .ok (.aload_n 0, 1) := by decide +kernel
theorem dX0_layGreedily_89 : decode cX0_layGreedily 89 = .ok (.getfield 12, 3) := by decide +kernel
theorem dX0_layGreedily_92 : decode cX0_layGreedily 92 = .ok (.getfield 41, 3) := by decide +kernel
theorem dX0_layGreedily_95 : decode cX0_layGreedily 95 = .ok (.iconst 1, 1) := by decide +kernel
theorem dX0_layGreedily_96 : decode cX0_layGreedily 96 = .ok (.lushr, 1) := by decide +kernel
theorem dX0_layGreedily_97 : decode cX0_layGreedily 97 = .ok (.ldc2_w 61, 3) := by decide +kernel
theorem dX0_layGreedily_100 : decode cX0_layGreedily 100 = .ok (.lxor, 1) := by decide +kernel
theorem dX0_layGreedily_101 : decode cX0_layGreedily 101 = .ok (.land, 1) := by decide +kernel
theorem dX0_layGreedily_102 : decode cX0_layGreedily 102 = .ok (.aload_n 1, 1) := by decide +kernel
theorem dX0_layGreedily_103 : decode cX0_layGreedily 103 = .ok (.getfield 66, 3) := by decide +kernel
theorem dX0_layGreedily_106 : decode cX0_layGreedily 106 = .ok (.lshl, 1) := by decide +kernel
theorem dX0_layGreedily_107 : decode cX0_layGreedily 107 = .ok (.land, 1) := by decide +kernel
theorem dX0_layGreedily_108 : decode cX0_layGreedily 108 = .ok (.putfield 44, 3) := by decide +kernel
theorem dX0_layGreedily_111 : decode cX0_layGreedily 111 = .ok (.return_, 1) := by decide +kernel
def f_X0_layGreedily (σ : St) : Option (Unit × St) :=
  fL σ 13 1 ((gl σ 1 3) &&& (gl σ 1 4)) fun σ1 =>
  fL σ1 13 2 ((((gl σ1 1 3) &&& ((gl σ1 13 1) ^^^ (-1 : Int64))) &&& (gl σ1 1 5)) &&& (lshl ((gl σ1 1 4) &&& ((gl σ1 13 1) ^^^ (-1 : Int64))) (1 : Int32))) fun σ2 =>
  fL σ2 13 3 ((((gl σ1 1 3) &&& ((gl σ1 13 1) ^^^ (-1 : Int64))) &&& ((gl σ2 13 2) ^^^ (-1 : Int64))) &&& (lshl (((gl σ1 1 4) &&& ((gl σ1 13 1) ^^^ (-1 : Int64))) &&& ((lushr (gl σ2 13 2) (1 : Int32)) ^^^ (-1 : Int64))) (gi σ2 1 0))) fun σ3 =>
  some ((), σ3)
set_option maxRecDepth 100000 in
set_option maxHeartbeats 4000000 in
theorem c_X0_layGreedily {g : Geo} {σ : St} {r : Unit} {σ' : St} (h : f_X0_layGreedily σ = some (r, σ')) : Ct g yX0_layGreedily cX0_layGreedily 6 none rm_X0_layGreedily [.ref (g.1 3), .ref (g.1 1)] σ none σ' := by
  refine ct_of (own := RX0) (by decide) rfl (Nat.le_of_ble_eq_true rfl) (fun x C => ?_) ⟨rfl, rfl⟩
  show V g x _ 6 σ [(0, .ref (g.1 3)), (1, .ref (g.1 1))] [] 0
  unfold f_X0_layGreedily at h
  refine v_aload_n C dX0_layGreedily_0 rfl 0 rfl ?_
  refine v_getR C (p' := 13) fl_RX0_12 rfl rfl dX0_layGreedily_1 ?_
  refine v_aload_n C dX0_layGreedily_4 rfl 1 rfl ?_
  refine v_getL C fl_RX0_53 rfl dX0_layGreedily_5 ?_
  refine v_aload_n C dX0_layGreedily_8 rfl 1 rfl ?_
  refine v_getL C fl_RX0_58 rfl dX0_layGreedily_9 ?_
  refine v_land C dX0_layGreedily_12 ?_
  obtain ⟨σ1, eσ1, h⟩ := fL_ex h
  refine x_putL C fl_RX0_38 fw_2_1 rfl eσ1 dX0_layGreedily_13 ?_
  refine v_aload_n C dX0_layGreedily_16 rfl 1 rfl ?_
  refine v_getL C fl_RX0_53 rfl dX0_layGreedily_17 ?_
  refine v_aload_n C dX0_layGreedily_20 rfl 0 rfl ?_
  refine v_getR C (p' := 13) fl_RX0_12 rfl rfl dX0_layGreedily_21 ?_
  refine v_getL C fl_RX0_38 rfl dX0_layGreedily_24 ?_
  refine v_ldc2_w C (v := (-1 : Int64)) conl_RX0_61 dX0_layGreedily_27 ?_
  refine v_lxor C dX0_layGreedily_30 ?_
  refine v_land C dX0_layGreedily_31 ?_
  refine v_lstore_n C (lv' := [(2, .long _), (0, .ref _), (1, .ref _)]) dX0_layGreedily_32 rfl (by decide) rfl ?_
  refine v_aload_n C dX0_layGreedily_33 rfl 2 rfl ?_
  refine v_getL C fl_RX0_58 rfl dX0_layGreedily_34 ?_
  refine v_aload_n C dX0_layGreedily_37 rfl 1 rfl ?_
  refine v_getR C (p' := 13) fl_RX0_12 rfl rfl dX0_layGreedily_38 ?_
  refine v_getL C fl_RX0_38 rfl dX0_layGreedily_41 ?_
  refine v_ldc2_w C (v := (-1 : Int64)) conl_RX0_61 dX0_layGreedily_44 ?_
  refine v_lxor C dX0_layGreedily_47 ?_
  refine v_land C dX0_layGreedily_48 ?_
  refine v_lstore C (lv' := [(4, .long _), (2, .long _), (0, .ref _), (1, .ref _)]) dX0_layGreedily_49 (by decide) rfl ?_
  refine v_aload_n C dX0_layGreedily_51 rfl 2 rfl ?_
  refine v_getR C (p' := 13) fl_RX0_12 rfl rfl dX0_layGreedily_52 ?_
  refine v_lload_n C dX0_layGreedily_55 rfl 1 rfl ?_
  refine v_aload_n C dX0_layGreedily_56 rfl 3 rfl ?_
  refine v_getL C fl_RX0_63 rfl dX0_layGreedily_57 ?_
  refine v_land C dX0_layGreedily_60 ?_
  refine v_lload C dX0_layGreedily_61 0 rfl ?_
  refine v_iconst C (v := (1 : Int32)) dX0_layGreedily_63 (by decide) ?_
  refine v_lshl C dX0_layGreedily_64 ?_
  refine v_land C dX0_layGreedily_65 ?_
  obtain ⟨σ2, eσ2, h⟩ := fL_ex h
  refine x_putL C fl_RX0_41 fw_2_2 rfl eσ2 dX0_layGreedily_66 ?_
  refine v_aload_n C dX0_layGreedily_69 rfl 2 rfl ?_
  refine v_getR C (p' := 13) fl_RX0_12 rfl rfl dX0_layGreedily_70 ?_
  refine v_lload_n C dX0_layGreedily_73 rfl 1 rfl ?_
  refine v_aload_n C dX0_layGreedily_74 rfl 2 rfl ?_
  refine v_getR C (p' := 13) fl_RX0_12 rfl rfl dX0_layGreedily_75 ?_
  refine v_getL C fl_RX0_41 rfl dX0_layGreedily_78 ?_
  refine v_ldc2_w C (v := (-1 : Int64)) conl_RX0_61 dX0_layGreedily_81 ?_
  refine v_lxor C dX0_layGreedily_84 ?_
  refine v_land C dX0_layGreedily_85 ?_
  refine v_lload C dX0_layGreedily_86 0 rfl ?_
  refine v_aload_n C dX0_layGreedily_88 rfl 2 rfl ?_
  refine v_getR C (p' := 13) fl_RX0_12 rfl rfl dX0_layGreedily_89 ?_
  refine v_getL C fl_RX0_41 rfl dX0_layGreedily_92 ?_
  refine v_iconst C (v := (1 : Int32)) dX0_layGreedily_95 (by decide) ?_
  refine v_lushr C dX0_layGreedily_96 ?_
  refine v_ldc2_w C (v := (-1 : Int64)) conl_RX0_61 dX0_layGreedily_97 ?_
  refine v_lxor C dX0_layGreedily_100 ?_
  refine v_land C dX0_layGreedily_101 ?_
  refine v_aload_n C dX0_layGreedily_102 rfl 3 rfl ?_
  refine v_getI C fl_RX0_66 rfl dX0_layGreedily_103 ?_
  refine v_lshl C dX0_layGreedily_106 ?_
  refine v_land C dX0_layGreedily_107 ?_
  obtain ⟨σ3, eσ3, h⟩ := fL_ex h
  refine x_putL C fl_RX0_44 fw_2_3 rfl eσ3 dX0_layGreedily_108 ?_
  cases h
  exact v_vret C dX0_layGreedily_111
theorem dX0_downsBeside_0 : decode cX0_downsBeside 0 = .ok (.aload_n 0, 1) := by decide +kernel
theorem dX0_downsBeside_1 : decode cX0_downsBeside 1 = .ok (.getfield 58, 3) := by decide +kernel
theorem dX0_downsBeside_4 : decode cX0_downsBeside 4 = .ok (.lload_n 1, 1) := by decide +kernel
theorem dX0_downsBeside_5 : decode cX0_downsBeside 5 = .ok (.lload_n 1, 1) := by decide +kernel
theorem dX0_downsBeside_6 : decode cX0_downsBeside 6 = .ok (.aload_n 0, 1) := by decide +kernel
theorem dX0_downsBeside_7 : decode cX0_downsBeside 7 = .ok (.getfield 63, 3) := by decide +kernel
theorem dX0_downsBeside_10 : decode cX0_downsBeside 10 = .ok (.land, 1) := by decide +kernel
theorem dX0_downsBeside_11 : decode cX0_downsBeside 11 = .ok (.iconst 1, 1) := by decide +kernel
theorem dX0_downsBeside_12 : decode cX0_downsBeside 12 = .ok (.lushr, 1) := by decide +kernel
theorem dX0_downsBeside_13 : decode cX0_downsBeside 13 = .ok (.lor, 1) := by decide +kernel
theorem dX0_downsBeside_14 : decode cX0_downsBeside 14 = .ok (.lload_n 1, 1) := by decide +kernel
theorem dX0_downsBeside_15 : decode cX0_downsBeside 15 = .ok (.aload_n 0, 1) := by decide +kernel
theorem dX0_downsBeside_16 : decode cX0_downsBeside 16 = .ok (.getfield 66, 3) := by decide +kernel
theorem dX0_downsBeside_19 : decode cX0_downsBeside 19 = .ok (.lushr, 1) := by decide +kernel
theorem dX0_downsBeside_20 : decode cX0_downsBeside 20 = .ok (.lor, 1) := by decide +kernel
theorem dX0_downsBeside_21 : decode cX0_downsBeside 21 = .ok (.land, 1) := by decide +kernel
theorem dX0_downsBeside_22 : decode cX0_downsBeside 22 = .ok (.lreturn, 1) := by decide +kernel
def f_X0_downsBeside (a2 : Int64) (σ : St) : Option (Int64 × St) :=
  some (((gl σ 1 4) &&& ((a2 ||| (lushr (a2 &&& (gl σ 1 5)) (1 : Int32))) ||| (lushr a2 (gi σ 1 0)))), σ)
set_option maxRecDepth 100000 in
set_option maxHeartbeats 4000000 in
theorem c_X0_downsBeside {g : Geo} {a2 : Int64} {σ : St} {r : Int64} {σ' : St} (h : f_X0_downsBeside a2 σ = some (r, σ')) : Ct g yX0_downsBeside cX0_downsBeside 3 (some .long) rm_X0_downsBeside [.ref (g.1 1), .long a2] σ (some (.long r)) σ' := by
  refine ct_of (own := RX0) (by decide) rfl (Nat.le_of_ble_eq_true rfl) (fun x C => ?_) ⟨rfl, rfl⟩
  show V g x _ 3 σ [(0, .ref (g.1 1)), (1, .long a2)] [] 0
  unfold f_X0_downsBeside at h
  refine v_aload_n C dX0_downsBeside_0 rfl 0 rfl ?_
  refine v_getL C fl_RX0_58 rfl dX0_downsBeside_1 ?_
  refine v_lload_n C dX0_downsBeside_4 rfl 1 rfl ?_
  refine v_lload_n C dX0_downsBeside_5 rfl 1 rfl ?_
  refine v_aload_n C dX0_downsBeside_6 rfl 0 rfl ?_
  refine v_getL C fl_RX0_63 rfl dX0_downsBeside_7 ?_
  refine v_land C dX0_downsBeside_10 ?_
  refine v_iconst C (v := (1 : Int32)) dX0_downsBeside_11 (by decide) ?_
  refine v_lushr C dX0_downsBeside_12 ?_
  refine v_lor C dX0_downsBeside_13 ?_
  refine v_lload_n C dX0_downsBeside_14 rfl 1 rfl ?_
  refine v_aload_n C dX0_downsBeside_15 rfl 0 rfl ?_
  refine v_getI C fl_RX0_66 rfl dX0_downsBeside_16 ?_
  refine v_lushr C dX0_downsBeside_19 ?_
  refine v_lor C dX0_downsBeside_20 ?_
  refine v_land C dX0_downsBeside_21 ?_
  cases h
  exact v_lret C dX0_downsBeside_22
theorem dX0_mates_0 : decode cX0_mates 0 = .ok (.aload_n 0, 1) := by decide +kernel
theorem dX0_mates_1 : decode cX0_mates 1 = .ok (.getfield 12, 3) := by decide +kernel
theorem dX0_mates_4 : decode cX0_mates 4 = .ok (.getfield 38, 3) := by decide +kernel
theorem dX0_mates_7 : decode cX0_mates 7 = .ok (.lload_n 2, 1) := by decide +kernel
theorem dX0_mates_8 : decode cX0_mates 8 = .ok (.land, 1) := by decide +kernel
theorem dX0_mates_9 : decode cX0_mates 9 = .ok (.aload_n 0, 1) := by decide +kernel
theorem dX0_mates_10 : decode cX0_mates 10 = .ok (.getfield 12, 3) := by decide +kernel
theorem dX0_mates_13 : decode cX0_mates 13 = .ok (.getfield 41, 3) := by decide +kernel
theorem dX0_mates_16 : decode cX0_mates 16 = .ok (.lload_n 2, 1) := by decide +kernel
theorem dX0_mates_17 : decode cX0_mates 17 = .ok (.iconst 1, 1) := by decide +kernel
theorem dX0_mates_18 : decode cX0_mates 18 = .ok (.lshl, 1) := by decide +kernel
theorem dX0_mates_19 : decode cX0_mates 19 = .ok (.land, 1) := by decide +kernel
theorem dX0_mates_20 : decode cX0_mates 20 = .ok (.lor, 1) := by decide +kernel
theorem dX0_mates_21 : decode cX0_mates 21 = .ok (.aload_n 0, 1) := by decide +kernel
theorem dX0_mates_22 : decode cX0_mates 22 = .ok (.getfield 12, 3) := by decide +kernel
theorem dX0_mates_25 : decode cX0_mates 25 = .ok (.getfield 44, 3) := by decide +kernel
theorem dX0_mates_28 : decode cX0_mates 28 = .ok (.lload_n 2, 1) := by decide +kernel
theorem dX0_mates_29 : decode cX0_mates 29 = .ok (.aload_n 1, 1) := by decide +kernel
theorem dX0_mates_30 : decode cX0_mates 30 = .ok (.getfield 66, 3) := by decide +kernel
theorem dX0_mates_33 : decode cX0_mates 33 = .ok (.lshl, 1) := by decide +kernel
theorem dX0_mates_34 : decode cX0_mates 34 = .ok (.land, 1) := by decide +kernel
theorem dX0_mates_35 : decode cX0_mates 35 = .ok (.lor, 1) := by decide +kernel
theorem dX0_mates_36 : decode cX0_mates 36 = .ok (.lreturn, 1) := by decide +kernel
def f_X0_mates (a2 : Int64) (σ : St) : Option (Int64 × St) :=
  some (((((gl σ 13 1) &&& a2) ||| ((gl σ 13 2) &&& (lshl a2 (1 : Int32)))) ||| ((gl σ 13 3) &&& (lshl a2 (gi σ 1 0)))), σ)
set_option maxRecDepth 100000 in
set_option maxHeartbeats 4000000 in
theorem c_X0_mates {g : Geo} {a2 : Int64} {σ : St} {r : Int64} {σ' : St} (h : f_X0_mates a2 σ = some (r, σ')) : Ct g yX0_mates cX0_mates 4 (some .long) rm_X0_mates [.ref (g.1 3), .ref (g.1 1), .long a2] σ (some (.long r)) σ' := by
  refine ct_of (own := RX0) (by decide) rfl (Nat.le_of_ble_eq_true rfl) (fun x C => ?_) ⟨rfl, rfl⟩
  show V g x _ 4 σ [(0, .ref (g.1 3)), (1, .ref (g.1 1)), (2, .long a2)] [] 0
  unfold f_X0_mates at h
  refine v_aload_n C dX0_mates_0 rfl 0 rfl ?_
  refine v_getR C (p' := 13) fl_RX0_12 rfl rfl dX0_mates_1 ?_
  refine v_getL C fl_RX0_38 rfl dX0_mates_4 ?_
  refine v_lload_n C dX0_mates_7 rfl 2 rfl ?_
  refine v_land C dX0_mates_8 ?_
  refine v_aload_n C dX0_mates_9 rfl 0 rfl ?_
  refine v_getR C (p' := 13) fl_RX0_12 rfl rfl dX0_mates_10 ?_
  refine v_getL C fl_RX0_41 rfl dX0_mates_13 ?_
  refine v_lload_n C dX0_mates_16 rfl 2 rfl ?_
  refine v_iconst C (v := (1 : Int32)) dX0_mates_17 (by decide) ?_
  refine v_lshl C dX0_mates_18 ?_
  refine v_land C dX0_mates_19 ?_
  refine v_lor C dX0_mates_20 ?_
  refine v_aload_n C dX0_mates_21 rfl 0 rfl ?_
  refine v_getR C (p' := 13) fl_RX0_12 rfl rfl dX0_mates_22 ?_
  refine v_getL C fl_RX0_44 rfl dX0_mates_25 ?_
  refine v_lload_n C dX0_mates_28 rfl 2 rfl ?_
  refine v_aload_n C dX0_mates_29 rfl 1 rfl ?_
  refine v_getI C fl_RX0_66 rfl dX0_mates_30 ?_
  refine v_lshl C dX0_mates_33 ?_
  refine v_land C dX0_mates_34 ?_
  refine v_lor C dX0_mates_35 ?_
  cases h
  exact v_lret C dX0_mates_36
theorem dX0_search_0 : decode cX0_search 0 = .ok (.aload_n 1, 1) := by decide +kernel
theorem dX0_search_1 : decode cX0_search 1 = .ok (.getfield 58, 3) := by decide +kernel
theorem dX0_search_4 : decode cX0_search 4 = .ok (.aload_n 0, 1) := by decide +kernel
theorem dX0_search_5 : decode cX0_search 5 = .ok (.getfield 12, 3) := by decide +kernel
theorem dX0_search_8 : decode cX0_search 8 = .ok (.getfield 38, 3) := by decide +kernel
theorem dX0_search_11 : decode cX0_search 11 = .ok (.aload_n 0, 1) := by decide +kernel
theorem dX0_search_12 : decode cX0_search 12 = .ok (.getfield 12, 3) := by decide +kernel
theorem dX0_search_15 : decode cX0_search 15 = .ok (.getfield 41, 3) := by decide +kernel
theorem dX0_search_18 : decode cX0_search 18 = .ok (.iconst 1, 1) := by decide +kernel
theorem dX0_search_19 : decode cX0_search 19 = .ok (.lushr, 1) := by decide +kernel
theorem dX0_search_20 : decode cX0_search 20 = .ok (.lor, 1) := by decide +kernel
theorem dX0_search_21 : decode cX0_search 21 = .ok (.aload_n 0, 1) := by decide +kernel
theorem dX0_search_22 : decode cX0_search 22 = .ok (.getfield 12, 3) := by decide +kernel
theorem dX0_search_25 : decode cX0_search 25 = .ok (.getfield 44, 3) := by decide +kernel
theorem dX0_search_28 : decode cX0_search 28 = .ok (.aload_n 1, 1) := by decide +kernel
theorem dX0_search_29 : decode cX0_search 29 = .ok (.getfield 66, 3) := by decide +kernel
theorem dX0_search_32 : decode cX0_search 32 = .ok (.lushr, 1) := by decide +kernel
theorem dX0_search_33 : decode cX0_search 33 = .ok (.lor, 1) := by decide +kernel
theorem dX0_search_34 : decode cX0_search 34 = .ok (.ldc2_w 61, 3) := by decide +kernel
theorem dX0_search_37 : decode cX0_search 37 = .ok (.lxor, 1) := by decide +kernel
theorem dX0_search_38 : decode cX0_search 38 = .ok (.land, 1) := by decide +kernel
theorem dX0_search_39 : decode cX0_search 39 = .ok (.lstore_n 2, 1) := by decide +kernel
theorem dX0_search_40 : decode cX0_search 40 = .ok (.aload_n 1, 1) := by decide +kernel
theorem dX0_search_41 : decode cX0_search 41 = .ok (.getfield 53, 3) := by decide +kernel
theorem dX0_search_44 : decode cX0_search 44 = .ok (.aload_n 0, 1) := by decide +kernel
theorem dX0_search_45 : decode cX0_search 45 = .ok (.getfield 12, 3) := by decide +kernel
theorem dX0_search_48 : decode cX0_search 48 = .ok (.getfield 38, 3) := by decide +kernel
theorem dX0_search_51 : decode cX0_search 51 = .ok (.aload_n 0, 1) := by decide +kernel
theorem dX0_search_52 : decode cX0_search 52 = .ok (.getfield 12, 3) := by decide +kernel
theorem dX0_search_55 : decode cX0_search 55 = .ok (.getfield 41, 3) := by decide +kernel
theorem dX0_search_58 : decode cX0_search 58 = .ok (.lor, 1) := by decide +kernel
theorem dX0_search_59 : decode cX0_search 59 = .ok (.aload_n 0, 1) := by decide +kernel
theorem dX0_search_60 : decode cX0_search 60 = .ok (.getfield 12, 3) := by decide +kernel
theorem dX0_search_63 : decode cX0_search 63 = .ok (.getfield 44, 3) := by decide +kernel
theorem dX0_search_66 : decode cX0_search 66 = .ok (.lor, 1) := by decide +kernel
theorem dX0_search_67 : decode cX0_search 67 = .ok (.ldc2_w 61, 3) := by decide +kernel
theorem dX0_search_70 : decode cX0_search 70 = .ok (.lxor, 1) := by decide +kernel
theorem dX0_search_71 : decode cX0_search 71 = .ok (.land, 1) := by decide +kernel
theorem dX0_search_72 : decode cX0_search 72 = .ok (.lstore 4, 2) := by decide +kernel
theorem dX0_search_74 : decode cX0_search 74 = .ok (.aload_n 0, 1) := by decide +kernel
theorem dX0_search_75 : decode cX0_search 75 = .ok (.getfield 18, 3) := by decide +kernel
theorem dX0_search_78 : decode cX0_search 78 = .ok (.iconst 0, 1) := by decide +kernel
theorem dX0_search_79 : decode cX0_search 79 = .ok (.lload 4, 2) := by decide +kernel
theorem dX0_search_81 : decode cX0_search 81 = .ok (.lastore, 1) := by decide +kernel
theorem dX0_search_82 : decode cX0_search 82 = .ok (.iconst 0, 1) := by decide +kernel
theorem dX0_search_83 : decode cX0_search 83 = .ok (.istore 6, 2) := by decide +kernel
theorem dX0_search_85 : decode cX0_search 85 = .ok (.iload 6, 2) := by decide +kernel
theorem dX0_search_87 : decode cX0_search 87 = .ok (.bipush 64, 2) := by decide +kernel
theorem dX0_search_89 : decode cX0_search 89 = .ok (.if_icmp .ge 96, 3) := by decide +kernel
theorem dX0_search_92 : decode cX0_search 92 = .ok (.aload_n 0, 1) := by decide +kernel
theorem dX0_search_93 : decode cX0_search 93 = .ok (.getfield 18, 3) := by decide +kernel
theorem dX0_search_96 : decode cX0_search 96 = .ok (.iload 6, 2) := by decide +kernel
theorem dX0_search_98 : decode cX0_search 98 = .ok (.laload, 1) := by decide +kernel
theorem dX0_search_99 : decode cX0_search 99 = .ok (.lconst 0, 1) := by decide +kernel
theorem dX0_search_100 : decode cX0_search 100 = .ok (.lcmp, 1) := by decide +kernel
theorem dX0_search_101 : decode cX0_search 101 = .ok (.ifCond .eq 84, 3) := by decide +kernel
theorem dX0_search_104 : decode cX0_search 104 = .ok (.aload_n 1, 1) := by decide +kernel
theorem dX0_search_105 : decode cX0_search 105 = .ok (.aload_n 0, 1) := by decide +kernel
theorem dX0_search_106 : decode cX0_search 106 = .ok (.getfield 18, 3) := by decide +kernel
theorem dX0_search_109 : decode cX0_search 109 = .ok (.iload 6, 2) := by decide +kernel
theorem dX0_search_111 : decode cX0_search 111 = .ok (.laload, 1) := by decide +kernel
theorem dX0_search_112 : decode cX0_search 112 = .ok (.invokestatic 70, 3) := by decide +kernel
theorem dX0_search_115 : decode cX0_search 115 = .ok (.lstore 7, 2) := by decide +kernel
theorem dX0_search_117 : decode cX0_search 117 = .ok (.lload 7, 2) := by decide +kernel
theorem dX0_search_119 : decode cX0_search 119 = .ok (.lload_n 2, 1) := by decide +kernel
theorem dX0_search_120 : decode cX0_search 120 = .ok (.land, 1) := by decide +kernel
theorem dX0_search_121 : decode cX0_search 121 = .ok (.lconst 0, 1) := by decide +kernel
theorem dX0_search_122 : decode cX0_search 122 = .ok (.lcmp, 1) := by decide +kernel
theorem dX0_search_123 : decode cX0_search 123 = .ok (.ifCond .eq 19, 3) := by decide +kernel
theorem dX0_search_126 : decode cX0_search 126 = .ok (.aload_n 0, 1) := by decide +kernel
theorem dX0_search_127 : decode cX0_search 127 = .ok (.getfield 18, 3) := by decide +kernel
theorem dX0_search_130 : decode cX0_search 130 = .ok (.iload 6, 2) := by decide +kernel
theorem dX0_search_132 : decode cX0_search 132 = .ok (.iconst 1, 1) := by decide +kernel
theorem dX0_search_133 : decode cX0_search 133 = .ok (.iadd, 1) := by decide +kernel
theorem dX0_search_134 : decode cX0_search 134 = .ok (.lload 7, 2) := by decide +kernel
theorem dX0_search_136 : decode cX0_search 136 = .ok (.lload_n 2, 1) := by decide +kernel
theorem dX0_search_137 : decode cX0_search 137 = .ok (.land, 1) := by decide +kernel
theorem dX0_search_138 : decode cX0_search 138 = .ok (.lastore, 1) := by decide +kernel
theorem dX0_search_139 : decode cX0_search 139 = .ok (.iload 6, 2) := by decide +kernel
theorem dX0_search_141 : decode cX0_search 141 = .ok (.ireturn, 1) := by decide +kernel
theorem dX0_search_142 : decode cX0_search 142 = .ok (.aload_n 0, 1) := by decide +kernel
theorem dX0_search_143 : decode cX0_search 143 = .ok (.getfield 18, 3) := by decide +kernel
theorem dX0_search_146 : decode cX0_search 146 = .ok (.iload 6, 2) := by decide +kernel
theorem dX0_search_148 : decode cX0_search 148 = .ok (.iconst 1, 1) := by decide +kernel
theorem dX0_search_149 : decode cX0_search 149 = .ok (.iadd, 1) := by decide +kernel
theorem dX0_search_150 : decode cX0_search 150 = .ok (.aload_n 0, 1) := by decide +kernel
theorem dX0_search_151 : decode cX0_search 151 = .ok (.aload_n 1, 1) := by decide +kernel
theorem dX0_search_152 : decode cX0_search 152 = .ok (.lload 7, 2) := by decide +kernel
theorem dX0_search_154 : decode cX0_search 154 = .ok (.invokevirtual 74, 3) := by decide +kernel
theorem dX0_search_157 : decode cX0_search 157 = .ok (.lload 4, 2) := by decide +kernel
theorem dX0_search_159 : decode cX0_search 159 = .ok (.ldc2_w 61, 3) := by decide +kernel
theorem dX0_search_162 : decode cX0_search 162 = .ok (.lxor, 1) := by decide +kernel
theorem dX0_search_163 : decode cX0_search 163 = .ok (.land, 1) := by decide +kernel
theorem dX0_search_164 : decode cX0_search 164 = .ok (.lastore, 1) := by decide +kernel
theorem dX0_search_165 : decode cX0_search 165 = .ok (.lload 4, 2) := by decide +kernel
theorem dX0_search_167 : decode cX0_search 167 = .ok (.aload_n 0, 1) := by decide +kernel
theorem dX0_search_168 : decode cX0_search 168 = .ok (.getfield 18, 3) := by decide +kernel
theorem dX0_search_171 : decode cX0_search 171 = .ok (.iload 6, 2) := by decide +kernel
theorem dX0_search_173 : decode cX0_search 173 = .ok (.iconst 1, 1) := by decide +kernel
theorem dX0_search_174 : decode cX0_search 174 = .ok (.iadd, 1) := by decide +kernel
theorem dX0_search_175 : decode cX0_search 175 = .ok (.laload, 1) := by decide +kernel
theorem dX0_search_176 : decode cX0_search 176 = .ok (.lor, 1) := by decide +kernel
theorem dX0_search_177 : decode cX0_search 177 = .ok (.lstore 4, 2) := by decide +kernel
theorem dX0_search_179 : decode cX0_search 179 = .ok (.iinc 6 1, 3) := by decide +kernel
theorem dX0_search_182 : decode cX0_search 182 = .ok (.goto (-97), 3) := by decide +kernel
theorem dX0_search_185 : decode cX0_search 185 = .ok (.aload_n 0, 1) := by decide +kernel
theorem dX0_search_186 : decode cX0_search 186 = .ok (.lload 4, 2) := by decide +kernel
theorem dX0_search_188 : decode cX0_search 188 = .ok (.putfield 26, 3) := by decide +kernel
theorem dX0_search_191 : decode cX0_search 191 = .ok (.iconst (-1), 1) := by decide +kernel
theorem dX0_search_192 : decode cX0_search 192 = .ok (.ireturn, 1) := by decide +kernel
def f_X0_search_185 (x4 : Int64) (σ : St) : Option (Int32 × St) :=
  fL σ 3 2 x4 fun σ1 =>
  some ((-1 : Int32), σ1)
set_option maxRecDepth 100000 in
set_option maxHeartbeats 4000000 in
theorem b_X0_search_185 {g : Geo} {x : Cx} (C : Ok g x cX0_search RX0 9 (some .int) rm_X0_search) : ∀ (x4 : Int64) (σ : St) (r : Int32) (σ' : St), f_X0_search_185 x4 σ = some (r, σ') → V g x (qm g x (some (.int r)) σ') 9 σ [(0, .ref (g.1 3)), (4, .long x4)] [] 185 := by
  intro x4 σ r σ' h
  unfold f_X0_search_185 at h
  refine v_aload_n C dX0_search_185 rfl 0 rfl ?_
  refine v_lload C dX0_search_186 1 rfl ?_
  obtain ⟨σ1, eσ1, h⟩ := fL_ex h
  refine x_putL C fl_RX0_26 fw_0_2 rfl eσ1 dX0_search_188 ?_
  refine v_iconst C (v := (-1 : Int32)) dX0_search_191 (by decide) ?_
  cases h
  exact v_iret C dX0_search_192
def f_X0_search_85 : Nat → Int64 → Int64 → Int32 → St → Option (Int32 × St)
  | 0, _, _, _, _ => none
  | n + 1, x2, x4, x6, σ =>
    if (64 : Int32) ≤ x6 then
      f_X0_search_185 x4 σ
    else
      rdL σ 25 x6 fun v1 =>
      if v1 = (0 : Int64) then
        f_X0_search_185 x4 σ
      else
        rdL σ 25 x6 fun v2 =>
        bd (f_X0_downsBeside v2 σ) fun v3 σ4 =>
        if (v3 &&& x2) = (0 : Int64) then
          bd (f_X0_mates v3 σ4) fun v5 σ6 =>
          wrL σ6 25 (x6 + (1 : Int32)) (v5 &&& (x4 ^^^ (-1 : Int64))) fun σ7 =>
          rdL σ7 25 (x6 + (1 : Int32)) fun v8 =>
          f_X0_search_85 n x2 (x4 ||| v8) (x6 + 1) σ7
        else
          wrL σ4 25 (x6 + (1 : Int32)) (v3 &&& x2) fun σ9 =>
          some (x6, σ9)
set_option maxRecDepth 100000 in
set_option maxHeartbeats 4000000 in
theorem b_X0_search_85 {g : Geo} {x : Cx} (C : Ok g x cX0_search RX0 9 (some .int) rm_X0_search) : ∀ (n : Nat) (x2 : Int64) (x4 : Int64) (x6 : Int32) (σ : St) (r : Int32) (σ' : St), f_X0_search_85 n x2 x4 x6 σ = some (r, σ') → V g x (qm g x (some (.int r)) σ') 9 σ [(0, .ref (g.1 3)), (1, .ref (g.1 1)), (2, .long x2), (4, .long x4), (6, .int x6)] [] 85 := by
  intro n
  induction n with
  | zero =>
    intro x2 x4 x6 σ r σ' h
    rw [f_X0_search_85] at h
    cases h
  | succ n ih =>
    intro x2 x4 x6 σ r σ' h
    rw [f_X0_search_85] at h
    refine v_iload C dX0_search_85 4 rfl ?_
    refine v_bipush C (v := (64 : Int32)) dX0_search_87 (by decide) ?_
    refine v_icmp_ge C (tgt := 185) dX0_search_89 (by decide) (fun q12 => ?_) (fun q12 => ?_)
    · rw [if_pos q12] at h
      refine V.sub (lv' := [(0, .ref _), (4, .long _)]) [0, 3] rfl ?_
      exact b_X0_search_185 C _  _ _ _ h
    · rw [if_neg q12] at h
      refine v_aload_n C dX0_search_92 rfl 0 rfl ?_
      refine v_getR C (p' := 25) fl_RX0_18 rfl rfl dX0_search_93 ?_
      refine v_iload C dX0_search_96 4 rfl ?_
      obtain ⟨nv1, v1, ev1, h⟩ := rdL_ex h
      refine x_lald C rfl nv1 ev1 dX0_search_98 ?_
      refine v_lconst C (v := (0 : Int64)) dX0_search_99 (by decide) ?_
      refine v_lcmp_eq C (tgt := 185) dX0_search_100 dX0_search_101 (by decide) (fun q11 => ?_) (fun q11 => ?_)
      · rw [if_pos q11] at h
        refine V.sub (lv' := [(0, .ref _), (4, .long _)]) [0, 3] rfl ?_
        exact b_X0_search_185 C _  _ _ _ h
      · rw [if_neg q11] at h
        refine v_aload_n C dX0_search_104 rfl 1 rfl ?_
        refine v_aload_n C dX0_search_105 rfl 0 rfl ?_
        refine v_getR C (p' := 25) fl_RX0_18 rfl rfl dX0_search_106 ?_
        refine v_iload C dX0_search_109 4 rfl ?_
        obtain ⟨nv2, v2, ev2, h⟩ := rdL_ex h
        refine x_lald C rfl nv2 ev2 dX0_search_111 ?_
        obtain ⟨v3, σ4, cσ4, h⟩ := bd_some h
        refine callSl C (c_X0_downsBeside cσ4) km_X0_downsBeside ks_X0_downsBeside ml_RX0_70 rfl rfl (by decide) (Nat.le_of_ble_eq_true rfl) dX0_search_112 ?_
        refine v_lstore C (lv' := [(7, .long _), (0, .ref _), (1, .ref _), (2, .long _), (4, .long _), (6, .int _)]) dX0_search_115 (by decide) rfl ?_
        refine v_lload C dX0_search_117 0 rfl ?_
        refine v_lload_n C dX0_search_119 rfl 3 rfl ?_
        refine v_land C dX0_search_120 ?_
        refine v_lconst C (v := (0 : Int64)) dX0_search_121 (by decide) ?_
        refine v_lcmp_eq C (tgt := 142) dX0_search_122 dX0_search_123 (by decide) (fun q10 => ?_) (fun q10 => ?_)
        · rw [if_pos q10] at h
          refine v_aload_n C dX0_search_142 rfl 1 rfl ?_
          refine v_getR C (p' := 25) fl_RX0_18 rfl rfl dX0_search_143 ?_
          refine v_iload C dX0_search_146 5 rfl ?_
          refine v_iconst C (v := (1 : Int32)) dX0_search_148 (by decide) ?_
          refine v_iadd C dX0_search_149 ?_
          refine v_aload_n C dX0_search_150 rfl 1 rfl ?_
          refine v_aload_n C dX0_search_151 rfl 2 rfl ?_
          refine v_lload C dX0_search_152 0 rfl ?_
          obtain ⟨v5, σ6, cσ6, h⟩ := bd_some h
          refine callVl C (c_X0_mates cσ6) km_X0_mates kv_X0_mates rfl ml_RX0_74 rfl rfl (by decide) (Nat.le_of_ble_eq_true rfl) dX0_search_154 ?_
          refine v_lload C dX0_search_157 4 rfl ?_
          refine v_ldc2_w C (v := (-1 : Int64)) conl_RX0_61 dX0_search_159 ?_
          refine v_lxor C dX0_search_162 ?_
          refine v_land C dX0_search_163 ?_
          obtain ⟨nσ7, σ7, eσ7, h⟩ := wrL_ex h
          refine x_last C rfl nσ7 eσ7 dX0_search_164 ?_
          refine v_lload C dX0_search_165 4 rfl ?_
          refine v_aload_n C dX0_search_167 rfl 1 rfl ?_
          refine v_getR C (p' := 25) fl_RX0_18 rfl rfl dX0_search_168 ?_
          refine v_iload C dX0_search_171 5 rfl ?_
          refine v_iconst C (v := (1 : Int32)) dX0_search_173 (by decide) ?_
          refine v_iadd C dX0_search_174 ?_
          obtain ⟨nv8, v8, ev8, h⟩ := rdL_ex h
          refine x_lald C rfl nv8 ev8 dX0_search_175 ?_
          refine v_lor C dX0_search_176 ?_
          refine v_lstore C (lv' := [(4, .long _), (7, .long _), (0, .ref _), (1, .ref _), (2, .long _), (6, .int _)]) dX0_search_177 (by decide) rfl ?_
          refine v_iinc C (v := (x6 + 1)) (lv' := [(6, .int _), (4, .long _), (7, .long _), (0, .ref _), (1, .ref _), (2, .long _)]) dX0_search_179 5 rfl rfl (by decide) rfl ?_
          refine v_goto C (tgt := 85) dX0_search_182 (by decide) ?_
          refine V.sub (lv' := [(0, .ref _), (1, .ref _), (2, .long _), (4, .long _), (6, .int _)]) [3, 4, 5, 1, 0] rfl ?_
          exact ih _ _ _  _ _ _ h
        · rw [if_neg q10] at h
          refine v_aload_n C dX0_search_126 rfl 1 rfl ?_
          refine v_getR C (p' := 25) fl_RX0_18 rfl rfl dX0_search_127 ?_
          refine v_iload C dX0_search_130 5 rfl ?_
          refine v_iconst C (v := (1 : Int32)) dX0_search_132 (by decide) ?_
          refine v_iadd C dX0_search_133 ?_
          refine v_lload C dX0_search_134 0 rfl ?_
          refine v_lload_n C dX0_search_136 rfl 3 rfl ?_
          refine v_land C dX0_search_137 ?_
          obtain ⟨nσ9, σ9, eσ9, h⟩ := wrL_ex h
          refine x_last C rfl nσ9 eσ9 dX0_search_138 ?_
          refine v_iload C dX0_search_139 5 rfl ?_
          cases h
          exact v_iret C dX0_search_141
def f_X0_search (σ : St) : Option (Int32 × St) :=
  wrL σ 25 (0 : Int32) ((gl σ 1 3) &&& ((((gl σ 13 1) ||| (gl σ 13 2)) ||| (gl σ 13 3)) ^^^ (-1 : Int64))) fun σ1 =>
  f_X0_search_85 FU ((gl σ 1 4) &&& ((((gl σ 13 1) ||| (lushr (gl σ 13 2) (1 : Int32))) ||| (lushr (gl σ 13 3) (gi σ 1 0))) ^^^ (-1 : Int64))) ((gl σ 1 3) &&& ((((gl σ 13 1) ||| (gl σ 13 2)) ||| (gl σ 13 3)) ^^^ (-1 : Int64))) (0 : Int32) σ1
set_option maxRecDepth 100000 in
set_option maxHeartbeats 4000000 in
theorem c_X0_search {g : Geo} {σ : St} {r : Int32} {σ' : St} (h : f_X0_search σ = some (r, σ')) : Ct g yX0_search cX0_search 9 (some .int) rm_X0_search [.ref (g.1 3), .ref (g.1 1)] σ (some (.int r)) σ' := by
  refine ct_of (own := RX0) (by decide) rfl (Nat.le_of_ble_eq_true rfl) (fun x C => ?_) ⟨rfl, rfl⟩
  show V g x _ 9 σ [(0, .ref (g.1 3)), (1, .ref (g.1 1))] [] 0
  unfold f_X0_search at h
  refine v_aload_n C dX0_search_0 rfl 1 rfl ?_
  refine v_getL C fl_RX0_58 rfl dX0_search_1 ?_
  refine v_aload_n C dX0_search_4 rfl 0 rfl ?_
  refine v_getR C (p' := 13) fl_RX0_12 rfl rfl dX0_search_5 ?_
  refine v_getL C fl_RX0_38 rfl dX0_search_8 ?_
  refine v_aload_n C dX0_search_11 rfl 0 rfl ?_
  refine v_getR C (p' := 13) fl_RX0_12 rfl rfl dX0_search_12 ?_
  refine v_getL C fl_RX0_41 rfl dX0_search_15 ?_
  refine v_iconst C (v := (1 : Int32)) dX0_search_18 (by decide) ?_
  refine v_lushr C dX0_search_19 ?_
  refine v_lor C dX0_search_20 ?_
  refine v_aload_n C dX0_search_21 rfl 0 rfl ?_
  refine v_getR C (p' := 13) fl_RX0_12 rfl rfl dX0_search_22 ?_
  refine v_getL C fl_RX0_44 rfl dX0_search_25 ?_
  refine v_aload_n C dX0_search_28 rfl 1 rfl ?_
  refine v_getI C fl_RX0_66 rfl dX0_search_29 ?_
  refine v_lushr C dX0_search_32 ?_
  refine v_lor C dX0_search_33 ?_
  refine v_ldc2_w C (v := (-1 : Int64)) conl_RX0_61 dX0_search_34 ?_
  refine v_lxor C dX0_search_37 ?_
  refine v_land C dX0_search_38 ?_
  refine v_lstore_n C (lv' := [(2, .long _), (0, .ref _), (1, .ref _)]) dX0_search_39 rfl (by decide) rfl ?_
  refine v_aload_n C dX0_search_40 rfl 2 rfl ?_
  refine v_getL C fl_RX0_53 rfl dX0_search_41 ?_
  refine v_aload_n C dX0_search_44 rfl 1 rfl ?_
  refine v_getR C (p' := 13) fl_RX0_12 rfl rfl dX0_search_45 ?_
  refine v_getL C fl_RX0_38 rfl dX0_search_48 ?_
  refine v_aload_n C dX0_search_51 rfl 1 rfl ?_
  refine v_getR C (p' := 13) fl_RX0_12 rfl rfl dX0_search_52 ?_
  refine v_getL C fl_RX0_41 rfl dX0_search_55 ?_
  refine v_lor C dX0_search_58 ?_
  refine v_aload_n C dX0_search_59 rfl 1 rfl ?_
  refine v_getR C (p' := 13) fl_RX0_12 rfl rfl dX0_search_60 ?_
  refine v_getL C fl_RX0_44 rfl dX0_search_63 ?_
  refine v_lor C dX0_search_66 ?_
  refine v_ldc2_w C (v := (-1 : Int64)) conl_RX0_61 dX0_search_67 ?_
  refine v_lxor C dX0_search_70 ?_
  refine v_land C dX0_search_71 ?_
  refine v_lstore C (lv' := [(4, .long _), (2, .long _), (0, .ref _), (1, .ref _)]) dX0_search_72 (by decide) rfl ?_
  refine v_aload_n C dX0_search_74 rfl 2 rfl ?_
  refine v_getR C (p' := 25) fl_RX0_18 rfl rfl dX0_search_75 ?_
  refine v_iconst C (v := (0 : Int32)) dX0_search_78 (by decide) ?_
  refine v_lload C dX0_search_79 0 rfl ?_
  obtain ⟨nσ1, σ1, eσ1, h⟩ := wrL_ex h
  refine x_last C rfl nσ1 eσ1 dX0_search_81 ?_
  refine v_iconst C (v := (0 : Int32)) dX0_search_82 (by decide) ?_
  refine v_istore C (lv' := [(6, .int _), (4, .long _), (2, .long _), (0, .ref _), (1, .ref _)]) dX0_search_83 (by decide) rfl ?_
  refine V.sub (lv' := [(0, .ref _), (1, .ref _), (2, .long _), (4, .long _), (6, .int _)]) [3, 4, 2, 1, 0] rfl ?_
  exact b_X0_search_85 C FU _ _ _  _ _ _ h
theorem dX0_mateOf_0 : decode cX0_mateOf 0 = .ok (.aload_n 0, 1) := by decide +kernel
theorem dX0_mateOf_1 : decode cX0_mateOf 1 = .ok (.getfield 12, 3) := by decide +kernel
theorem dX0_mateOf_4 : decode cX0_mateOf 4 = .ok (.getfield 38, 3) := by decide +kernel
theorem dX0_mateOf_7 : decode cX0_mateOf 7 = .ok (.lload_n 2, 1) := by decide +kernel
theorem dX0_mateOf_8 : decode cX0_mateOf 8 = .ok (.land, 1) := by decide +kernel
theorem dX0_mateOf_9 : decode cX0_mateOf 9 = .ok (.aload_n 0, 1) := by decide +kernel
theorem dX0_mateOf_10 : decode cX0_mateOf 10 = .ok (.getfield 12, 3) := by decide +kernel
theorem dX0_mateOf_13 : decode cX0_mateOf 13 = .ok (.getfield 41, 3) := by decide +kernel
theorem dX0_mateOf_16 : decode cX0_mateOf 16 = .ok (.lload_n 2, 1) := by decide +kernel
theorem dX0_mateOf_17 : decode cX0_mateOf 17 = .ok (.land, 1) := by decide +kernel
theorem dX0_mateOf_18 : decode cX0_mateOf 18 = .ok (.iconst 1, 1) := by decide +kernel
theorem dX0_mateOf_19 : decode cX0_mateOf 19 = .ok (.lushr, 1) := by decide +kernel
theorem dX0_mateOf_20 : decode cX0_mateOf 20 = .ok (.lor, 1) := by decide +kernel
theorem dX0_mateOf_21 : decode cX0_mateOf 21 = .ok (.aload_n 0, 1) := by decide +kernel
theorem dX0_mateOf_22 : decode cX0_mateOf 22 = .ok (.getfield 12, 3) := by decide +kernel
theorem dX0_mateOf_25 : decode cX0_mateOf 25 = .ok (.getfield 44, 3) := by decide +kernel
theorem dX0_mateOf_28 : decode cX0_mateOf 28 = .ok (.lload_n 2, 1) := by decide +kernel
theorem dX0_mateOf_29 : decode cX0_mateOf 29 = .ok (.land, 1) := by decide +kernel
theorem dX0_mateOf_30 : decode cX0_mateOf 30 = .ok (.aload_n 1, 1) := by decide +kernel
theorem dX0_mateOf_31 : decode cX0_mateOf 31 = .ok (.getfield 66, 3) := by decide +kernel
theorem dX0_mateOf_34 : decode cX0_mateOf 34 = .ok (.lushr, 1) := by decide +kernel
theorem dX0_mateOf_35 : decode cX0_mateOf 35 = .ok (.lor, 1) := by decide +kernel
theorem dX0_mateOf_36 : decode cX0_mateOf 36 = .ok (.lreturn, 1) := by decide +kernel
def f_X0_mateOf (a2 : Int64) (σ : St) : Option (Int64 × St) :=
  some (((((gl σ 13 1) &&& a2) ||| (lushr ((gl σ 13 2) &&& a2) (1 : Int32))) ||| (lushr ((gl σ 13 3) &&& a2) (gi σ 1 0))), σ)
set_option maxRecDepth 100000 in
set_option maxHeartbeats 4000000 in
theorem c_X0_mateOf {g : Geo} {a2 : Int64} {σ : St} {r : Int64} {σ' : St} (h : f_X0_mateOf a2 σ = some (r, σ')) : Ct g yX0_mateOf cX0_mateOf 4 (some .long) rm_X0_mateOf [.ref (g.1 3), .ref (g.1 1), .long a2] σ (some (.long r)) σ' := by
  refine ct_of (own := RX0) (by decide) rfl (Nat.le_of_ble_eq_true rfl) (fun x C => ?_) ⟨rfl, rfl⟩
  show V g x _ 4 σ [(0, .ref (g.1 3)), (1, .ref (g.1 1)), (2, .long a2)] [] 0
  unfold f_X0_mateOf at h
  refine v_aload_n C dX0_mateOf_0 rfl 0 rfl ?_
  refine v_getR C (p' := 13) fl_RX0_12 rfl rfl dX0_mateOf_1 ?_
  refine v_getL C fl_RX0_38 rfl dX0_mateOf_4 ?_
  refine v_lload_n C dX0_mateOf_7 rfl 2 rfl ?_
  refine v_land C dX0_mateOf_8 ?_
  refine v_aload_n C dX0_mateOf_9 rfl 0 rfl ?_
  refine v_getR C (p' := 13) fl_RX0_12 rfl rfl dX0_mateOf_10 ?_
  refine v_getL C fl_RX0_41 rfl dX0_mateOf_13 ?_
  refine v_lload_n C dX0_mateOf_16 rfl 2 rfl ?_
  refine v_land C dX0_mateOf_17 ?_
  refine v_iconst C (v := (1 : Int32)) dX0_mateOf_18 (by decide) ?_
  refine v_lushr C dX0_mateOf_19 ?_
  refine v_lor C dX0_mateOf_20 ?_
  refine v_aload_n C dX0_mateOf_21 rfl 0 rfl ?_
  refine v_getR C (p' := 13) fl_RX0_12 rfl rfl dX0_mateOf_22 ?_
  refine v_getL C fl_RX0_44 rfl dX0_mateOf_25 ?_
  refine v_lload_n C dX0_mateOf_28 rfl 2 rfl ?_
  refine v_land C dX0_mateOf_29 ?_
  refine v_aload_n C dX0_mateOf_30 rfl 1 rfl ?_
  refine v_getI C fl_RX0_66 rfl dX0_mateOf_31 ?_
  refine v_lushr C dX0_mateOf_34 ?_
  refine v_lor C dX0_mateOf_35 ?_
  cases h
  exact v_lret C dX0_mateOf_36
theorem dX2_put_0 : decode cX2_put 0 = .ok (.aload_n 0, 1) := by decide +kernel
theorem dX2_put_1 : decode cX2_put 1 = .ok (.iload_n 3, 1) := by decide +kernel
theorem dX2_put_2 : decode cX2_put 2 = .ok (.ifCond .ne 12, 3) := by decide +kernel
theorem dX2_put_5 : decode cX2_put 5 = .ok (.aload_n 0, 1) := by decide +kernel
theorem dX2_put_6 : decode cX2_put 6 = .ok (.getfield 13, 3) := by decide +kernel
theorem dX2_put_9 : decode cX2_put 9 = .ok (.lload_n 1, 1) := by decide +kernel
theorem dX2_put_10 : decode cX2_put 10 = .ok (.lor, 1) := by decide +kernel
theorem dX2_put_11 : decode cX2_put 11 = .ok (.goto 13, 3) := by decide +kernel
theorem dX2_put_14 : decode cX2_put 14 = .ok (.aload_n 0, 1) := by decide +kernel
theorem dX2_put_15 : decode cX2_put 15 = .ok (.getfield 13, 3) := by decide +kernel
theorem dX2_put_18 : decode cX2_put 18 = .ok (.lload_n 1, 1) := by decide +kernel
theorem dX2_put_19 : decode cX2_put 19 = .ok (.ldc2_w 23, 3) := by decide +kernel
theorem dX2_put_22 : decode cX2_put 22 = .ok (.lxor, 1) := by decide +kernel
theorem dX2_put_23 : decode cX2_put 23 = .ok (.land, 1) := by decide +kernel
theorem dX2_put_24 : decode cX2_put 24 = .ok (.putfield 13, 3) := by decide +kernel
theorem dX2_put_27 : decode cX2_put 27 = .ok (.aload_n 0, 1) := by decide +kernel
theorem dX2_put_28 : decode cX2_put 28 = .ok (.iload_n 3, 1) := by decide +kernel
theorem dX2_put_29 : decode cX2_put 29 = .ok (.iconst 1, 1) := by decide +kernel
theorem dX2_put_30 : decode cX2_put 30 = .ok (.if_icmp .ne 12, 3) := by decide +kernel
theorem dX2_put_33 : decode cX2_put 33 = .ok (.aload_n 0, 1) := by decide +kernel
theorem dX2_put_34 : decode cX2_put 34 = .ok (.getfield 17, 3) := by decide +kernel
theorem dX2_put_37 : decode cX2_put 37 = .ok (.lload_n 1, 1) := by decide +kernel
theorem dX2_put_38 : decode cX2_put 38 = .ok (.lor, 1) := by decide +kernel
theorem dX2_put_39 : decode cX2_put 39 = .ok (.goto 13, 3) := by decide +kernel
theorem dX2_put_42 : decode cX2_put 42 = .ok (.aload_n 0, 1) := by decide +kernel
theorem dX2_put_43 : decode cX2_put 43 = .ok (.getfield 17, 3) := by decide +kernel
theorem dX2_put_46 : decode cX2_put 46 = .ok (.lload_n 1, 1) := by decide +kernel
theorem dX2_put_47 : decode cX2_put 47 = .ok (.ldc2_w 23, 3) := by decide +kernel
theorem dX2_put_50 : decode cX2_put 50 = .ok (.lxor, 1) := by decide +kernel
theorem dX2_put_51 : decode cX2_put 51 = .ok (.land, 1) := by decide +kernel
theorem dX2_put_52 : decode cX2_put 52 = .ok (.putfield 17, 3) := by decide +kernel
theorem dX2_put_55 : decode cX2_put 55 = .ok (.aload_n 0, 1) := by decide +kernel
theorem dX2_put_56 : decode cX2_put 56 = .ok (.iload_n 3, 1) := by decide +kernel
theorem dX2_put_57 : decode cX2_put 57 = .ok (.iconst 2, 1) := by decide +kernel
theorem dX2_put_58 : decode cX2_put 58 = .ok (.if_icmp .ne 12, 3) := by decide +kernel
theorem dX2_put_61 : decode cX2_put 61 = .ok (.aload_n 0, 1) := by decide +kernel
theorem dX2_put_62 : decode cX2_put 62 = .ok (.getfield 20, 3) := by decide +kernel
theorem dX2_put_65 : decode cX2_put 65 = .ok (.lload_n 1, 1) := by decide +kernel
theorem dX2_put_66 : decode cX2_put 66 = .ok (.lor, 1) := by decide +kernel
theorem dX2_put_67 : decode cX2_put 67 = .ok (.goto 13, 3) := by decide +kernel
theorem dX2_put_70 : decode cX2_put 70 = .ok (.aload_n 0, 1) := by decide +kernel
theorem dX2_put_71 : decode cX2_put 71 = .ok (.getfield 20, 3) := by decide +kernel
theorem dX2_put_74 : decode cX2_put 74 = .ok (.lload_n 1, 1) := by decide +kernel
theorem dX2_put_75 : decode cX2_put 75 = .ok (.ldc2_w 23, 3) := by decide +kernel
theorem dX2_put_78 : decode cX2_put 78 = .ok (.lxor, 1) := by decide +kernel
theorem dX2_put_79 : decode cX2_put 79 = .ok (.land, 1) := by decide +kernel
theorem dX2_put_80 : decode cX2_put 80 = .ok (.putfield 20, 3) := by decide +kernel
theorem dX2_put_83 : decode cX2_put 83 = .ok (.return_, 1) := by decide +kernel
def f_X2_put_80 (t0 : Nat) (s1 : Int64) (σ : St) : Option (Unit × St) :=
  fL σ t0 3 s1 fun σ1 =>
  some ((), σ1)
set_option maxRecDepth 100000 in
set_option maxHeartbeats 4000000 in
theorem b_X2_put_80 {g : Geo} {x : Cx} (C : Ok g x cX2_put RX2 4 none rm_X2_put) : ∀ (t0 : Nat) (s1 : Int64) (ht0 : kd t0 = 2) (σ : St) (r : Unit) (σ' : St), f_X2_put_80 t0 s1 σ = some (r, σ') → V g x (qm g x none σ') 4 σ [] [.long s1, .ref (g.1 t0)] 80 := by
  intro t0 s1 ht0 σ r σ' h
  unfold f_X2_put_80 at h
  obtain ⟨σ1, eσ1, h⟩ := fL_ex h
  refine x_putL C fl_RX2_20 fw_2_3 ht0 eσ1 dX2_put_80 ?_
  cases h
  exact v_vret C dX2_put_83
def f_X2_put_52 (r0 : Nat) (x1 : Int64) (x3 : Int32) (t0 : Nat) (s1 : Int64) (σ : St) : Option (Unit × St) :=
  fL σ t0 2 s1 fun σ1 =>
  if x3 = (2 : Int32) then
    f_X2_put_80 r0 ((gl σ1 r0 3) ||| x1) σ1
  else
    f_X2_put_80 r0 ((gl σ1 r0 3) &&& (x1 ^^^ (-1 : Int64))) σ1
set_option maxRecDepth 100000 in
set_option maxHeartbeats 4000000 in
theorem b_X2_put_52 {g : Geo} {x : Cx} (C : Ok g x cX2_put RX2 4 none rm_X2_put) : ∀ (r0 : Nat) (x1 : Int64) (x3 : Int32) (t0 : Nat) (s1 : Int64) (hr0 : kd r0 = 2) (ht0 : kd t0 = 2) (σ : St) (r : Unit) (σ' : St), f_X2_put_52 r0 x1 x3 t0 s1 σ = some (r, σ') → V g x (qm g x none σ') 4 σ [(0, .ref (g.1 r0)), (1, .long x1), (3, .int x3)] [.long s1, .ref (g.1 t0)] 52 := by
  intro r0 x1 x3 t0 s1 hr0 ht0 σ r σ' h
  unfold f_X2_put_52 at h
  obtain ⟨σ1, eσ1, h⟩ := fL_ex h
  refine x_putL C fl_RX2_17 fw_2_2 ht0 eσ1 dX2_put_52 ?_
  refine v_aload_n C dX2_put_55 rfl 0 rfl ?_
  refine v_iload_n C dX2_put_56 rfl 2 rfl ?_
  refine v_iconst C (v := (2 : Int32)) dX2_put_57 (by decide) ?_
  refine v_icmp_ne C (tgt := 70) dX2_put_58 (by decide) (fun q2 => ?_) (fun q2 => ?_)
  · rw [if_neg q2] at h
    refine v_aload_n C dX2_put_70 rfl 0 rfl ?_
    refine v_getL C fl_RX2_20 hr0 dX2_put_71 ?_
    refine v_lload_n C dX2_put_74 rfl 1 rfl ?_
    refine v_ldc2_w C (v := (-1 : Int64)) conl_RX2_23 dX2_put_75 ?_
    refine v_lxor C dX2_put_78 ?_
    refine v_land C dX2_put_79 ?_
    refine V.sub (lv' := []) [] rfl ?_
    exact b_X2_put_80 C _ _ hr0 _ _ _ h
  · rw [if_pos q2] at h
    refine v_aload_n C dX2_put_61 rfl 0 rfl ?_
    refine v_getL C fl_RX2_20 hr0 dX2_put_62 ?_
    refine v_lload_n C dX2_put_65 rfl 1 rfl ?_
    refine v_lor C dX2_put_66 ?_
    refine v_goto C (tgt := 80) dX2_put_67 (by decide) ?_
    refine V.sub (lv' := []) [] rfl ?_
    exact b_X2_put_80 C _ _ hr0 _ _ _ h
def f_X2_put_24 (r0 : Nat) (x1 : Int64) (x3 : Int32) (t0 : Nat) (s1 : Int64) (σ : St) : Option (Unit × St) :=
  fL σ t0 1 s1 fun σ1 =>
  if x3 = (1 : Int32) then
    f_X2_put_52 r0 x1 x3 r0 ((gl σ1 r0 2) ||| x1) σ1
  else
    f_X2_put_52 r0 x1 x3 r0 ((gl σ1 r0 2) &&& (x1 ^^^ (-1 : Int64))) σ1
set_option maxRecDepth 100000 in
set_option maxHeartbeats 4000000 in
theorem b_X2_put_24 {g : Geo} {x : Cx} (C : Ok g x cX2_put RX2 4 none rm_X2_put) : ∀ (r0 : Nat) (x1 : Int64) (x3 : Int32) (t0 : Nat) (s1 : Int64) (hr0 : kd r0 = 2) (ht0 : kd t0 = 2) (σ : St) (r : Unit) (σ' : St), f_X2_put_24 r0 x1 x3 t0 s1 σ = some (r, σ') → V g x (qm g x none σ') 4 σ [(0, .ref (g.1 r0)), (1, .long x1), (3, .int x3)] [.long s1, .ref (g.1 t0)] 24 := by
  intro r0 x1 x3 t0 s1 hr0 ht0 σ r σ' h
  unfold f_X2_put_24 at h
  obtain ⟨σ1, eσ1, h⟩ := fL_ex h
  refine x_putL C fl_RX2_13 fw_2_1 ht0 eσ1 dX2_put_24 ?_
  refine v_aload_n C dX2_put_27 rfl 0 rfl ?_
  refine v_iload_n C dX2_put_28 rfl 2 rfl ?_
  refine v_iconst C (v := (1 : Int32)) dX2_put_29 (by decide) ?_
  refine v_icmp_ne C (tgt := 42) dX2_put_30 (by decide) (fun q2 => ?_) (fun q2 => ?_)
  · rw [if_neg q2] at h
    refine v_aload_n C dX2_put_42 rfl 0 rfl ?_
    refine v_getL C fl_RX2_17 hr0 dX2_put_43 ?_
    refine v_lload_n C dX2_put_46 rfl 1 rfl ?_
    refine v_ldc2_w C (v := (-1 : Int64)) conl_RX2_23 dX2_put_47 ?_
    refine v_lxor C dX2_put_50 ?_
    refine v_land C dX2_put_51 ?_
    refine V.sub (lv' := [(0, .ref _), (1, .long _), (3, .int _)]) [0, 1, 2] rfl ?_
    exact b_X2_put_52 C _ _ _ _ _ hr0 hr0 _ _ _ h
  · rw [if_pos q2] at h
    refine v_aload_n C dX2_put_33 rfl 0 rfl ?_
    refine v_getL C fl_RX2_17 hr0 dX2_put_34 ?_
    refine v_lload_n C dX2_put_37 rfl 1 rfl ?_
    refine v_lor C dX2_put_38 ?_
    refine v_goto C (tgt := 52) dX2_put_39 (by decide) ?_
    refine V.sub (lv' := [(0, .ref _), (1, .long _), (3, .int _)]) [0, 1, 2] rfl ?_
    exact b_X2_put_52 C _ _ _ _ _ hr0 hr0 _ _ _ h
def f_X2_put (q0 : Nat) (a1 : Int64) (a2 : Int32) (σ : St) : Option (Unit × St) :=
  if a2 = 0 then
    f_X2_put_24 q0 a1 a2 q0 ((gl σ q0 1) ||| a1) σ
  else
    f_X2_put_24 q0 a1 a2 q0 ((gl σ q0 1) &&& (a1 ^^^ (-1 : Int64))) σ
set_option maxRecDepth 100000 in
set_option maxHeartbeats 4000000 in
theorem c_X2_put {g : Geo} {q0 : Nat} {a1 : Int64} {a2 : Int32} (hq0 : kd q0 = 2) {σ : St} {r : Unit} {σ' : St} (h : f_X2_put q0 a1 a2 σ = some (r, σ')) : Ct g yX2_put cX2_put 4 none rm_X2_put [.ref (g.1 q0), .long a1, .int a2] σ none σ' := by
  refine ct_of (own := RX2) (by decide) rfl (Nat.le_of_ble_eq_true rfl) (fun x C => ?_) ⟨rfl, rfl⟩
  show V g x _ 4 σ [(0, .ref (g.1 q0)), (1, .long a1), (3, .int a2)] [] 0
  unfold f_X2_put at h
  refine v_aload_n C dX2_put_0 rfl 0 rfl ?_
  refine v_iload_n C dX2_put_1 rfl 2 rfl ?_
  refine v_if_ne C (tgt := 14) dX2_put_2 (by decide) (fun q1 => ?_) (fun q1 => ?_)
  · rw [if_neg q1] at h
    refine v_aload_n C dX2_put_14 rfl 0 rfl ?_
    refine v_getL C fl_RX2_13 hq0 dX2_put_15 ?_
    refine v_lload_n C dX2_put_18 rfl 1 rfl ?_
    refine v_ldc2_w C (v := (-1 : Int64)) conl_RX2_23 dX2_put_19 ?_
    refine v_lxor C dX2_put_22 ?_
    refine v_land C dX2_put_23 ?_
    refine V.sub (lv' := [(0, .ref _), (1, .long _), (3, .int _)]) [0, 1, 2] rfl ?_
    exact b_X2_put_24 C _ _ _ _ _ hq0 hq0 _ _ _ h
  · rw [if_pos q1] at h
    refine v_aload_n C dX2_put_5 rfl 0 rfl ?_
    refine v_getL C fl_RX2_13 hq0 dX2_put_6 ?_
    refine v_lload_n C dX2_put_9 rfl 1 rfl ?_
    refine v_lor C dX2_put_10 ?_
    refine v_goto C (tgt := 24) dX2_put_11 (by decide) ?_
    refine V.sub (lv' := [(0, .ref _), (1, .long _), (3, .int _)]) [0, 1, 2] rfl ?_
    exact b_X2_put_24 C _ _ _ _ _ hq0 hq0 _ _ _ h
theorem dX0_shift_0 : decode cX0_shift 0 = .ok (.aload_n 0, 1) := by decide +kernel
theorem dX0_shift_1 : decode cX0_shift 1 = .ok (.getfield 18, 3) := by decide +kernel
theorem dX0_shift_4 : decode cX0_shift 4 = .ok (.iload_n 2, 1) := by decide +kernel
theorem dX0_shift_5 : decode cX0_shift 5 = .ok (.iconst 1, 1) := by decide +kernel
theorem dX0_shift_6 : decode cX0_shift 6 = .ok (.iadd, 1) := by decide +kernel
theorem dX0_shift_7 : decode cX0_shift 7 = .ok (.laload, 1) := by decide +kernel
theorem dX0_shift_8 : decode cX0_shift 8 = .ok (.aload_n 0, 1) := by decide +kernel
theorem dX0_shift_9 : decode cX0_shift 9 = .ok (.getfield 18, 3) := by decide +kernel
theorem dX0_shift_12 : decode cX0_shift 12 = .ok (.iload_n 2, 1) := by decide +kernel
theorem dX0_shift_13 : decode cX0_shift 13 = .ok (.iconst 1, 1) := by decide +kernel
theorem dX0_shift_14 : decode cX0_shift 14 = .ok (.iadd, 1) := by decide +kernel
theorem dX0_shift_15 : decode cX0_shift 15 = .ok (.laload, 1) := by decide +kernel
theorem dX0_shift_16 : decode cX0_shift 16 = .ok (.lneg, 1) := by decide +kernel
theorem dX0_shift_17 : decode cX0_shift 17 = .ok (.land, 1) := by decide +kernel
theorem dX0_shift_18 : decode cX0_shift 18 = .ok (.lstore_n 3, 1) := by decide +kernel
theorem dX0_shift_19 : decode cX0_shift 19 = .ok (.iload_n 2, 1) := by decide +kernel
theorem dX0_shift_20 : decode cX0_shift 20 = .ok (.istore 5, 2) := by decide +kernel
theorem dX0_shift_22 : decode cX0_shift 22 = .ok (.iload 5, 2) := by decide +kernel
theorem dX0_shift_24 : decode cX0_shift 24 = .ok (.ifCond .lt 106, 3) := by decide +kernel
theorem dX0_shift_27 : decode cX0_shift 27 = .ok (.aload_n 0, 1) := by decide +kernel
theorem dX0_shift_28 : decode cX0_shift 28 = .ok (.getfield 18, 3) := by decide +kernel
theorem dX0_shift_31 : decode cX0_shift 31 = .ok (.iload 5, 2) := by decide +kernel
theorem dX0_shift_33 : decode cX0_shift 33 = .ok (.laload, 1) := by decide +kernel
theorem dX0_shift_34 : decode cX0_shift 34 = .ok (.lstore 6, 2) := by decide +kernel
theorem dX0_shift_36 : decode cX0_shift 36 = .ok (.lload 6, 2) := by decide +kernel
theorem dX0_shift_38 : decode cX0_shift 38 = .ok (.lload_n 3, 1) := by decide +kernel
theorem dX0_shift_39 : decode cX0_shift 39 = .ok (.land, 1) := by decide +kernel
theorem dX0_shift_40 : decode cX0_shift 40 = .ok (.lconst 0, 1) := by decide +kernel
theorem dX0_shift_41 : decode cX0_shift 41 = .ok (.lcmp, 1) := by decide +kernel
theorem dX0_shift_42 : decode cX0_shift 42 = .ok (.ifCond .eq 7, 3) := by decide +kernel
theorem dX0_shift_45 : decode cX0_shift 45 = .ok (.iconst 0, 1) := by decide +kernel
theorem dX0_shift_46 : decode cX0_shift 46 = .ok (.goto 24, 3) := by decide +kernel
theorem dX0_shift_49 : decode cX0_shift 49 = .ok (.lload 6, 2) := by decide +kernel
theorem dX0_shift_51 : decode cX0_shift 51 = .ok (.aload_n 1, 1) := by decide +kernel
theorem dX0_shift_52 : decode cX0_shift 52 = .ok (.getfield 63, 3) := by decide +kernel
theorem dX0_shift_55 : decode cX0_shift 55 = .ok (.land, 1) := by decide +kernel
theorem dX0_shift_56 : decode cX0_shift 56 = .ok (.lload_n 3, 1) := by decide +kernel
theorem dX0_shift_57 : decode cX0_shift 57 = .ok (.iconst 1, 1) := by decide +kernel
theorem dX0_shift_58 : decode cX0_shift 58 = .ok (.lshl, 1) := by decide +kernel
theorem dX0_shift_59 : decode cX0_shift 59 = .ok (.land, 1) := by decide +kernel
theorem dX0_shift_60 : decode cX0_shift 60 = .ok (.lconst 0, 1) := by decide +kernel
theorem dX0_shift_61 : decode cX0_shift 61 = .ok (.lcmp, 1) := by decide +kernel
theorem dX0_shift_62 : decode cX0_shift 62 = .ok (.ifCond .eq 7, 3) := by decide +kernel
theorem dX0_shift_65 : decode cX0_shift 65 = .ok (.iconst 1, 1) := by decide +kernel
theorem dX0_shift_66 : decode cX0_shift 66 = .ok (.goto 4, 3) := by decide +kernel
theorem dX0_shift_69 : decode cX0_shift 69 = .ok (.iconst 2, 1) := by decide +kernel
theorem dX0_shift_70 : decode cX0_shift 70 = .ok (.istore 8, 2) := by decide +kernel
theorem dX0_shift_72 : decode cX0_shift 72 = .ok (.iload 8, 2) := by decide +kernel
theorem dX0_shift_74 : decode cX0_shift 74 = .ok (.ifCond .ne 7, 3) := by decide +kernel
theorem dX0_shift_77 : decode cX0_shift 77 = .ok (.lload_n 3, 1) := by decide +kernel
theorem dX0_shift_78 : decode cX0_shift 78 = .ok (.goto 21, 3) := by decide +kernel
theorem dX0_shift_81 : decode cX0_shift 81 = .ok (.iload 8, 2) := by decide +kernel
theorem dX0_shift_83 : decode cX0_shift 83 = .ok (.iconst 1, 1) := by decide +kernel
theorem dX0_shift_84 : decode cX0_shift 84 = .ok (.if_icmp .ne 9, 3) := by decide +kernel
theorem dX0_shift_87 : decode cX0_shift 87 = .ok (.lload_n 3, 1) := by decide +kernel
theorem dX0_shift_88 : decode cX0_shift 88 = .ok (.iconst 1, 1) := by decide +kernel
theorem dX0_shift_89 : decode cX0_shift 89 = .ok (.lshl, 1) := by decide +kernel
theorem dX0_shift_90 : decode cX0_shift 90 = .ok (.goto 9, 3) := by decide +kernel
theorem dX0_shift_93 : decode cX0_shift 93 = .ok (.lload_n 3, 1) := by decide +kernel
theorem dX0_shift_94 : decode cX0_shift 94 = .ok (.aload_n 1, 1) := by decide +kernel
theorem dX0_shift_95 : decode cX0_shift 95 = .ok (.getfield 66, 3) := by decide +kernel
theorem dX0_shift_98 : decode cX0_shift 98 = .ok (.lshl, 1) := by decide +kernel
theorem dX0_shift_99 : decode cX0_shift 99 = .ok (.lstore 9, 2) := by decide +kernel
theorem dX0_shift_101 : decode cX0_shift 101 = .ok (.aload_n 0, 1) := by decide +kernel
theorem dX0_shift_102 : decode cX0_shift 102 = .ok (.aload_n 1, 1) := by decide +kernel
theorem dX0_shift_103 : decode cX0_shift 103 = .ok (.lload 9, 2) := by decide +kernel
theorem dX0_shift_105 : decode cX0_shift 105 = .ok (.invokevirtual 77, 3) := by decide +kernel
theorem dX0_shift_108 : decode cX0_shift 108 = .ok (.lstore 11, 2) := by decide +kernel
theorem dX0_shift_110 : decode cX0_shift 110 = .ok (.aload_n 0, 1) := by decide +kernel
theorem dX0_shift_111 : decode cX0_shift 111 = .ok (.getfield 12, 3) := by decide +kernel
theorem dX0_shift_114 : decode cX0_shift 114 = .ok (.lload 9, 2) := by decide +kernel
theorem dX0_shift_116 : decode cX0_shift 116 = .ok (.iload 8, 2) := by decide +kernel
theorem dX0_shift_118 : decode cX0_shift 118 = .ok (.invokevirtual 80, 3) := by decide +kernel
theorem dX0_shift_121 : decode cX0_shift 121 = .ok (.lload 11, 2) := by decide +kernel
theorem dX0_shift_123 : decode cX0_shift 123 = .ok (.lstore_n 3, 1) := by decide +kernel
theorem dX0_shift_124 : decode cX0_shift 124 = .ok (.iinc 5 (-1), 3) := by decide +kernel
theorem dX0_shift_127 : decode cX0_shift 127 = .ok (.goto (-105), 3) := by decide +kernel
theorem dX0_shift_130 : decode cX0_shift 130 = .ok (.return_, 1) := by decide +kernel
def f_X0_shift_99 (k22 : Int64 → Int32 → St → Option (Unit × St)) (x5 : Int32) (x8 : Int32) (s0 : Int64) (σ : St) : Option (Unit × St) :=
  bd (f_X0_mateOf s0 σ) fun v1 σ2 =>
  bd (f_X2_put 13 s0 x8 σ2) fun _ σ4 =>
  k22 v1 (x5 + (-1)) σ4
set_option maxRecDepth 100000 in
set_option maxHeartbeats 4000000 in
theorem b_X0_shift_99 {g : Geo} {x : Cx} (C : Ok g x cX0_shift RX0 13 none rm_X0_shift) (k22 : Int64 → Int32 → St → Option (Unit × St)) (hk22 : ∀ (x3 : Int64) (x5 : Int32) (τ : St) (r : Unit) (τ' : St), k22 x3 x5 τ = some (r, τ') → V g x (qm g x none τ') 13 τ [(0, .ref (g.1 3)), (1, .ref (g.1 1)), (3, .long x3), (5, .int x5)] [] 22) : ∀ (x5 : Int32) (x8 : Int32) (s0 : Int64) (σ : St) (r : Unit) (σ' : St), f_X0_shift_99 k22 x5 x8 s0 σ = some (r, σ') → V g x (qm g x none σ') 13 σ [(0, .ref (g.1 3)), (1, .ref (g.1 1)), (5, .int x5), (8, .int x8)] [.long s0] 99 := by
  intro x5 x8 s0 σ r σ' h
  unfold f_X0_shift_99 at h
  refine v_lstore C (lv' := [(9, .long _), (0, .ref _), (1, .ref _), (5, .int _), (8, .int _)]) dX0_shift_99 (by decide) rfl ?_
  refine v_aload_n C dX0_shift_101 rfl 1 rfl ?_
  refine v_aload_n C dX0_shift_102 rfl 2 rfl ?_
  refine v_lload C dX0_shift_103 0 rfl ?_
  obtain ⟨v1, σ2, cσ2, h⟩ := bd_some h
  refine callVl C (c_X0_mateOf cσ2) km_X0_mateOf kv_X0_mateOf rfl ml_RX0_77 rfl rfl (by decide) (Nat.le_of_ble_eq_true rfl) dX0_shift_105 ?_
  refine v_lstore C (lv' := [(11, .long _), (9, .long _), (0, .ref _), (1, .ref _), (5, .int _), (8, .int _)]) dX0_shift_108 (by decide) rfl ?_
  refine v_aload_n C dX0_shift_110 rfl 2 rfl ?_
  refine v_getR C (p' := 13) fl_RX0_12 rfl rfl dX0_shift_111 ?_
  refine v_lload C dX0_shift_114 1 rfl ?_
  refine v_iload C dX0_shift_116 5 rfl ?_
  obtain ⟨v3, σ4, cσ4, h⟩ := bd_some h
  refine callVv C (c_X2_put rfl cσ4) km_X2_put kv_X2_put rfl ml_RX0_80 rfl rfl (by decide) (Nat.le_of_ble_eq_true rfl) dX0_shift_118 ?_
  refine v_lload C dX0_shift_121 0 rfl ?_
  refine v_lstore_n C (lv' := [(3, .long _), (11, .long _), (9, .long _), (0, .ref _), (1, .ref _), (5, .int _), (8, .int _)]) dX0_shift_123 rfl (by decide) rfl ?_
  refine v_iinc C (v := (x5 + (-1))) (lv' := [(5, .int _), (3, .long _), (11, .long _), (9, .long _), (0, .ref _), (1, .ref _), (8, .int _)]) dX0_shift_124 5 rfl rfl (by decide) rfl ?_
  refine v_goto C (tgt := 22) dX0_shift_127 (by decide) ?_
  refine V.sub (lv' := [(0, .ref _), (1, .ref _), (3, .long _), (5, .int _)]) [4, 5, 1, 0] rfl ?_
  exact hk22 _ _  _ _ _ h
def f_X0_shift_70 (k22 : Int64 → Int32 → St → Option (Unit × St)) (x3 : Int64) (x5 : Int32) (s0 : Int32) (σ : St) : Option (Unit × St) :=
  if s0 = 0 then
    f_X0_shift_99 k22 x5 s0 x3 σ
  else
    if s0 = (1 : Int32) then
      f_X0_shift_99 k22 x5 s0 (lshl x3 (1 : Int32)) σ
    else
      f_X0_shift_99 k22 x5 s0 (lshl x3 (gi σ 1 0)) σ
set_option maxRecDepth 100000 in
set_option maxHeartbeats 4000000 in
theorem b_X0_shift_70 {g : Geo} {x : Cx} (C : Ok g x cX0_shift RX0 13 none rm_X0_shift) (k22 : Int64 → Int32 → St → Option (Unit × St)) (hk22 : ∀ (x3 : Int64) (x5 : Int32) (τ : St) (r : Unit) (τ' : St), k22 x3 x5 τ = some (r, τ') → V g x (qm g x none τ') 13 τ [(0, .ref (g.1 3)), (1, .ref (g.1 1)), (3, .long x3), (5, .int x5)] [] 22) : ∀ (x3 : Int64) (x5 : Int32) (s0 : Int32) (σ : St) (r : Unit) (σ' : St), f_X0_shift_70 k22 x3 x5 s0 σ = some (r, σ') → V g x (qm g x none σ') 13 σ [(0, .ref (g.1 3)), (1, .ref (g.1 1)), (3, .long x3), (5, .int x5)] [.int s0] 70 := by
  intro x3 x5 s0 σ r σ' h
  unfold f_X0_shift_70 at h
  refine v_istore C (lv' := [(8, .int _), (0, .ref _), (1, .ref _), (3, .long _), (5, .int _)]) dX0_shift_70 (by decide) rfl ?_
  refine v_iload C dX0_shift_72 0 rfl ?_
  refine v_if_ne C (tgt := 81) dX0_shift_74 (by decide) (fun q2 => ?_) (fun q2 => ?_)
  · rw [if_neg q2] at h
    refine v_iload C dX0_shift_81 0 rfl ?_
    refine v_iconst C (v := (1 : Int32)) dX0_shift_83 (by decide) ?_
    refine v_icmp_ne C (tgt := 93) dX0_shift_84 (by decide) (fun q1 => ?_) (fun q1 => ?_)
    · rw [if_neg q1] at h
      refine v_lload_n C dX0_shift_93 rfl 3 rfl ?_
      refine v_aload_n C dX0_shift_94 rfl 2 rfl ?_
      refine v_getI C fl_RX0_66 rfl dX0_shift_95 ?_
      refine v_lshl C dX0_shift_98 ?_
      refine V.sub (lv' := [(0, .ref _), (1, .ref _), (5, .int _), (8, .int _)]) [1, 2, 4, 0] rfl ?_
      exact b_X0_shift_99 C _ hk22 _ _ _  _ _ _ h
    · rw [if_pos q1] at h
      refine v_lload_n C dX0_shift_87 rfl 3 rfl ?_
      refine v_iconst C (v := (1 : Int32)) dX0_shift_88 (by decide) ?_
      refine v_lshl C dX0_shift_89 ?_
      refine v_goto C (tgt := 99) dX0_shift_90 (by decide) ?_
      refine V.sub (lv' := [(0, .ref _), (1, .ref _), (5, .int _), (8, .int _)]) [1, 2, 4, 0] rfl ?_
      exact b_X0_shift_99 C _ hk22 _ _ _  _ _ _ h
  · rw [if_pos q2] at h
    refine v_lload_n C dX0_shift_77 rfl 3 rfl ?_
    refine v_goto C (tgt := 99) dX0_shift_78 (by decide) ?_
    refine V.sub (lv' := [(0, .ref _), (1, .ref _), (5, .int _), (8, .int _)]) [1, 2, 4, 0] rfl ?_
    exact b_X0_shift_99 C _ hk22 _ _ _  _ _ _ h
def f_X0_shift_22 : Nat → Int64 → Int32 → St → Option (Unit × St)
  | 0, _, _, _ => none
  | n + 1, x3, x5, σ =>
    if x5 < 0 then
      some ((), σ)
    else
      rdL σ 25 x5 fun v1 =>
      if (v1 &&& x3) = (0 : Int64) then
        if ((v1 &&& (gl σ 1 5)) &&& (lshl x3 (1 : Int32))) = (0 : Int64) then
          f_X0_shift_70 (f_X0_shift_22 n) x3 x5 (2 : Int32) σ
        else
          f_X0_shift_70 (f_X0_shift_22 n) x3 x5 (1 : Int32) σ
      else
        f_X0_shift_70 (f_X0_shift_22 n) x3 x5 (0 : Int32) σ
set_option maxRecDepth 100000 in
set_option maxHeartbeats 4000000 in
theorem b_X0_shift_22 {g : Geo} {x : Cx} (C : Ok g x cX0_shift RX0 13 none rm_X0_shift) : ∀ (n : Nat) (x3 : Int64) (x5 : Int32) (σ : St) (r : Unit) (σ' : St), f_X0_shift_22 n x3 x5 σ = some (r, σ') → V g x (qm g x none σ') 13 σ [(0, .ref (g.1 3)), (1, .ref (g.1 1)), (3, .long x3), (5, .int x5)] [] 22 := by
  intro n
  induction n with
  | zero =>
    intro x3 x5 σ r σ' h
    rw [f_X0_shift_22] at h
    cases h
  | succ n ih =>
    intro x3 x5 σ r σ' h
    rw [f_X0_shift_22] at h
    refine v_iload C dX0_shift_22 3 rfl ?_
    refine v_if_lt C (tgt := 130) dX0_shift_24 (by decide) (fun q4 => ?_) (fun q4 => ?_)
    · rw [if_pos q4] at h
      cases h
      exact v_vret C dX0_shift_130
    · rw [if_neg q4] at h
      refine v_aload_n C dX0_shift_27 rfl 0 rfl ?_
      refine v_getR C (p' := 25) fl_RX0_18 rfl rfl dX0_shift_28 ?_
      refine v_iload C dX0_shift_31 3 rfl ?_
      obtain ⟨nv1, v1, ev1, h⟩ := rdL_ex h
      refine x_lald C rfl nv1 ev1 dX0_shift_33 ?_
      refine v_lstore C (lv' := [(6, .long _), (0, .ref _), (1, .ref _), (3, .long _), (5, .int _)]) dX0_shift_34 (by decide) rfl ?_
      refine v_lload C dX0_shift_36 0 rfl ?_
      refine v_lload_n C dX0_shift_38 rfl 3 rfl ?_
      refine v_land C dX0_shift_39 ?_
      refine v_lconst C (v := (0 : Int64)) dX0_shift_40 (by decide) ?_
      refine v_lcmp_eq C (tgt := 49) dX0_shift_41 dX0_shift_42 (by decide) (fun q3 => ?_) (fun q3 => ?_)
      · rw [if_pos q3] at h
        refine v_lload C dX0_shift_49 0 rfl ?_
        refine v_aload_n C dX0_shift_51 rfl 2 rfl ?_
        refine v_getL C fl_RX0_63 rfl dX0_shift_52 ?_
        refine v_land C dX0_shift_55 ?_
        refine v_lload_n C dX0_shift_56 rfl 3 rfl ?_
        refine v_iconst C (v := (1 : Int32)) dX0_shift_57 (by decide) ?_
        refine v_lshl C dX0_shift_58 ?_
        refine v_land C dX0_shift_59 ?_
        refine v_lconst C (v := (0 : Int64)) dX0_shift_60 (by decide) ?_
        refine v_lcmp_eq C (tgt := 69) dX0_shift_61 dX0_shift_62 (by decide) (fun q2 => ?_) (fun q2 => ?_)
        · rw [if_pos q2] at h
          refine v_iconst C (v := (2 : Int32)) dX0_shift_69 (by decide) ?_
          refine V.sub (lv' := [(0, .ref _), (1, .ref _), (3, .long _), (5, .int _)]) [1, 2, 3, 4] rfl ?_
          exact b_X0_shift_70 C _ ih _ _ _  _ _ _ h
        · rw [if_neg q2] at h
          refine v_iconst C (v := (1 : Int32)) dX0_shift_65 (by decide) ?_
          refine v_goto C (tgt := 70) dX0_shift_66 (by decide) ?_
          refine V.sub (lv' := [(0, .ref _), (1, .ref _), (3, .long _), (5, .int _)]) [1, 2, 3, 4] rfl ?_
          exact b_X0_shift_70 C _ ih _ _ _  _ _ _ h
      · rw [if_neg q3] at h
        refine v_iconst C (v := (0 : Int32)) dX0_shift_45 (by decide) ?_
        refine v_goto C (tgt := 70) dX0_shift_46 (by decide) ?_
        refine V.sub (lv' := [(0, .ref _), (1, .ref _), (3, .long _), (5, .int _)]) [1, 2, 3, 4] rfl ?_
        exact b_X0_shift_70 C _ ih _ _ _  _ _ _ h
def f_X0_shift (a2 : Int32) (σ : St) : Option (Unit × St) :=
  rdL σ 25 (a2 + (1 : Int32)) fun v1 =>
  rdL σ 25 (a2 + (1 : Int32)) fun v2 =>
  f_X0_shift_22 FU (v1 &&& (-v2)) a2 σ
set_option maxRecDepth 100000 in
set_option maxHeartbeats 4000000 in
theorem c_X0_shift {g : Geo} {a2 : Int32} {σ : St} {r : Unit} {σ' : St} (h : f_X0_shift a2 σ = some (r, σ')) : Ct g yX0_shift cX0_shift 13 none rm_X0_shift [.ref (g.1 3), .ref (g.1 1), .int a2] σ none σ' := by
  refine ct_of (own := RX0) (by decide) rfl (Nat.le_of_ble_eq_true rfl) (fun x C => ?_) ⟨rfl, rfl⟩
  show V g x _ 13 σ [(0, .ref (g.1 3)), (1, .ref (g.1 1)), (2, .int a2)] [] 0
  unfold f_X0_shift at h
  refine v_aload_n C dX0_shift_0 rfl 0 rfl ?_
  refine v_getR C (p' := 25) fl_RX0_18 rfl rfl dX0_shift_1 ?_
  refine v_iload_n C dX0_shift_4 rfl 2 rfl ?_
  refine v_iconst C (v := (1 : Int32)) dX0_shift_5 (by decide) ?_
  refine v_iadd C dX0_shift_6 ?_
  obtain ⟨nv1, v1, ev1, h⟩ := rdL_ex h
  refine x_lald C rfl nv1 ev1 dX0_shift_7 ?_
  refine v_aload_n C dX0_shift_8 rfl 0 rfl ?_
  refine v_getR C (p' := 25) fl_RX0_18 rfl rfl dX0_shift_9 ?_
  refine v_iload_n C dX0_shift_12 rfl 2 rfl ?_
  refine v_iconst C (v := (1 : Int32)) dX0_shift_13 (by decide) ?_
  refine v_iadd C dX0_shift_14 ?_
  obtain ⟨nv2, v2, ev2, h⟩ := rdL_ex h
  refine x_lald C rfl nv2 ev2 dX0_shift_15 ?_
  refine v_lneg C dX0_shift_16 ?_
  refine v_land C dX0_shift_17 ?_
  refine v_lstore_n C (lv' := [(3, .long _), (0, .ref _), (1, .ref _), (2, .int _)]) dX0_shift_18 rfl (by decide) rfl ?_
  refine v_iload_n C dX0_shift_19 rfl 3 rfl ?_
  refine v_istore C (lv' := [(5, .int _), (3, .long _), (0, .ref _), (1, .ref _), (2, .int _)]) dX0_shift_20 (by decide) rfl ?_
  refine V.sub (lv' := [(0, .ref _), (1, .ref _), (3, .long _), (5, .int _)]) [2, 3, 1, 0] rfl ?_
  exact b_X0_shift_22 C FU _ _  _ _ _ h
theorem dX0_solve_0 : decode cX0_solve 0 = .ok (.aload_n 0, 1) := by decide +kernel
theorem dX0_solve_1 : decode cX0_solve 1 = .ok (.aload_n 1, 1) := by decide +kernel
theorem dX0_solve_2 : decode cX0_solve 2 = .ok (.invokevirtual 22, 3) := by decide +kernel
theorem dX0_solve_5 : decode cX0_solve 5 = .ok (.aload_n 0, 1) := by decide +kernel
theorem dX0_solve_6 : decode cX0_solve 6 = .ok (.lconst 0, 1) := by decide +kernel
theorem dX0_solve_7 : decode cX0_solve 7 = .ok (.putfield 26, 3) := by decide +kernel
theorem dX0_solve_10 : decode cX0_solve 10 = .ok (.iconst 0, 1) := by decide +kernel
theorem dX0_solve_11 : decode cX0_solve 11 = .ok (.istore_n 2, 1) := by decide +kernel
theorem dX0_solve_12 : decode cX0_solve 12 = .ok (.iload_n 2, 1) := by decide +kernel
theorem dX0_solve_13 : decode cX0_solve 13 = .ok (.bipush 64, 2) := by decide +kernel
theorem dX0_solve_15 : decode cX0_solve 15 = .ok (.if_icmp .ge 26, 3) := by decide +kernel
theorem dX0_solve_18 : decode cX0_solve 18 = .ok (.aload_n 0, 1) := by decide +kernel
theorem dX0_solve_19 : decode cX0_solve 19 = .ok (.aload_n 1, 1) := by decide +kernel
theorem dX0_solve_20 : decode cX0_solve 20 = .ok (.invokevirtual 30, 3) := by decide +kernel
theorem dX0_solve_23 : decode cX0_solve 23 = .ok (.istore_n 3, 1) := by decide +kernel
theorem dX0_solve_24 : decode cX0_solve 24 = .ok (.iload_n 3, 1) := by decide +kernel
theorem dX0_solve_25 : decode cX0_solve 25 = .ok (.ifCond .ge 4, 3) := by decide +kernel
theorem dX0_solve_28 : decode cX0_solve 28 = .ok (.return_, 1) := by decide +kernel
theorem dX0_solve_29 : decode cX0_solve 29 = .ok (.aload_n 0, 1) := by decide +kernel
theorem dX0_solve_30 : decode cX0_solve 30 = .ok (.aload_n 1, 1) := by decide +kernel
theorem dX0_solve_31 : decode cX0_solve 31 = .ok (.iload_n 3, 1) := by decide +kernel
theorem dX0_solve_32 : decode cX0_solve 32 = .ok (.invokevirtual 34, 3) := by decide +kernel
theorem dX0_solve_35 : decode cX0_solve 35 = .ok (.iinc 2 1, 3) := by decide +kernel
theorem dX0_solve_38 : decode cX0_solve 38 = .ok (.goto (-26), 3) := by decide +kernel
theorem dX0_solve_41 : decode cX0_solve 41 = .ok (.return_, 1) := by decide +kernel
def f_X0_solve_12 : Nat → Int32 → St → Option (Unit × St)
  | 0, _, _ => none
  | n + 1, x2, σ =>
    if (64 : Int32) ≤ x2 then
      some ((), σ)
    else
      bd (f_X0_search σ) fun v1 σ2 =>
      if 0 ≤ v1 then
        bd (f_X0_shift v1 σ2) fun _ σ4 =>
        f_X0_solve_12 n (x2 + 1) σ4
      else
        some ((), σ2)
set_option maxRecDepth 100000 in
set_option maxHeartbeats 4000000 in
theorem b_X0_solve_12 {g : Geo} {x : Cx} (C : Ok g x cX0_solve RX0 4 none rm_X0_solve) : ∀ (n : Nat) (x2 : Int32) (σ : St) (r : Unit) (σ' : St), f_X0_solve_12 n x2 σ = some (r, σ') → V g x (qm g x none σ') 4 σ [(0, .ref (g.1 3)), (1, .ref (g.1 1)), (2, .int x2)] [] 12 := by
  intro n
  induction n with
  | zero =>
    intro x2 σ r σ' h
    rw [f_X0_solve_12] at h
    cases h
  | succ n ih =>
    intro x2 σ r σ' h
    rw [f_X0_solve_12] at h
    refine v_iload_n C dX0_solve_12 rfl 2 rfl ?_
    refine v_bipush C (v := (64 : Int32)) dX0_solve_13 (by decide) ?_
    refine v_icmp_ge C (tgt := 41) dX0_solve_15 (by decide) (fun q6 => ?_) (fun q6 => ?_)
    · rw [if_pos q6] at h
      cases h
      exact v_vret C dX0_solve_41
    · rw [if_neg q6] at h
      refine v_aload_n C dX0_solve_18 rfl 0 rfl ?_
      refine v_aload_n C dX0_solve_19 rfl 1 rfl ?_
      obtain ⟨v1, σ2, cσ2, h⟩ := bd_some h
      refine callVi C (c_X0_search cσ2) km_X0_search kv_X0_search rfl ml_RX0_30 rfl rfl (by decide) (Nat.le_of_ble_eq_true rfl) dX0_solve_20 ?_
      refine v_istore_n C (lv' := [(3, .int _), (0, .ref _), (1, .ref _), (2, .int _)]) dX0_solve_23 rfl (by decide) rfl ?_
      refine v_iload_n C dX0_solve_24 rfl 0 rfl ?_
      refine v_if_ge C (tgt := 29) dX0_solve_25 (by decide) (fun q5 => ?_) (fun q5 => ?_)
      · rw [if_pos q5] at h
        refine v_aload_n C dX0_solve_29 rfl 1 rfl ?_
        refine v_aload_n C dX0_solve_30 rfl 2 rfl ?_
        refine v_iload_n C dX0_solve_31 rfl 0 rfl ?_
        obtain ⟨v3, σ4, cσ4, h⟩ := bd_some h
        refine callVv C (c_X0_shift cσ4) km_X0_shift kv_X0_shift rfl ml_RX0_34 rfl rfl (by decide) (Nat.le_of_ble_eq_true rfl) dX0_solve_32 ?_
        refine v_iinc C (v := (x2 + 1)) (lv' := [(2, .int _), (3, .int _), (0, .ref _), (1, .ref _)]) dX0_solve_35 3 rfl rfl (by decide) rfl ?_
        refine v_goto C (tgt := 12) dX0_solve_38 (by decide) ?_
        refine V.sub (lv' := [(0, .ref _), (1, .ref _), (2, .int _)]) [2, 3, 0] rfl ?_
        exact ih _  _ _ _ h
      · rw [if_neg q5] at h
        cases h
        exact v_vret C dX0_solve_28
def f_X0_solve (σ : St) : Option (Unit × St) :=
  bd (f_X0_layGreedily σ) fun _ σ2 =>
  fL σ2 3 2 (0 : Int64) fun σ3 =>
  f_X0_solve_12 FU (0 : Int32) σ3
set_option maxRecDepth 100000 in
set_option maxHeartbeats 4000000 in
theorem c_X0_solve {g : Geo} {σ : St} {r : Unit} {σ' : St} (h : f_X0_solve σ = some (r, σ')) : Ct g yX0_solve cX0_solve 4 none rm_X0_solve [.ref (g.1 3), .ref (g.1 1)] σ none σ' := by
  refine ct_of (own := RX0) (by decide) rfl (Nat.le_of_ble_eq_true rfl) (fun x C => ?_) ⟨rfl, rfl⟩
  show V g x _ 4 σ [(0, .ref (g.1 3)), (1, .ref (g.1 1))] [] 0
  unfold f_X0_solve at h
  refine v_aload_n C dX0_solve_0 rfl 0 rfl ?_
  refine v_aload_n C dX0_solve_1 rfl 1 rfl ?_
  obtain ⟨v1, σ2, cσ2, h⟩ := bd_some h
  refine callVv C (c_X0_layGreedily cσ2) km_X0_layGreedily kv_X0_layGreedily rfl ml_RX0_22 rfl rfl (by decide) (Nat.le_of_ble_eq_true rfl) dX0_solve_2 ?_
  refine v_aload_n C dX0_solve_5 rfl 0 rfl ?_
  refine v_lconst C (v := (0 : Int64)) dX0_solve_6 (by decide) ?_
  obtain ⟨σ3, eσ3, h⟩ := fL_ex h
  refine x_putL C fl_RX0_26 fw_0_2 rfl eσ3 dX0_solve_7 ?_
  refine v_iconst C (v := (0 : Int32)) dX0_solve_10 (by decide) ?_
  refine v_istore_n C (lv' := [(2, .int _), (0, .ref _), (1, .ref _)]) dX0_solve_11 rfl (by decide) rfl ?_
  refine V.sub (lv' := [(0, .ref _), (1, .ref _), (2, .int _)]) [1, 2, 0] rfl ?_
  exact b_X0_solve_12 C FU _  _ _ _ h
theorem dJ13_bitCount_95d88_0 : decode cJ13_bitCount_95d88 0 = .ok (.lload_n 0, 1) := by decide +kernel
theorem dJ13_bitCount_95d88_1 : decode cJ13_bitCount_95d88 1 = .ok (.lload_n 0, 1) := by decide +kernel
theorem dJ13_bitCount_95d88_2 : decode cJ13_bitCount_95d88 2 = .ok (.iconst 1, 1) := by decide +kernel
theorem dJ13_bitCount_95d88_3 : decode cJ13_bitCount_95d88 3 = .ok (.lushr, 1) := by decide +kernel
theorem dJ13_bitCount_95d88_4 : decode cJ13_bitCount_95d88 4 = .ok (.ldc2_w 314, 3) := by decide +kernel
theorem dJ13_bitCount_95d88_7 : decode cJ13_bitCount_95d88 7 = .ok (.land, 1) := by decide +kernel
theorem dJ13_bitCount_95d88_8 : decode cJ13_bitCount_95d88 8 = .ok (.lsub, 1) := by decide +kernel
theorem dJ13_bitCount_95d88_9 : decode cJ13_bitCount_95d88 9 = .ok (.lstore_n 0, 1) := by decide +kernel
theorem dJ13_bitCount_95d88_10 : decode cJ13_bitCount_95d88 10 = .ok (.lload_n 0, 1) := by decide +kernel
theorem dJ13_bitCount_95d88_11 : decode cJ13_bitCount_95d88 11 = .ok (.ldc2_w 316, 3) := by decide +kernel
theorem dJ13_bitCount_95d88_14 : decode cJ13_bitCount_95d88 14 = .ok (.land, 1) := by decide +kernel
theorem dJ13_bitCount_95d88_15 : decode cJ13_bitCount_95d88 15 = .ok (.lload_n 0, 1) := by decide +kernel
theorem dJ13_bitCount_95d88_16 : decode cJ13_bitCount_95d88 16 = .ok (.iconst 2, 1) := by decide +kernel
theorem dJ13_bitCount_95d88_17 : decode cJ13_bitCount_95d88 17 = .ok (.lushr, 1) := by decide +kernel
theorem dJ13_bitCount_95d88_18 : decode cJ13_bitCount_95d88 18 = .ok (.ldc2_w 316, 3) := by decide +kernel
theorem dJ13_bitCount_95d88_21 : decode cJ13_bitCount_95d88 21 = .ok (.land, 1) := by decide +kernel
theorem dJ13_bitCount_95d88_22 : decode cJ13_bitCount_95d88 22 = .ok (.ladd, 1) := by decide +kernel
theorem dJ13_bitCount_95d88_23 : decode cJ13_bitCount_95d88 23 = .ok (.lstore_n 0, 1) := by decide +kernel
theorem dJ13_bitCount_95d88_24 : decode cJ13_bitCount_95d88 24 = .ok (.lload_n 0, 1) := by decide +kernel
theorem dJ13_bitCount_95d88_25 : decode cJ13_bitCount_95d88 25 = .ok (.lload_n 0, 1) := by decide +kernel
theorem dJ13_bitCount_95d88_26 : decode cJ13_bitCount_95d88 26 = .ok (.iconst 4, 1) := by decide +kernel
theorem dJ13_bitCount_95d88_27 : decode cJ13_bitCount_95d88 27 = .ok (.lushr, 1) := by decide +kernel
theorem dJ13_bitCount_95d88_28 : decode cJ13_bitCount_95d88 28 = .ok (.ladd, 1) := by decide +kernel
theorem dJ13_bitCount_95d88_29 : decode cJ13_bitCount_95d88 29 = .ok (.ldc2_w 318, 3) := by decide +kernel
theorem dJ13_bitCount_95d88_32 : decode cJ13_bitCount_95d88 32 = .ok (.land, 1) := by decide +kernel
theorem dJ13_bitCount_95d88_33 : decode cJ13_bitCount_95d88 33 = .ok (.lstore_n 0, 1) := by decide +kernel
theorem dJ13_bitCount_95d88_34 : decode cJ13_bitCount_95d88 34 = .ok (.lload_n 0, 1) := by decide +kernel
theorem dJ13_bitCount_95d88_35 : decode cJ13_bitCount_95d88 35 = .ok (.lload_n 0, 1) := by decide +kernel
theorem dJ13_bitCount_95d88_36 : decode cJ13_bitCount_95d88 36 = .ok (.bipush 8, 2) := by decide +kernel
theorem dJ13_bitCount_95d88_38 : decode cJ13_bitCount_95d88 38 = .ok (.lushr, 1) := by decide +kernel
theorem dJ13_bitCount_95d88_39 : decode cJ13_bitCount_95d88 39 = .ok (.ladd, 1) := by decide +kernel
theorem dJ13_bitCount_95d88_40 : decode cJ13_bitCount_95d88 40 = .ok (.lstore_n 0, 1) := by decide +kernel
theorem dJ13_bitCount_95d88_41 : decode cJ13_bitCount_95d88 41 = .ok (.lload_n 0, 1) := by decide +kernel
theorem dJ13_bitCount_95d88_42 : decode cJ13_bitCount_95d88 42 = .ok (.lload_n 0, 1) := by decide +kernel
theorem dJ13_bitCount_95d88_43 : decode cJ13_bitCount_95d88 43 = .ok (.bipush 16, 2) := by decide +kernel
theorem dJ13_bitCount_95d88_45 : decode cJ13_bitCount_95d88 45 = .ok (.lushr, 1) := by decide +kernel
theorem dJ13_bitCount_95d88_46 : decode cJ13_bitCount_95d88 46 = .ok (.ladd, 1) := by decide +kernel
theorem dJ13_bitCount_95d88_47 : decode cJ13_bitCount_95d88 47 = .ok (.lstore_n 0, 1) := by decide +kernel
theorem dJ13_bitCount_95d88_48 : decode cJ13_bitCount_95d88 48 = .ok (.lload_n 0, 1) := by decide +kernel
theorem dJ13_bitCount_95d88_49 : decode cJ13_bitCount_95d88 49 = .ok (.lload_n 0, 1) := by decide +kernel
theorem dJ13_bitCount_95d88_50 : decode cJ13_bitCount_95d88 50 = .ok (.bipush 32, 2) := by decide +kernel
theorem dJ13_bitCount_95d88_52 : decode cJ13_bitCount_95d88 52 = .ok (.lushr, 1) := by decide +kernel
theorem dJ13_bitCount_95d88_53 : decode cJ13_bitCount_95d88 53 = .ok (.ladd, 1) := by decide +kernel
theorem dJ13_bitCount_95d88_54 : decode cJ13_bitCount_95d88 54 = .ok (.lstore_n 0, 1) := by decide +kernel
theorem dJ13_bitCount_95d88_55 : decode cJ13_bitCount_95d88 55 = .ok (.lload_n 0, 1) := by decide +kernel
theorem dJ13_bitCount_95d88_56 : decode cJ13_bitCount_95d88 56 = .ok (.l2i, 1) := by decide +kernel
theorem dJ13_bitCount_95d88_57 : decode cJ13_bitCount_95d88 57 = .ok (.bipush 127, 2) := by decide +kernel
theorem dJ13_bitCount_95d88_59 : decode cJ13_bitCount_95d88 59 = .ok (.iand, 1) := by decide +kernel
theorem dJ13_bitCount_95d88_60 : decode cJ13_bitCount_95d88 60 = .ok (.ireturn, 1) := by decide +kernel
def f_J13_bitCount_95d88_55 (x0 : Int64) (σ : St) : Option (Int32 × St) :=
  some ((((x0).toInt32) &&& (127 : Int32)), σ)
set_option maxRecDepth 100000 in
set_option maxHeartbeats 4000000 in
theorem b_J13_bitCount_95d88_55 {g : Geo} {x : Cx} (C : Ok g x cJ13_bitCount_95d88 RJ13 2 (some .int) rm_J13_bitCount_95d88) : ∀ (x0 : Int64) (σ : St) (r : Int32) (σ' : St), f_J13_bitCount_95d88_55 x0 σ = some (r, σ') → V g x (qm g x (some (.int r)) σ') 2 σ [(0, .long x0)] [] 55 := by
  intro x0 σ r σ' h
  unfold f_J13_bitCount_95d88_55 at h
  refine v_lload_n C dJ13_bitCount_95d88_55 rfl 0 rfl ?_
  refine v_l2i C dJ13_bitCount_95d88_56 ?_
  refine v_bipush C (v := (127 : Int32)) dJ13_bitCount_95d88_57 (by decide) ?_
  refine v_iand C dJ13_bitCount_95d88_59 ?_
  cases h
  exact v_iret C dJ13_bitCount_95d88_60
def f_J13_bitCount_95d88_48 (x0 : Int64) (σ : St) : Option (Int32 × St) :=
  f_J13_bitCount_95d88_55 (x0 + (lushr x0 (32 : Int32))) σ
set_option maxRecDepth 100000 in
set_option maxHeartbeats 4000000 in
theorem b_J13_bitCount_95d88_48 {g : Geo} {x : Cx} (C : Ok g x cJ13_bitCount_95d88 RJ13 2 (some .int) rm_J13_bitCount_95d88) : ∀ (x0 : Int64) (σ : St) (r : Int32) (σ' : St), f_J13_bitCount_95d88_48 x0 σ = some (r, σ') → V g x (qm g x (some (.int r)) σ') 2 σ [(0, .long x0)] [] 48 := by
  intro x0 σ r σ' h
  unfold f_J13_bitCount_95d88_48 at h
  refine v_lload_n C dJ13_bitCount_95d88_48 rfl 0 rfl ?_
  refine v_lload_n C dJ13_bitCount_95d88_49 rfl 0 rfl ?_
  refine v_bipush C (v := (32 : Int32)) dJ13_bitCount_95d88_50 (by decide) ?_
  refine v_lushr C dJ13_bitCount_95d88_52 ?_
  refine v_ladd C dJ13_bitCount_95d88_53 ?_
  refine v_lstore_n C (lv' := [(0, .long _)]) dJ13_bitCount_95d88_54 rfl (by decide) rfl ?_
  refine V.sub (lv' := [(0, .long _)]) [0] rfl ?_
  exact b_J13_bitCount_95d88_55 C _  _ _ _ h
def f_J13_bitCount_95d88_41 (x0 : Int64) (σ : St) : Option (Int32 × St) :=
  f_J13_bitCount_95d88_48 (x0 + (lushr x0 (16 : Int32))) σ
set_option maxRecDepth 100000 in
set_option maxHeartbeats 4000000 in
theorem b_J13_bitCount_95d88_41 {g : Geo} {x : Cx} (C : Ok g x cJ13_bitCount_95d88 RJ13 2 (some .int) rm_J13_bitCount_95d88) : ∀ (x0 : Int64) (σ : St) (r : Int32) (σ' : St), f_J13_bitCount_95d88_41 x0 σ = some (r, σ') → V g x (qm g x (some (.int r)) σ') 2 σ [(0, .long x0)] [] 41 := by
  intro x0 σ r σ' h
  unfold f_J13_bitCount_95d88_41 at h
  refine v_lload_n C dJ13_bitCount_95d88_41 rfl 0 rfl ?_
  refine v_lload_n C dJ13_bitCount_95d88_42 rfl 0 rfl ?_
  refine v_bipush C (v := (16 : Int32)) dJ13_bitCount_95d88_43 (by decide) ?_
  refine v_lushr C dJ13_bitCount_95d88_45 ?_
  refine v_ladd C dJ13_bitCount_95d88_46 ?_
  refine v_lstore_n C (lv' := [(0, .long _)]) dJ13_bitCount_95d88_47 rfl (by decide) rfl ?_
  refine V.sub (lv' := [(0, .long _)]) [0] rfl ?_
  exact b_J13_bitCount_95d88_48 C _  _ _ _ h
def f_J13_bitCount_95d88_34 (x0 : Int64) (σ : St) : Option (Int32 × St) :=
  f_J13_bitCount_95d88_41 (x0 + (lushr x0 (8 : Int32))) σ
set_option maxRecDepth 100000 in
set_option maxHeartbeats 4000000 in
theorem b_J13_bitCount_95d88_34 {g : Geo} {x : Cx} (C : Ok g x cJ13_bitCount_95d88 RJ13 2 (some .int) rm_J13_bitCount_95d88) : ∀ (x0 : Int64) (σ : St) (r : Int32) (σ' : St), f_J13_bitCount_95d88_34 x0 σ = some (r, σ') → V g x (qm g x (some (.int r)) σ') 2 σ [(0, .long x0)] [] 34 := by
  intro x0 σ r σ' h
  unfold f_J13_bitCount_95d88_34 at h
  refine v_lload_n C dJ13_bitCount_95d88_34 rfl 0 rfl ?_
  refine v_lload_n C dJ13_bitCount_95d88_35 rfl 0 rfl ?_
  refine v_bipush C (v := (8 : Int32)) dJ13_bitCount_95d88_36 (by decide) ?_
  refine v_lushr C dJ13_bitCount_95d88_38 ?_
  refine v_ladd C dJ13_bitCount_95d88_39 ?_
  refine v_lstore_n C (lv' := [(0, .long _)]) dJ13_bitCount_95d88_40 rfl (by decide) rfl ?_
  refine V.sub (lv' := [(0, .long _)]) [0] rfl ?_
  exact b_J13_bitCount_95d88_41 C _  _ _ _ h
def f_J13_bitCount_95d88_24 (x0 : Int64) (σ : St) : Option (Int32 × St) :=
  f_J13_bitCount_95d88_34 ((x0 + (lushr x0 (4 : Int32))) &&& (1085102592571150095 : Int64)) σ
set_option maxRecDepth 100000 in
set_option maxHeartbeats 4000000 in
theorem b_J13_bitCount_95d88_24 {g : Geo} {x : Cx} (C : Ok g x cJ13_bitCount_95d88 RJ13 2 (some .int) rm_J13_bitCount_95d88) : ∀ (x0 : Int64) (σ : St) (r : Int32) (σ' : St), f_J13_bitCount_95d88_24 x0 σ = some (r, σ') → V g x (qm g x (some (.int r)) σ') 2 σ [(0, .long x0)] [] 24 := by
  intro x0 σ r σ' h
  unfold f_J13_bitCount_95d88_24 at h
  refine v_lload_n C dJ13_bitCount_95d88_24 rfl 0 rfl ?_
  refine v_lload_n C dJ13_bitCount_95d88_25 rfl 0 rfl ?_
  refine v_iconst C (v := (4 : Int32)) dJ13_bitCount_95d88_26 (by decide) ?_
  refine v_lushr C dJ13_bitCount_95d88_27 ?_
  refine v_ladd C dJ13_bitCount_95d88_28 ?_
  refine v_ldc2_w C (v := (1085102592571150095 : Int64)) conl_RJ13_318 dJ13_bitCount_95d88_29 ?_
  refine v_land C dJ13_bitCount_95d88_32 ?_
  refine v_lstore_n C (lv' := [(0, .long _)]) dJ13_bitCount_95d88_33 rfl (by decide) rfl ?_
  refine V.sub (lv' := [(0, .long _)]) [0] rfl ?_
  exact b_J13_bitCount_95d88_34 C _  _ _ _ h
def f_J13_bitCount_95d88_10 (x0 : Int64) (σ : St) : Option (Int32 × St) :=
  f_J13_bitCount_95d88_24 ((x0 &&& (3689348814741910323 : Int64)) + ((lushr x0 (2 : Int32)) &&& (3689348814741910323 : Int64))) σ
set_option maxRecDepth 100000 in
set_option maxHeartbeats 4000000 in
theorem b_J13_bitCount_95d88_10 {g : Geo} {x : Cx} (C : Ok g x cJ13_bitCount_95d88 RJ13 2 (some .int) rm_J13_bitCount_95d88) : ∀ (x0 : Int64) (σ : St) (r : Int32) (σ' : St), f_J13_bitCount_95d88_10 x0 σ = some (r, σ') → V g x (qm g x (some (.int r)) σ') 2 σ [(0, .long x0)] [] 10 := by
  intro x0 σ r σ' h
  unfold f_J13_bitCount_95d88_10 at h
  refine v_lload_n C dJ13_bitCount_95d88_10 rfl 0 rfl ?_
  refine v_ldc2_w C (v := (3689348814741910323 : Int64)) conl_RJ13_316 dJ13_bitCount_95d88_11 ?_
  refine v_land C dJ13_bitCount_95d88_14 ?_
  refine v_lload_n C dJ13_bitCount_95d88_15 rfl 0 rfl ?_
  refine v_iconst C (v := (2 : Int32)) dJ13_bitCount_95d88_16 (by decide) ?_
  refine v_lushr C dJ13_bitCount_95d88_17 ?_
  refine v_ldc2_w C (v := (3689348814741910323 : Int64)) conl_RJ13_316 dJ13_bitCount_95d88_18 ?_
  refine v_land C dJ13_bitCount_95d88_21 ?_
  refine v_ladd C dJ13_bitCount_95d88_22 ?_
  refine v_lstore_n C (lv' := [(0, .long _)]) dJ13_bitCount_95d88_23 rfl (by decide) rfl ?_
  refine V.sub (lv' := [(0, .long _)]) [0] rfl ?_
  exact b_J13_bitCount_95d88_24 C _  _ _ _ h
def f_J13_bitCount_95d88 (a1 : Int64) (σ : St) : Option (Int32 × St) :=
  f_J13_bitCount_95d88_10 (a1 - ((lushr a1 (1 : Int32)) &&& (6148914691236517205 : Int64))) σ
set_option maxRecDepth 100000 in
set_option maxHeartbeats 4000000 in
theorem c_J13_bitCount_95d88 {g : Geo} {a1 : Int64} {σ : St} {r : Int32} {σ' : St} (h : f_J13_bitCount_95d88 a1 σ = some (r, σ')) : Ct g yJ13_bitCount_95d88 cJ13_bitCount_95d88 2 (some .int) rm_J13_bitCount_95d88 [.long a1] σ (some (.int r)) σ' := by
  refine ct_of (own := RJ13) (by decide) rfl (Nat.le_of_ble_eq_true rfl) (fun x C => ?_) ⟨rfl, rfl⟩
  show V g x _ 2 σ [(0, .long a1)] [] 0
  unfold f_J13_bitCount_95d88 at h
  refine v_lload_n C dJ13_bitCount_95d88_0 rfl 0 rfl ?_
  refine v_lload_n C dJ13_bitCount_95d88_1 rfl 0 rfl ?_
  refine v_iconst C (v := (1 : Int32)) dJ13_bitCount_95d88_2 (by decide) ?_
  refine v_lushr C dJ13_bitCount_95d88_3 ?_
  refine v_ldc2_w C (v := (6148914691236517205 : Int64)) conl_RJ13_314 dJ13_bitCount_95d88_4 ?_
  refine v_land C dJ13_bitCount_95d88_7 ?_
  refine v_lsub C dJ13_bitCount_95d88_8 ?_
  refine v_lstore_n C (lv' := [(0, .long _)]) dJ13_bitCount_95d88_9 rfl (by decide) rfl ?_
  refine V.sub (lv' := [(0, .long _)]) [0] rfl ?_
  exact b_J13_bitCount_95d88_10 C _  _ _ _ h
theorem dX0_joined_0 : decode cX0_joined 0 = .ok (.aload_n 0, 1) := by decide +kernel
theorem dX0_joined_1 : decode cX0_joined 1 = .ok (.getfield 12, 3) := by decide +kernel
theorem dX0_joined_4 : decode cX0_joined 4 = .ok (.getfield 38, 3) := by decide +kernel
theorem dX0_joined_7 : decode cX0_joined 7 = .ok (.aload_n 0, 1) := by decide +kernel
theorem dX0_joined_8 : decode cX0_joined 8 = .ok (.getfield 12, 3) := by decide +kernel
theorem dX0_joined_11 : decode cX0_joined 11 = .ok (.getfield 41, 3) := by decide +kernel
theorem dX0_joined_14 : decode cX0_joined 14 = .ok (.lor, 1) := by decide +kernel
theorem dX0_joined_15 : decode cX0_joined 15 = .ok (.aload_n 0, 1) := by decide +kernel
theorem dX0_joined_16 : decode cX0_joined 16 = .ok (.getfield 12, 3) := by decide +kernel
theorem dX0_joined_19 : decode cX0_joined 19 = .ok (.getfield 44, 3) := by decide +kernel
theorem dX0_joined_22 : decode cX0_joined 22 = .ok (.lor, 1) := by decide +kernel
theorem dX0_joined_23 : decode cX0_joined 23 = .ok (.invokestatic 47, 3) := by decide +kernel
theorem dX0_joined_26 : decode cX0_joined 26 = .ok (.ireturn, 1) := by decide +kernel
def f_X0_joined (σ : St) : Option (Int32 × St) :=
  bd (f_J13_bitCount_95d88 (((gl σ 13 1) ||| (gl σ 13 2)) ||| (gl σ 13 3)) σ) fun v1 σ2 =>
  some (v1, σ2)
set_option maxRecDepth 100000 in
set_option maxHeartbeats 4000000 in
theorem c_X0_joined {g : Geo} {σ : St} {r : Int32} {σ' : St} (h : f_X0_joined σ = some (r, σ')) : Ct g yX0_joined cX0_joined 1 (some .int) rm_X0_joined [.ref (g.1 3)] σ (some (.int r)) σ' := by
  refine ct_of (own := RX0) (by decide) rfl (Nat.le_of_ble_eq_true rfl) (fun x C => ?_) ⟨rfl, rfl⟩
  show V g x _ 1 σ [(0, .ref (g.1 3))] [] 0
  unfold f_X0_joined at h
  refine v_aload_n C dX0_joined_0 rfl 0 rfl ?_
  refine v_getR C (p' := 13) fl_RX0_12 rfl rfl dX0_joined_1 ?_
  refine v_getL C fl_RX0_38 rfl dX0_joined_4 ?_
  refine v_aload_n C dX0_joined_7 rfl 0 rfl ?_
  refine v_getR C (p' := 13) fl_RX0_12 rfl rfl dX0_joined_8 ?_
  refine v_getL C fl_RX0_41 rfl dX0_joined_11 ?_
  refine v_lor C dX0_joined_14 ?_
  refine v_aload_n C dX0_joined_15 rfl 0 rfl ?_
  refine v_getR C (p' := 13) fl_RX0_12 rfl rfl dX0_joined_16 ?_
  refine v_getL C fl_RX0_44 rfl dX0_joined_19 ?_
  refine v_lor C dX0_joined_22 ?_
  obtain ⟨v1, σ2, cσ2, h⟩ := bd_some h
  refine callSi C (c_J13_bitCount_95d88 cσ2) km_J13_bitCount_95d88 ks_J13_bitCount_95d88 ml_RX0_47 rfl rfl (by decide) (Nat.le_of_ble_eq_true rfl) dX0_joined_23 ?_
  cases h
  exact v_iret C dX0_joined_26
theorem dX1_pointBit_0 : decode cX1_pointBit 0 = .ok (.iload_n 1, 1) := by decide +kernel
theorem dX1_pointBit_1 : decode cX1_pointBit 1 = .ok (.aload_n 0, 1) := by decide +kernel
theorem dX1_pointBit_2 : decode cX1_pointBit 2 = .ok (.getfield 9, 3) := by decide +kernel
theorem dX1_pointBit_5 : decode cX1_pointBit 5 = .ok (.if_icmp .ge 24, 3) := by decide +kernel
theorem dX1_pointBit_8 : decode cX1_pointBit 8 = .ok (.iload_n 2, 1) := by decide +kernel
theorem dX1_pointBit_9 : decode cX1_pointBit 9 = .ok (.aload_n 0, 1) := by decide +kernel
theorem dX1_pointBit_10 : decode cX1_pointBit 10 = .ok (.getfield 15, 3) := by decide +kernel
theorem dX1_pointBit_13 : decode cX1_pointBit 13 = .ok (.if_icmp .ge 16, 3) := by decide +kernel
theorem dX1_pointBit_16 : decode cX1_pointBit 16 = .ok (.lconst 1, 1) := by decide +kernel
theorem dX1_pointBit_17 : decode cX1_pointBit 17 = .ok (.iload_n 2, 1) := by decide +kernel
theorem dX1_pointBit_18 : decode cX1_pointBit 18 = .ok (.aload_n 0, 1) := by decide +kernel
theorem dX1_pointBit_19 : decode cX1_pointBit 19 = .ok (.getfield 9, 3) := by decide +kernel
theorem dX1_pointBit_22 : decode cX1_pointBit 22 = .ok (.imul, 1) := by decide +kernel
theorem dX1_pointBit_23 : decode cX1_pointBit 23 = .ok (.iload_n 1, 1) := by decide +kernel
theorem dX1_pointBit_24 : decode cX1_pointBit 24 = .ok (.iadd, 1) := by decide +kernel
theorem dX1_pointBit_25 : decode cX1_pointBit 25 = .ok (.lshl, 1) := by decide +kernel
theorem dX1_pointBit_26 : decode cX1_pointBit 26 = .ok (.goto 4, 3) := by decide +kernel
theorem dX1_pointBit_29 : decode cX1_pointBit 29 = .ok (.lconst 0, 1) := by decide +kernel
theorem dX1_pointBit_30 : decode cX1_pointBit 30 = .ok (.lreturn, 1) := by decide +kernel
def f_X1_pointBit_30 (s0 : Int64) (σ : St) : Option (Int64 × St) :=
  some (s0, σ)
set_option maxRecDepth 100000 in
set_option maxHeartbeats 4000000 in
theorem b_X1_pointBit_30 {g : Geo} {x : Cx} (C : Ok g x cX1_pointBit RX1 3 (some .long) rm_X1_pointBit) : ∀ (s0 : Int64) (σ : St) (r : Int64) (σ' : St), f_X1_pointBit_30 s0 σ = some (r, σ') → V g x (qm g x (some (.long r)) σ') 3 σ [] [.long s0] 30 := by
  intro s0 σ r σ' h
  unfold f_X1_pointBit_30 at h
  cases h
  exact v_lret C dX1_pointBit_30
def f_X1_pointBit_29 (σ : St) : Option (Int64 × St) :=
  f_X1_pointBit_30 (0 : Int64) σ
set_option maxRecDepth 100000 in
set_option maxHeartbeats 4000000 in
theorem b_X1_pointBit_29 {g : Geo} {x : Cx} (C : Ok g x cX1_pointBit RX1 3 (some .long) rm_X1_pointBit) : ∀ (σ : St) (r : Int64) (σ' : St), f_X1_pointBit_29 σ = some (r, σ') → V g x (qm g x (some (.long r)) σ') 3 σ [] [] 29 := by
  intro σ r σ' h
  unfold f_X1_pointBit_29 at h
  refine v_lconst C (v := (0 : Int64)) dX1_pointBit_29 (by decide) ?_
  refine V.sub (lv' := []) [] rfl ?_
  exact b_X1_pointBit_30 C _  _ _ _ h
def f_X1_pointBit (a1 : Int32) (a2 : Int32) (σ : St) : Option (Int64 × St) :=
  if (gi σ 1 0) ≤ a1 then
    f_X1_pointBit_29 σ
  else
    if (gi σ 1 1) ≤ a2 then
      f_X1_pointBit_29 σ
    else
      f_X1_pointBit_30 (lshl (1 : Int64) ((a2 * (gi σ 1 0)) + a1)) σ
set_option maxRecDepth 100000 in
set_option maxHeartbeats 4000000 in
theorem c_X1_pointBit {g : Geo} {a1 : Int32} {a2 : Int32} {σ : St} {r : Int64} {σ' : St} (h : f_X1_pointBit a1 a2 σ = some (r, σ')) : Ct g yX1_pointBit cX1_pointBit 3 (some .long) rm_X1_pointBit [.ref (g.1 1), .int a1, .int a2] σ (some (.long r)) σ' := by
  refine ct_of (own := RX1) (by decide) rfl (Nat.le_of_ble_eq_true rfl) (fun x C => ?_) ⟨rfl, rfl⟩
  show V g x _ 3 σ [(0, .ref (g.1 1)), (1, .int a1), (2, .int a2)] [] 0
  unfold f_X1_pointBit at h
  refine v_iload_n C dX1_pointBit_0 rfl 1 rfl ?_
  refine v_aload_n C dX1_pointBit_1 rfl 0 rfl ?_
  refine v_getI C fl_RX1_9 rfl dX1_pointBit_2 ?_
  refine v_icmp_ge C (tgt := 29) dX1_pointBit_5 (by decide) (fun q2 => ?_) (fun q2 => ?_)
  · rw [if_pos q2] at h
    refine V.sub (lv' := []) [] rfl ?_
    exact b_X1_pointBit_29 C  _ _ _ h
  · rw [if_neg q2] at h
    refine v_iload_n C dX1_pointBit_8 rfl 2 rfl ?_
    refine v_aload_n C dX1_pointBit_9 rfl 0 rfl ?_
    refine v_getI C fl_RX1_15 rfl dX1_pointBit_10 ?_
    refine v_icmp_ge C (tgt := 29) dX1_pointBit_13 (by decide) (fun q1 => ?_) (fun q1 => ?_)
    · rw [if_pos q1] at h
      refine V.sub (lv' := []) [] rfl ?_
      exact b_X1_pointBit_29 C  _ _ _ h
    · rw [if_neg q1] at h
      refine v_lconst C (v := (1 : Int64)) dX1_pointBit_16 (by decide) ?_
      refine v_iload_n C dX1_pointBit_17 rfl 2 rfl ?_
      refine v_aload_n C dX1_pointBit_18 rfl 0 rfl ?_
      refine v_getI C fl_RX1_9 rfl dX1_pointBit_19 ?_
      refine v_imul C dX1_pointBit_22 ?_
      refine v_iload_n C dX1_pointBit_23 rfl 1 rfl ?_
      refine v_iadd C dX1_pointBit_24 ?_
      refine v_lshl C dX1_pointBit_25 ?_
      refine v_goto C (tgt := 30) dX1_pointBit_26 (by decide) ?_
      refine V.sub (lv' := []) [] rfl ?_
      exact b_X1_pointBit_30 C _  _ _ _ h
theorem dX1_findInner_0 : decode cX1_findInner 0 = .ok (.aload_n 0, 1) := by decide +kernel
theorem dX1_findInner_1 : decode cX1_findInner 1 = .ok (.getfield 31, 3) := by decide +kernel
theorem dX1_findInner_4 : decode cX1_findInner 4 = .ok (.aload_n 0, 1) := by decide +kernel
theorem dX1_findInner_5 : decode cX1_findInner 5 = .ok (.getfield 31, 3) := by decide +kernel
theorem dX1_findInner_8 : decode cX1_findInner 8 = .ok (.iconst 1, 1) := by decide +kernel
theorem dX1_findInner_9 : decode cX1_findInner 9 = .ok (.lshl, 1) := by decide +kernel
theorem dX1_findInner_10 : decode cX1_findInner 10 = .ok (.land, 1) := by decide +kernel
theorem dX1_findInner_11 : decode cX1_findInner 11 = .ok (.aload_n 0, 1) := by decide +kernel
theorem dX1_findInner_12 : decode cX1_findInner 12 = .ok (.getfield 31, 3) := by decide +kernel
theorem dX1_findInner_15 : decode cX1_findInner 15 = .ok (.aload_n 0, 1) := by decide +kernel
theorem dX1_findInner_16 : decode cX1_findInner 16 = .ok (.getfield 9, 3) := by decide +kernel
theorem dX1_findInner_19 : decode cX1_findInner 19 = .ok (.lshl, 1) := by decide +kernel
theorem dX1_findInner_20 : decode cX1_findInner 20 = .ok (.land, 1) := by decide +kernel
theorem dX1_findInner_21 : decode cX1_findInner 21 = .ok (.lstore_n 1, 1) := by decide +kernel
theorem dX1_findInner_22 : decode cX1_findInner 22 = .ok (.aload_n 0, 1) := by decide +kernel
theorem dX1_findInner_23 : decode cX1_findInner 23 = .ok (.getfield 34, 3) := by decide +kernel
theorem dX1_findInner_26 : decode cX1_findInner 26 = .ok (.iconst 1, 1) := by decide +kernel
theorem dX1_findInner_27 : decode cX1_findInner 27 = .ok (.lshl, 1) := by decide +kernel
theorem dX1_findInner_28 : decode cX1_findInner 28 = .ok (.aload_n 0, 1) := by decide +kernel
theorem dX1_findInner_29 : decode cX1_findInner 29 = .ok (.getfield 34, 3) := by decide +kernel
theorem dX1_findInner_32 : decode cX1_findInner 32 = .ok (.aload_n 0, 1) := by decide +kernel
theorem dX1_findInner_33 : decode cX1_findInner 33 = .ok (.getfield 9, 3) := by decide +kernel
theorem dX1_findInner_36 : decode cX1_findInner 36 = .ok (.lshl, 1) := by decide +kernel
theorem dX1_findInner_37 : decode cX1_findInner 37 = .ok (.land, 1) := by decide +kernel
theorem dX1_findInner_38 : decode cX1_findInner 38 = .ok (.aload_n 0, 1) := by decide +kernel
theorem dX1_findInner_39 : decode cX1_findInner 39 = .ok (.getfield 34, 3) := by decide +kernel
theorem dX1_findInner_42 : decode cX1_findInner 42 = .ok (.aload_n 0, 1) := by decide +kernel
theorem dX1_findInner_43 : decode cX1_findInner 43 = .ok (.getfield 9, 3) := by decide +kernel
theorem dX1_findInner_46 : decode cX1_findInner 46 = .ok (.iconst 1, 1) := by decide +kernel
theorem dX1_findInner_47 : decode cX1_findInner 47 = .ok (.iadd, 1) := by decide +kernel
theorem dX1_findInner_48 : decode cX1_findInner 48 = .ok (.lshl, 1) := by decide +kernel
theorem dX1_findInner_49 : decode cX1_findInner 49 = .ok (.land, 1) := by decide +kernel
theorem dX1_findInner_50 : decode cX1_findInner 50 = .ok (.lstore_n 3, 1) := by decide +kernel
theorem dX1_findInner_51 : decode cX1_findInner 51 = .ok (.aload_n 0, 1) := by decide +kernel
theorem dX1_findInner_52 : decode cX1_findInner 52 = .ok (.lload_n 1, 1) := by decide +kernel
theorem dX1_findInner_53 : decode cX1_findInner 53 = .ok (.lload_n 3, 1) := by decide +kernel
theorem dX1_findInner_54 : decode cX1_findInner 54 = .ok (.land, 1) := by decide +kernel
theorem dX1_findInner_55 : decode cX1_findInner 55 = .ok (.aload_n 0, 1) := by decide +kernel
theorem dX1_findInner_56 : decode cX1_findInner 56 = .ok (.getfield 21, 3) := by decide +kernel
theorem dX1_findInner_59 : decode cX1_findInner 59 = .ok (.land, 1) := by decide +kernel
theorem dX1_findInner_60 : decode cX1_findInner 60 = .ok (.putfield 44, 3) := by decide +kernel
theorem dX1_findInner_63 : decode cX1_findInner 63 = .ok (.return_, 1) := by decide +kernel
def f_X1_findInner (σ : St) : Option (Unit × St) :=
  fL σ 1 6 (((((gl σ 1 3) &&& (lshl (gl σ 1 3) (1 : Int32))) &&& (lshl (gl σ 1 3) (gi σ 1 0))) &&& (((lshl (gl σ 1 4) (1 : Int32)) &&& (lshl (gl σ 1 4) (gi σ 1 0))) &&& (lshl (gl σ 1 4) ((gi σ 1 0) + (1 : Int32))))) &&& (gl σ 1 5)) fun σ1 =>
  some ((), σ1)
set_option maxRecDepth 100000 in
set_option maxHeartbeats 4000000 in
theorem c_X1_findInner {g : Geo} {σ : St} {r : Unit} {σ' : St} (h : f_X1_findInner σ = some (r, σ')) : Ct g yX1_findInner cX1_findInner 5 none rm_X1_findInner [.ref (g.1 1)] σ none σ' := by
  refine ct_of (own := RX1) (by decide) rfl (Nat.le_of_ble_eq_true rfl) (fun x C => ?_) ⟨rfl, rfl⟩
  show V g x _ 5 σ [(0, .ref (g.1 1))] [] 0
  unfold f_X1_findInner at h
  refine v_aload_n C dX1_findInner_0 rfl 0 rfl ?_
  refine v_getL C fl_RX1_31 rfl dX1_findInner_1 ?_
  refine v_aload_n C dX1_findInner_4 rfl 0 rfl ?_
  refine v_getL C fl_RX1_31 rfl dX1_findInner_5 ?_
  refine v_iconst C (v := (1 : Int32)) dX1_findInner_8 (by decide) ?_
  refine v_lshl C dX1_findInner_9 ?_
  refine v_land C dX1_findInner_10 ?_
  refine v_aload_n C dX1_findInner_11 rfl 0 rfl ?_
  refine v_getL C fl_RX1_31 rfl dX1_findInner_12 ?_
  refine v_aload_n C dX1_findInner_15 rfl 0 rfl ?_
  refine v_getI C fl_RX1_9 rfl dX1_findInner_16 ?_
  refine v_lshl C dX1_findInner_19 ?_
  refine v_land C dX1_findInner_20 ?_
  refine v_lstore_n C (lv' := [(1, .long _), (0, .ref _)]) dX1_findInner_21 rfl (by decide) rfl ?_
  refine v_aload_n C dX1_findInner_22 rfl 1 rfl ?_
  refine v_getL C fl_RX1_34 rfl dX1_findInner_23 ?_
  refine v_iconst C (v := (1 : Int32)) dX1_findInner_26 (by decide) ?_
  refine v_lshl C dX1_findInner_27 ?_
  refine v_aload_n C dX1_findInner_28 rfl 1 rfl ?_
  refine v_getL C fl_RX1_34 rfl dX1_findInner_29 ?_
  refine v_aload_n C dX1_findInner_32 rfl 1 rfl ?_
  refine v_getI C fl_RX1_9 rfl dX1_findInner_33 ?_
  refine v_lshl C dX1_findInner_36 ?_
  refine v_land C dX1_findInner_37 ?_
  refine v_aload_n C dX1_findInner_38 rfl 1 rfl ?_
  refine v_getL C fl_RX1_34 rfl dX1_findInner_39 ?_
  refine v_aload_n C dX1_findInner_42 rfl 1 rfl ?_
  refine v_getI C fl_RX1_9 rfl dX1_findInner_43 ?_
  refine v_iconst C (v := (1 : Int32)) dX1_findInner_46 (by decide) ?_
  refine v_iadd C dX1_findInner_47 ?_
  refine v_lshl C dX1_findInner_48 ?_
  refine v_land C dX1_findInner_49 ?_
  refine v_lstore_n C (lv' := [(3, .long _), (1, .long _), (0, .ref _)]) dX1_findInner_50 rfl (by decide) rfl ?_
  refine v_aload_n C dX1_findInner_51 rfl 2 rfl ?_
  refine v_lload_n C dX1_findInner_52 rfl 1 rfl ?_
  refine v_lload_n C dX1_findInner_53 rfl 0 rfl ?_
  refine v_land C dX1_findInner_54 ?_
  refine v_aload_n C dX1_findInner_55 rfl 2 rfl ?_
  refine v_getL C fl_RX1_21 rfl dX1_findInner_56 ?_
  refine v_land C dX1_findInner_59 ?_
  obtain ⟨σ1, eσ1, h⟩ := fL_ex h
  refine x_putL C fl_RX1_44 fw_1_6 rfl eσ1 dX1_findInner_60 ?_
  cases h
  exact v_vret C dX1_findInner_63
theorem dX1_shape_0 : decode cX1_shape 0 = .ok (.aload_n 0, 1) := by decide +kernel
theorem dX1_shape_1 : decode cX1_shape 1 = .ok (.iload_n 1, 1) := by decide +kernel
theorem dX1_shape_2 : decode cX1_shape 2 = .ok (.putfield 9, 3) := by decide +kernel
theorem dX1_shape_5 : decode cX1_shape 5 = .ok (.aload_n 0, 1) := by decide +kernel
theorem dX1_shape_6 : decode cX1_shape 6 = .ok (.iload_n 2, 1) := by decide +kernel
theorem dX1_shape_7 : decode cX1_shape 7 = .ok (.putfield 15, 3) := by decide +kernel
theorem dX1_shape_10 : decode cX1_shape 10 = .ok (.aload_n 0, 1) := by decide +kernel
theorem dX1_shape_11 : decode cX1_shape 11 = .ok (.iload_n 1, 1) := by decide +kernel
theorem dX1_shape_12 : decode cX1_shape 12 = .ok (.iload_n 2, 1) := by decide +kernel
theorem dX1_shape_13 : decode cX1_shape 13 = .ok (.imul, 1) := by decide +kernel
theorem dX1_shape_14 : decode cX1_shape 14 = .ok (.putfield 18, 3) := by decide +kernel
theorem dX1_shape_17 : decode cX1_shape 17 = .ok (.aload_n 0, 1) := by decide +kernel
theorem dX1_shape_18 : decode cX1_shape 18 = .ok (.lconst 0, 1) := by decide +kernel
theorem dX1_shape_19 : decode cX1_shape 19 = .ok (.putfield 21, 3) := by decide +kernel
theorem dX1_shape_22 : decode cX1_shape 22 = .ok (.iconst 0, 1) := by decide +kernel
theorem dX1_shape_23 : decode cX1_shape 23 = .ok (.istore_n 3, 1) := by decide +kernel
theorem dX1_shape_24 : decode cX1_shape 24 = .ok (.iload_n 3, 1) := by decide +kernel
theorem dX1_shape_25 : decode cX1_shape 25 = .ok (.aload_n 0, 1) := by decide +kernel
theorem dX1_shape_26 : decode cX1_shape 26 = .ok (.getfield 15, 3) := by decide +kernel
theorem dX1_shape_29 : decode cX1_shape 29 = .ok (.if_icmp .ge 43, 3) := by decide +kernel
theorem dX1_shape_32 : decode cX1_shape 32 = .ok (.iconst 1, 1) := by decide +kernel
theorem dX1_shape_33 : decode cX1_shape 33 = .ok (.istore 4, 2) := by decide +kernel
theorem dX1_shape_35 : decode cX1_shape 35 = .ok (.iload 4, 2) := by decide +kernel
theorem dX1_shape_37 : decode cX1_shape 37 = .ok (.aload_n 0, 1) := by decide +kernel
theorem dX1_shape_38 : decode cX1_shape 38 = .ok (.getfield 9, 3) := by decide +kernel
theorem dX1_shape_41 : decode cX1_shape 41 = .ok (.if_icmp .ge 25, 3) := by decide +kernel
theorem dX1_shape_44 : decode cX1_shape 44 = .ok (.aload_n 0, 1) := by decide +kernel
theorem dX1_shape_45 : decode cX1_shape 45 = .ok (.dup, 1) := by decide +kernel
theorem dX1_shape_46 : decode cX1_shape 46 = .ok (.getfield 21, 3) := by decide +kernel
theorem dX1_shape_49 : decode cX1_shape 49 = .ok (.aload_n 0, 1) := by decide +kernel
theorem dX1_shape_50 : decode cX1_shape 50 = .ok (.iload 4, 2) := by decide +kernel
theorem dX1_shape_52 : decode cX1_shape 52 = .ok (.iload_n 3, 1) := by decide +kernel
theorem dX1_shape_53 : decode cX1_shape 53 = .ok (.invokevirtual 25, 3) := by decide +kernel
theorem dX1_shape_56 : decode cX1_shape 56 = .ok (.lor, 1) := by decide +kernel
theorem dX1_shape_57 : decode cX1_shape 57 = .ok (.putfield 21, 3) := by decide +kernel
theorem dX1_shape_60 : decode cX1_shape 60 = .ok (.iinc 4 1, 3) := by decide +kernel
theorem dX1_shape_63 : decode cX1_shape 63 = .ok (.goto (-28), 3) := by decide +kernel
theorem dX1_shape_66 : decode cX1_shape 66 = .ok (.iinc 3 1, 3) := by decide +kernel
theorem dX1_shape_69 : decode cX1_shape 69 = .ok (.goto (-45), 3) := by decide +kernel
theorem dX1_shape_72 : decode cX1_shape 72 = .ok (.aload_n 0, 1) := by decide +kernel
theorem dX1_shape_73 : decode cX1_shape 73 = .ok (.ldc2_w 29, 3) := by decide +kernel
theorem dX1_shape_76 : decode cX1_shape 76 = .ok (.bipush 64, 2) := by decide +kernel
theorem dX1_shape_78 : decode cX1_shape 78 = .ok (.aload_n 0, 1) := by decide +kernel
theorem dX1_shape_79 : decode cX1_shape 79 = .ok (.getfield 18, 3) := by decide +kernel
theorem dX1_shape_82 : decode cX1_shape 82 = .ok (.isub, 1) := by decide +kernel
theorem dX1_shape_83 : decode cX1_shape 83 = .ok (.lushr, 1) := by decide +kernel
theorem dX1_shape_84 : decode cX1_shape 84 = .ok (.putfield 31, 3) := by decide +kernel
theorem dX1_shape_87 : decode cX1_shape 87 = .ok (.aload_n 0, 1) := by decide +kernel
theorem dX1_shape_88 : decode cX1_shape 88 = .ok (.aload_n 0, 1) := by decide +kernel
theorem dX1_shape_89 : decode cX1_shape 89 = .ok (.getfield 31, 3) := by decide +kernel
theorem dX1_shape_92 : decode cX1_shape 92 = .ok (.putfield 34, 3) := by decide +kernel
theorem dX1_shape_95 : decode cX1_shape 95 = .ok (.aload_n 0, 1) := by decide +kernel
theorem dX1_shape_96 : decode cX1_shape 96 = .ok (.invokevirtual 37, 3) := by decide +kernel
theorem dX1_shape_99 : decode cX1_shape 99 = .ok (.return_, 1) := by decide +kernel
def f_X1_shape_35 (k24 : Int32 → St → Option (Unit × St)) : Nat → Int32 → Int32 → St → Option (Unit × St)
  | 0, _, _, _ => none
  | n + 1, x3, x4, σ =>
    if (gi σ 1 0) ≤ x4 then
      k24 (x3 + 1) σ
    else
      bd (f_X1_pointBit x4 x3 σ) fun v1 σ2 =>
      fL σ2 1 5 ((gl σ 1 5) ||| v1) fun σ3 =>
      f_X1_shape_35 k24 n x3 (x4 + 1) σ3
set_option maxRecDepth 100000 in
set_option maxHeartbeats 4000000 in
theorem b_X1_shape_35 {g : Geo} {x : Cx} (C : Ok g x cX1_shape RX1 5 none rm_X1_shape) (k24 : Int32 → St → Option (Unit × St)) (hk24 : ∀ (x3 : Int32) (τ : St) (r : Unit) (τ' : St), k24 x3 τ = some (r, τ') → V g x (qm g x none τ') 5 τ [(0, .ref (g.1 1)), (3, .int x3)] [] 24) : ∀ (n : Nat) (x3 : Int32) (x4 : Int32) (σ : St) (r : Unit) (σ' : St), f_X1_shape_35 k24 n x3 x4 σ = some (r, σ') → V g x (qm g x none σ') 5 σ [(0, .ref (g.1 1)), (3, .int x3), (4, .int x4)] [] 35 := by
  intro n
  induction n with
  | zero =>
    intro x3 x4 σ r σ' h
    rw [f_X1_shape_35] at h
    cases h
  | succ n ih =>
    intro x3 x4 σ r σ' h
    rw [f_X1_shape_35] at h
    refine v_iload C dX1_shape_35 2 rfl ?_
    refine v_aload_n C dX1_shape_37 rfl 0 rfl ?_
    refine v_getI C fl_RX1_9 rfl dX1_shape_38 ?_
    refine v_icmp_ge C (tgt := 66) dX1_shape_41 (by decide) (fun q4 => ?_) (fun q4 => ?_)
    · rw [if_pos q4] at h
      refine v_iinc C (v := (x3 + 1)) (lv' := [(3, .int _), (0, .ref _), (4, .int _)]) dX1_shape_66 1 rfl rfl (by decide) rfl ?_
      refine v_goto C (tgt := 24) dX1_shape_69 (by decide) ?_
      refine V.sub (lv' := [(0, .ref _), (3, .int _)]) [1, 0] rfl ?_
      exact hk24 _  _ _ _ h
    · rw [if_neg q4] at h
      refine v_aload_n C dX1_shape_44 rfl 0 rfl ?_
      refine v_dup C dX1_shape_45 rfl ?_
      refine v_getL C fl_RX1_21 rfl dX1_shape_46 ?_
      refine v_aload_n C dX1_shape_49 rfl 0 rfl ?_
      refine v_iload C dX1_shape_50 2 rfl ?_
      refine v_iload_n C dX1_shape_52 rfl 1 rfl ?_
      obtain ⟨v1, σ2, cσ2, h⟩ := bd_some h
      refine callVl C (c_X1_pointBit cσ2) km_X1_pointBit kv_X1_pointBit rfl ml_RX1_25 rfl rfl (by decide) (Nat.le_of_ble_eq_true rfl) dX1_shape_53 ?_
      refine v_lor C dX1_shape_56 ?_
      obtain ⟨σ3, eσ3, h⟩ := fL_ex h
      refine x_putL C fl_RX1_21 fw_1_5 rfl eσ3 dX1_shape_57 ?_
      refine v_iinc C (v := (x4 + 1)) (lv' := [(4, .int _), (0, .ref _), (3, .int _)]) dX1_shape_60 2 rfl rfl (by decide) rfl ?_
      refine v_goto C (tgt := 35) dX1_shape_63 (by decide) ?_
      refine V.sub (lv' := [(0, .ref _), (3, .int _), (4, .int _)]) [1, 2, 0] rfl ?_
      exact ih _ _  _ _ _ h
def f_X1_shape_24 : Nat → Int32 → St → Option (Unit × St)
  | 0, _, _ => none
  | n + 1, x3, σ =>
    if (gi σ 1 1) ≤ x3 then
      fL σ 1 3 (lushr (-1 : Int64) ((64 : Int32) - (gi σ 1 2))) fun σ1 =>
      fL σ1 1 4 (gl σ1 1 3) fun σ2 =>
      bd (f_X1_findInner σ2) fun _ σ4 =>
      some ((), σ4)
    else
      f_X1_shape_35 (f_X1_shape_24 n) FU x3 (1 : Int32) σ
set_option maxRecDepth 100000 in
set_option maxHeartbeats 4000000 in
theorem b_X1_shape_24 {g : Geo} {x : Cx} (C : Ok g x cX1_shape RX1 5 none rm_X1_shape) : ∀ (n : Nat) (x3 : Int32) (σ : St) (r : Unit) (σ' : St), f_X1_shape_24 n x3 σ = some (r, σ') → V g x (qm g x none σ') 5 σ [(0, .ref (g.1 1)), (3, .int x3)] [] 24 := by
  intro n
  induction n with
  | zero =>
    intro x3 σ r σ' h
    rw [f_X1_shape_24] at h
    cases h
  | succ n ih =>
    intro x3 σ r σ' h
    rw [f_X1_shape_24] at h
    refine v_iload_n C dX1_shape_24 rfl 1 rfl ?_
    refine v_aload_n C dX1_shape_25 rfl 0 rfl ?_
    refine v_getI C fl_RX1_15 rfl dX1_shape_26 ?_
    refine v_icmp_ge C (tgt := 72) dX1_shape_29 (by decide) (fun q5 => ?_) (fun q5 => ?_)
    · rw [if_pos q5] at h
      refine v_aload_n C dX1_shape_72 rfl 0 rfl ?_
      refine v_ldc2_w C (v := (-1 : Int64)) conl_RX1_29 dX1_shape_73 ?_
      refine v_bipush C (v := (64 : Int32)) dX1_shape_76 (by decide) ?_
      refine v_aload_n C dX1_shape_78 rfl 0 rfl ?_
      refine v_getI C fl_RX1_18 rfl dX1_shape_79 ?_
      refine v_isub C dX1_shape_82 ?_
      refine v_lushr C dX1_shape_83 ?_
      obtain ⟨σ1, eσ1, h⟩ := fL_ex h
      refine x_putL C fl_RX1_31 fw_1_3 rfl eσ1 dX1_shape_84 ?_
      refine v_aload_n C dX1_shape_87 rfl 0 rfl ?_
      refine v_aload_n C dX1_shape_88 rfl 0 rfl ?_
      refine v_getL C fl_RX1_31 rfl dX1_shape_89 ?_
      obtain ⟨σ2, eσ2, h⟩ := fL_ex h
      refine x_putL C fl_RX1_34 fw_1_4 rfl eσ2 dX1_shape_92 ?_
      refine v_aload_n C dX1_shape_95 rfl 0 rfl ?_
      obtain ⟨v3, σ4, cσ4, h⟩ := bd_some h
      refine callVv C (c_X1_findInner cσ4) km_X1_findInner kv_X1_findInner rfl ml_RX1_37 rfl rfl (by decide) (Nat.le_of_ble_eq_true rfl) dX1_shape_96 ?_
      cases h
      exact v_vret C dX1_shape_99
    · rw [if_neg q5] at h
      refine v_iconst C (v := (1 : Int32)) dX1_shape_32 (by decide) ?_
      refine v_istore C (lv' := [(4, .int _), (0, .ref _), (3, .int _)]) dX1_shape_33 (by decide) rfl ?_
      refine V.sub (lv' := [(0, .ref _), (3, .int _), (4, .int _)]) [1, 2, 0] rfl ?_
      exact b_X1_shape_35 C _ ih FU _ _  _ _ _ h
def f_X1_shape (a1 : Int32) (a2 : Int32) (σ : St) : Option (Unit × St) :=
  fI σ 1 0 a1 fun σ1 =>
  fI σ1 1 1 a2 fun σ2 =>
  fI σ2 1 2 (a1 * a2) fun σ3 =>
  fL σ3 1 5 (0 : Int64) fun σ4 =>
  f_X1_shape_24 FU (0 : Int32) σ4
set_option maxRecDepth 100000 in
set_option maxHeartbeats 4000000 in
theorem c_X1_shape {g : Geo} {a1 : Int32} {a2 : Int32} {σ : St} {r : Unit} {σ' : St} (h : f_X1_shape a1 a2 σ = some (r, σ')) : Ct g yX1_shape cX1_shape 5 none rm_X1_shape [.ref (g.1 1), .int a1, .int a2] σ none σ' := by
  refine ct_of (own := RX1) (by decide) rfl (Nat.le_of_ble_eq_true rfl) (fun x C => ?_) ⟨rfl, rfl⟩
  show V g x _ 5 σ [(0, .ref (g.1 1)), (1, .int a1), (2, .int a2)] [] 0
  unfold f_X1_shape at h
  refine v_aload_n C dX1_shape_0 rfl 0 rfl ?_
  refine v_iload_n C dX1_shape_1 rfl 1 rfl ?_
  obtain ⟨σ1, eσ1, h⟩ := fI_ex h
  refine x_putI C fl_RX1_9 fw_1_0 rfl eσ1 dX1_shape_2 ?_
  refine v_aload_n C dX1_shape_5 rfl 0 rfl ?_
  refine v_iload_n C dX1_shape_6 rfl 2 rfl ?_
  obtain ⟨σ2, eσ2, h⟩ := fI_ex h
  refine x_putI C fl_RX1_15 fw_1_1 rfl eσ2 dX1_shape_7 ?_
  refine v_aload_n C dX1_shape_10 rfl 0 rfl ?_
  refine v_iload_n C dX1_shape_11 rfl 1 rfl ?_
  refine v_iload_n C dX1_shape_12 rfl 2 rfl ?_
  refine v_imul C dX1_shape_13 ?_
  obtain ⟨σ3, eσ3, h⟩ := fI_ex h
  refine x_putI C fl_RX1_18 fw_1_2 rfl eσ3 dX1_shape_14 ?_
  refine v_aload_n C dX1_shape_17 rfl 0 rfl ?_
  refine v_lconst C (v := (0 : Int64)) dX1_shape_18 (by decide) ?_
  obtain ⟨σ4, eσ4, h⟩ := fL_ex h
  refine x_putL C fl_RX1_21 fw_1_5 rfl eσ4 dX1_shape_19 ?_
  refine v_iconst C (v := (0 : Int32)) dX1_shape_22 (by decide) ?_
  refine v_istore_n C (lv' := [(3, .int _), (0, .ref _), (1, .int _), (2, .int _)]) dX1_shape_23 rfl (by decide) rfl ?_
  refine V.sub (lv' := [(0, .ref _), (3, .int _)]) [1, 0] rfl ?_
  exact b_X1_shape_24 C FU _  _ _ _ h
theorem dX1_shapeHexagon_0 : decode cX1_shapeHexagon 0 = .ok (.aload_n 0, 1) := by decide +kernel
theorem dX1_shapeHexagon_1 : decode cX1_shapeHexagon 1 = .ok (.iload_n 1, 1) := by decide +kernel
theorem dX1_shapeHexagon_2 : decode cX1_shapeHexagon 2 = .ok (.iload_n 3, 1) := by decide +kernel
theorem dX1_shapeHexagon_3 : decode cX1_shapeHexagon 3 = .ok (.iadd, 1) := by decide +kernel
theorem dX1_shapeHexagon_4 : decode cX1_shapeHexagon 4 = .ok (.iload_n 2, 1) := by decide +kernel
theorem dX1_shapeHexagon_5 : decode cX1_shapeHexagon 5 = .ok (.iload_n 3, 1) := by decide +kernel
theorem dX1_shapeHexagon_6 : decode cX1_shapeHexagon 6 = .ok (.iadd, 1) := by decide +kernel
theorem dX1_shapeHexagon_7 : decode cX1_shapeHexagon 7 = .ok (.invokevirtual 40, 3) := by decide +kernel
theorem dX1_shapeHexagon_10 : decode cX1_shapeHexagon 10 = .ok (.aload_n 0, 1) := by decide +kernel
theorem dX1_shapeHexagon_11 : decode cX1_shapeHexagon 11 = .ok (.lconst 0, 1) := by decide +kernel
theorem dX1_shapeHexagon_12 : decode cX1_shapeHexagon 12 = .ok (.putfield 31, 3) := by decide +kernel
theorem dX1_shapeHexagon_15 : decode cX1_shapeHexagon 15 = .ok (.aload_n 0, 1) := by decide +kernel
theorem dX1_shapeHexagon_16 : decode cX1_shapeHexagon 16 = .ok (.lconst 0, 1) := by decide +kernel
theorem dX1_shapeHexagon_17 : decode cX1_shapeHexagon 17 = .ok (.putfield 34, 3) := by decide +kernel
theorem dX1_shapeHexagon_20 : decode cX1_shapeHexagon 20 = .ok (.iconst 0, 1) := by decide +kernel
theorem dX1_shapeHexagon_21 : decode cX1_shapeHexagon 21 = .ok (.istore 4, 2) := by decide +kernel
theorem dX1_shapeHexagon_23 : decode cX1_shapeHexagon 23 = .ok (.iload 4, 2) := by decide +kernel
theorem dX1_shapeHexagon_25 : decode cX1_shapeHexagon 25 = .ok (.aload_n 0, 1) := by decide +kernel
theorem dX1_shapeHexagon_26 : decode cX1_shapeHexagon 26 = .ok (.getfield 15, 3) := by decide +kernel
theorem dX1_shapeHexagon_29 : decode cX1_shapeHexagon 29 = .ok (.if_icmp .ge 106, 3) := by decide +kernel
theorem dX1_shapeHexagon_32 : decode cX1_shapeHexagon 32 = .ok (.iconst 0, 1) := by decide +kernel
theorem dX1_shapeHexagon_33 : decode cX1_shapeHexagon 33 = .ok (.istore 5, 2) := by decide +kernel
theorem dX1_shapeHexagon_35 : decode cX1_shapeHexagon 35 = .ok (.iload 5, 2) := by decide +kernel
theorem dX1_shapeHexagon_37 : decode cX1_shapeHexagon 37 = .ok (.aload_n 0, 1) := by decide +kernel
theorem dX1_shapeHexagon_38 : decode cX1_shapeHexagon 38 = .ok (.getfield 9, 3) := by decide +kernel
theorem dX1_shapeHexagon_41 : decode cX1_shapeHexagon 41 = .ok (.if_icmp .ge 88, 3) := by decide +kernel
theorem dX1_shapeHexagon_44 : decode cX1_shapeHexagon 44 = .ok (.iload 5, 2) := by decide +kernel
theorem dX1_shapeHexagon_46 : decode cX1_shapeHexagon 46 = .ok (.iload 4, 2) := by decide +kernel
theorem dX1_shapeHexagon_48 : decode cX1_shapeHexagon 48 = .ok (.iadd, 1) := by decide +kernel
theorem dX1_shapeHexagon_49 : decode cX1_shapeHexagon 49 = .ok (.istore 6, 2) := by decide +kernel
theorem dX1_shapeHexagon_51 : decode cX1_shapeHexagon 51 = .ok (.iload 6, 2) := by decide +kernel
theorem dX1_shapeHexagon_53 : decode cX1_shapeHexagon 53 = .ok (.iload_n 3, 1) := by decide +kernel
theorem dX1_shapeHexagon_54 : decode cX1_shapeHexagon 54 = .ok (.if_icmp .lt 32, 3) := by decide +kernel
theorem dX1_shapeHexagon_57 : decode cX1_shapeHexagon 57 = .ok (.iload 6, 2) := by decide +kernel
theorem dX1_shapeHexagon_59 : decode cX1_shapeHexagon 59 = .ok (.iconst 1, 1) := by decide +kernel
theorem dX1_shapeHexagon_60 : decode cX1_shapeHexagon 60 = .ok (.iadd, 1) := by decide +kernel
theorem dX1_shapeHexagon_61 : decode cX1_shapeHexagon 61 = .ok (.iload_n 1, 1) := by decide +kernel
theorem dX1_shapeHexagon_62 : decode cX1_shapeHexagon 62 = .ok (.iload_n 2, 1) := by decide +kernel
theorem dX1_shapeHexagon_63 : decode cX1_shapeHexagon 63 = .ok (.iadd, 1) := by decide +kernel
theorem dX1_shapeHexagon_64 : decode cX1_shapeHexagon 64 = .ok (.iload_n 3, 1) := by decide +kernel
theorem dX1_shapeHexagon_65 : decode cX1_shapeHexagon 65 = .ok (.iadd, 1) := by decide +kernel
theorem dX1_shapeHexagon_66 : decode cX1_shapeHexagon 66 = .ok (.if_icmp .gt 20, 3) := by decide +kernel
theorem dX1_shapeHexagon_69 : decode cX1_shapeHexagon 69 = .ok (.aload_n 0, 1) := by decide +kernel
theorem dX1_shapeHexagon_70 : decode cX1_shapeHexagon 70 = .ok (.dup, 1) := by decide +kernel
theorem dX1_shapeHexagon_71 : decode cX1_shapeHexagon 71 = .ok (.getfield 31, 3) := by decide +kernel
theorem dX1_shapeHexagon_74 : decode cX1_shapeHexagon 74 = .ok (.aload_n 0, 1) := by decide +kernel
theorem dX1_shapeHexagon_75 : decode cX1_shapeHexagon 75 = .ok (.iload 5, 2) := by decide +kernel
theorem dX1_shapeHexagon_77 : decode cX1_shapeHexagon 77 = .ok (.iload 4, 2) := by decide +kernel
theorem dX1_shapeHexagon_79 : decode cX1_shapeHexagon 79 = .ok (.invokevirtual 25, 3) := by decide +kernel
theorem dX1_shapeHexagon_82 : decode cX1_shapeHexagon 82 = .ok (.lor, 1) := by decide +kernel
theorem dX1_shapeHexagon_83 : decode cX1_shapeHexagon 83 = .ok (.putfield 31, 3) := by decide +kernel
theorem dX1_shapeHexagon_86 : decode cX1_shapeHexagon 86 = .ok (.iload 6, 2) := by decide +kernel
theorem dX1_shapeHexagon_88 : decode cX1_shapeHexagon 88 = .ok (.iconst 1, 1) := by decide +kernel
theorem dX1_shapeHexagon_89 : decode cX1_shapeHexagon 89 = .ok (.iadd, 1) := by decide +kernel
theorem dX1_shapeHexagon_90 : decode cX1_shapeHexagon 90 = .ok (.iload_n 3, 1) := by decide +kernel
theorem dX1_shapeHexagon_91 : decode cX1_shapeHexagon 91 = .ok (.if_icmp .lt 32, 3) := by decide +kernel
theorem dX1_shapeHexagon_94 : decode cX1_shapeHexagon 94 = .ok (.iload 6, 2) := by decide +kernel
theorem dX1_shapeHexagon_96 : decode cX1_shapeHexagon 96 = .ok (.iconst 2, 1) := by decide +kernel
theorem dX1_shapeHexagon_97 : decode cX1_shapeHexagon 97 = .ok (.iadd, 1) := by decide +kernel
theorem dX1_shapeHexagon_98 : decode cX1_shapeHexagon 98 = .ok (.iload_n 1, 1) := by decide +kernel
theorem dX1_shapeHexagon_99 : decode cX1_shapeHexagon 99 = .ok (.iload_n 2, 1) := by decide +kernel
theorem dX1_shapeHexagon_100 : decode cX1_shapeHexagon 100 = .ok (.iadd, 1) := by decide +kernel
theorem dX1_shapeHexagon_101 : decode cX1_shapeHexagon 101 = .ok (.iload_n 3, 1) := by decide +kernel
theorem dX1_shapeHexagon_102 : decode cX1_shapeHexagon 102 = .ok (.iadd, 1) := by decide +kernel
theorem dX1_shapeHexagon_103 : decode cX1_shapeHexagon 103 = .ok (.if_icmp .gt 20, 3) := by decide +kernel
theorem dX1_shapeHexagon_106 : decode cX1_shapeHexagon 106 = .ok (.aload_n 0, 1) := by decide +kernel
theorem dX1_shapeHexagon_107 : decode cX1_shapeHexagon 107 = .ok (.dup, 1) := by decide +kernel
theorem dX1_shapeHexagon_108 : decode cX1_shapeHexagon 108 = .ok (.getfield 34, 3) := by decide +kernel
theorem dX1_shapeHexagon_111 : decode cX1_shapeHexagon 111 = .ok (.aload_n 0, 1) := by decide +kernel
theorem dX1_shapeHexagon_112 : decode cX1_shapeHexagon 112 = .ok (.iload 5, 2) := by decide +kernel
theorem dX1_shapeHexagon_114 : decode cX1_shapeHexagon 114 = .ok (.iload 4, 2) := by decide +kernel
theorem dX1_shapeHexagon_116 : decode cX1_shapeHexagon 116 = .ok (.invokevirtual 25, 3) := by decide +kernel
theorem dX1_shapeHexagon_119 : decode cX1_shapeHexagon 119 = .ok (.lor, 1) := by decide +kernel
theorem dX1_shapeHexagon_120 : decode cX1_shapeHexagon 120 = .ok (.putfield 34, 3) := by decide +kernel
theorem dX1_shapeHexagon_123 : decode cX1_shapeHexagon 123 = .ok (.iinc 5 1, 3) := by decide +kernel
theorem dX1_shapeHexagon_126 : decode cX1_shapeHexagon 126 = .ok (.goto (-91), 3) := by decide +kernel
theorem dX1_shapeHexagon_129 : decode cX1_shapeHexagon 129 = .ok (.iinc 4 1, 3) := by decide +kernel
theorem dX1_shapeHexagon_132 : decode cX1_shapeHexagon 132 = .ok (.goto (-109), 3) := by decide +kernel
theorem dX1_shapeHexagon_135 : decode cX1_shapeHexagon 135 = .ok (.aload_n 0, 1) := by decide +kernel
theorem dX1_shapeHexagon_136 : decode cX1_shapeHexagon 136 = .ok (.invokevirtual 37, 3) := by decide +kernel
theorem dX1_shapeHexagon_139 : decode cX1_shapeHexagon 139 = .ok (.return_, 1) := by decide +kernel
def f_X1_shapeHexagon_123 (k35 : Int32 → Int32 → Int32 → Int32 → Int32 → St → Option (Unit × St)) (x1 : Int32) (x2 : Int32) (x3 : Int32) (x4 : Int32) (x5 : Int32) (σ : St) : Option (Unit × St) :=
  k35 x1 x2 x3 x4 (x5 + 1) σ
set_option maxRecDepth 100000 in
set_option maxHeartbeats 4000000 in
theorem b_X1_shapeHexagon_123 {g : Geo} {x : Cx} (C : Ok g x cX1_shapeHexagon RX1 7 none rm_X1_shapeHexagon) (k35 : Int32 → Int32 → Int32 → Int32 → Int32 → St → Option (Unit × St)) (hk35 : ∀ (x1 : Int32) (x2 : Int32) (x3 : Int32) (x4 : Int32) (x5 : Int32) (τ : St) (r : Unit) (τ' : St), k35 x1 x2 x3 x4 x5 τ = some (r, τ') → V g x (qm g x none τ') 7 τ [(0, .ref (g.1 1)), (1, .int x1), (2, .int x2), (3, .int x3), (4, .int x4), (5, .int x5)] [] 35) : ∀ (x1 : Int32) (x2 : Int32) (x3 : Int32) (x4 : Int32) (x5 : Int32) (σ : St) (r : Unit) (σ' : St), f_X1_shapeHexagon_123 k35 x1 x2 x3 x4 x5 σ = some (r, σ') → V g x (qm g x none σ') 7 σ [(0, .ref (g.1 1)), (1, .int x1), (2, .int x2), (3, .int x3), (4, .int x4), (5, .int x5)] [] 123 := by
  intro x1 x2 x3 x4 x5 σ r σ' h
  unfold f_X1_shapeHexagon_123 at h
  refine v_iinc C (v := (x5 + 1)) (lv' := [(5, .int _), (0, .ref _), (1, .int _), (2, .int _), (3, .int _), (4, .int _)]) dX1_shapeHexagon_123 5 rfl rfl (by decide) rfl ?_
  refine v_goto C (tgt := 35) dX1_shapeHexagon_126 (by decide) ?_
  refine V.sub (lv' := [(0, .ref _), (1, .int _), (2, .int _), (3, .int _), (4, .int _), (5, .int _)]) [1, 2, 3, 4, 5, 0] rfl ?_
  exact hk35 _ _ _ _ _  _ _ _ h
def f_X1_shapeHexagon_86 (k35 : Int32 → Int32 → Int32 → Int32 → Int32 → St → Option (Unit × St)) (x1 : Int32) (x2 : Int32) (x3 : Int32) (x4 : Int32) (x5 : Int32) (x6 : Int32) (σ : St) : Option (Unit × St) :=
  if (x6 + (1 : Int32)) < x3 then
    f_X1_shapeHexagon_123 k35 x1 x2 x3 x4 x5 σ
  else
    if ((x1 + x2) + x3) < (x6 + (2 : Int32)) then
      f_X1_shapeHexagon_123 k35 x1 x2 x3 x4 x5 σ
    else
      bd (f_X1_pointBit x5 x4 σ) fun v1 σ2 =>
      fL σ2 1 4 ((gl σ 1 4) ||| v1) fun σ3 =>
      f_X1_shapeHexagon_123 k35 x1 x2 x3 x4 x5 σ3
set_option maxRecDepth 100000 in
set_option maxHeartbeats 4000000 in
theorem b_X1_shapeHexagon_86 {g : Geo} {x : Cx} (C : Ok g x cX1_shapeHexagon RX1 7 none rm_X1_shapeHexagon) (k35 : Int32 → Int32 → Int32 → Int32 → Int32 → St → Option (Unit × St)) (hk35 : ∀ (x1 : Int32) (x2 : Int32) (x3 : Int32) (x4 : Int32) (x5 : Int32) (τ : St) (r : Unit) (τ' : St), k35 x1 x2 x3 x4 x5 τ = some (r, τ') → V g x (qm g x none τ') 7 τ [(0, .ref (g.1 1)), (1, .int x1), (2, .int x2), (3, .int x3), (4, .int x4), (5, .int x5)] [] 35) : ∀ (x1 : Int32) (x2 : Int32) (x3 : Int32) (x4 : Int32) (x5 : Int32) (x6 : Int32) (σ : St) (r : Unit) (σ' : St), f_X1_shapeHexagon_86 k35 x1 x2 x3 x4 x5 x6 σ = some (r, σ') → V g x (qm g x none σ') 7 σ [(0, .ref (g.1 1)), (1, .int x1), (2, .int x2), (3, .int x3), (4, .int x4), (5, .int x5), (6, .int x6)] [] 86 := by
  intro x1 x2 x3 x4 x5 x6 σ r σ' h
  unfold f_X1_shapeHexagon_86 at h
  refine v_iload C dX1_shapeHexagon_86 6 rfl ?_
  refine v_iconst C (v := (1 : Int32)) dX1_shapeHexagon_88 (by decide) ?_
  refine v_iadd C dX1_shapeHexagon_89 ?_
  refine v_iload_n C dX1_shapeHexagon_90 rfl 3 rfl ?_
  refine v_icmp_lt C (tgt := 123) dX1_shapeHexagon_91 (by decide) (fun q5 => ?_) (fun q5 => ?_)
  · rw [if_pos q5] at h
    refine V.sub (lv' := [(0, .ref _), (1, .int _), (2, .int _), (3, .int _), (4, .int _), (5, .int _)]) [0, 1, 2, 3, 4, 5] rfl ?_
    exact b_X1_shapeHexagon_123 C _ hk35 _ _ _ _ _  _ _ _ h
  · rw [if_neg q5] at h
    refine v_iload C dX1_shapeHexagon_94 6 rfl ?_
    refine v_iconst C (v := (2 : Int32)) dX1_shapeHexagon_96 (by decide) ?_
    refine v_iadd C dX1_shapeHexagon_97 ?_
    refine v_iload_n C dX1_shapeHexagon_98 rfl 1 rfl ?_
    refine v_iload_n C dX1_shapeHexagon_99 rfl 2 rfl ?_
    refine v_iadd C dX1_shapeHexagon_100 ?_
    refine v_iload_n C dX1_shapeHexagon_101 rfl 3 rfl ?_
    refine v_iadd C dX1_shapeHexagon_102 ?_
    refine v_icmp_gt C (tgt := 123) dX1_shapeHexagon_103 (by decide) (fun q4 => ?_) (fun q4 => ?_)
    · rw [if_pos q4] at h
      refine V.sub (lv' := [(0, .ref _), (1, .int _), (2, .int _), (3, .int _), (4, .int _), (5, .int _)]) [0, 1, 2, 3, 4, 5] rfl ?_
      exact b_X1_shapeHexagon_123 C _ hk35 _ _ _ _ _  _ _ _ h
    · rw [if_neg q4] at h
      refine v_aload_n C dX1_shapeHexagon_106 rfl 0 rfl ?_
      refine v_dup C dX1_shapeHexagon_107 rfl ?_
      refine v_getL C fl_RX1_34 rfl dX1_shapeHexagon_108 ?_
      refine v_aload_n C dX1_shapeHexagon_111 rfl 0 rfl ?_
      refine v_iload C dX1_shapeHexagon_112 5 rfl ?_
      refine v_iload C dX1_shapeHexagon_114 4 rfl ?_
      obtain ⟨v1, σ2, cσ2, h⟩ := bd_some h
      refine callVl C (c_X1_pointBit cσ2) km_X1_pointBit kv_X1_pointBit rfl ml_RX1_25 rfl rfl (by decide) (Nat.le_of_ble_eq_true rfl) dX1_shapeHexagon_116 ?_
      refine v_lor C dX1_shapeHexagon_119 ?_
      obtain ⟨σ3, eσ3, h⟩ := fL_ex h
      refine x_putL C fl_RX1_34 fw_1_4 rfl eσ3 dX1_shapeHexagon_120 ?_
      refine V.sub (lv' := [(0, .ref _), (1, .int _), (2, .int _), (3, .int _), (4, .int _), (5, .int _)]) [0, 1, 2, 3, 4, 5] rfl ?_
      exact b_X1_shapeHexagon_123 C _ hk35 _ _ _ _ _  _ _ _ h
def f_X1_shapeHexagon_35 (k23 : Int32 → Int32 → Int32 → Int32 → St → Option (Unit × St)) : Nat → Int32 → Int32 → Int32 → Int32 → Int32 → St → Option (Unit × St)
  | 0, _, _, _, _, _, _ => none
  | n + 1, x1, x2, x3, x4, x5, σ =>
    if (gi σ 1 0) ≤ x5 then
      k23 x1 x2 x3 (x4 + 1) σ
    else
      if (x5 + x4) < x3 then
        f_X1_shapeHexagon_86 (f_X1_shapeHexagon_35 k23 n) x1 x2 x3 x4 x5 (x5 + x4) σ
      else
        if ((x1 + x2) + x3) < ((x5 + x4) + (1 : Int32)) then
          f_X1_shapeHexagon_86 (f_X1_shapeHexagon_35 k23 n) x1 x2 x3 x4 x5 (x5 + x4) σ
        else
          bd (f_X1_pointBit x5 x4 σ) fun v1 σ2 =>
          fL σ2 1 3 ((gl σ 1 3) ||| v1) fun σ3 =>
          f_X1_shapeHexagon_86 (f_X1_shapeHexagon_35 k23 n) x1 x2 x3 x4 x5 (x5 + x4) σ3
set_option maxRecDepth 100000 in
set_option maxHeartbeats 4000000 in
theorem b_X1_shapeHexagon_35 {g : Geo} {x : Cx} (C : Ok g x cX1_shapeHexagon RX1 7 none rm_X1_shapeHexagon) (k23 : Int32 → Int32 → Int32 → Int32 → St → Option (Unit × St)) (hk23 : ∀ (x1 : Int32) (x2 : Int32) (x3 : Int32) (x4 : Int32) (τ : St) (r : Unit) (τ' : St), k23 x1 x2 x3 x4 τ = some (r, τ') → V g x (qm g x none τ') 7 τ [(0, .ref (g.1 1)), (1, .int x1), (2, .int x2), (3, .int x3), (4, .int x4)] [] 23) : ∀ (n : Nat) (x1 : Int32) (x2 : Int32) (x3 : Int32) (x4 : Int32) (x5 : Int32) (σ : St) (r : Unit) (σ' : St), f_X1_shapeHexagon_35 k23 n x1 x2 x3 x4 x5 σ = some (r, σ') → V g x (qm g x none σ') 7 σ [(0, .ref (g.1 1)), (1, .int x1), (2, .int x2), (3, .int x3), (4, .int x4), (5, .int x5)] [] 35 := by
  intro n
  induction n with
  | zero =>
    intro x1 x2 x3 x4 x5 σ r σ' h
    rw [f_X1_shapeHexagon_35] at h
    cases h
  | succ n ih =>
    intro x1 x2 x3 x4 x5 σ r σ' h
    rw [f_X1_shapeHexagon_35] at h
    refine v_iload C dX1_shapeHexagon_35 5 rfl ?_
    refine v_aload_n C dX1_shapeHexagon_37 rfl 0 rfl ?_
    refine v_getI C fl_RX1_9 rfl dX1_shapeHexagon_38 ?_
    refine v_icmp_ge C (tgt := 129) dX1_shapeHexagon_41 (by decide) (fun q6 => ?_) (fun q6 => ?_)
    · rw [if_pos q6] at h
      refine v_iinc C (v := (x4 + 1)) (lv' := [(4, .int _), (0, .ref _), (1, .int _), (2, .int _), (3, .int _), (5, .int _)]) dX1_shapeHexagon_129 4 rfl rfl (by decide) rfl ?_
      refine v_goto C (tgt := 23) dX1_shapeHexagon_132 (by decide) ?_
      refine V.sub (lv' := [(0, .ref _), (1, .int _), (2, .int _), (3, .int _), (4, .int _)]) [1, 2, 3, 4, 0] rfl ?_
      exact hk23 _ _ _ _  _ _ _ h
    · rw [if_neg q6] at h
      refine v_iload C dX1_shapeHexagon_44 5 rfl ?_
      refine v_iload C dX1_shapeHexagon_46 4 rfl ?_
      refine v_iadd C dX1_shapeHexagon_48 ?_
      refine v_istore C (lv' := [(6, .int _), (0, .ref _), (1, .int _), (2, .int _), (3, .int _), (4, .int _), (5, .int _)]) dX1_shapeHexagon_49 (by decide) rfl ?_
      refine v_iload C dX1_shapeHexagon_51 0 rfl ?_
      refine v_iload_n C dX1_shapeHexagon_53 rfl 4 rfl ?_
      refine v_icmp_lt C (tgt := 86) dX1_shapeHexagon_54 (by decide) (fun q5 => ?_) (fun q5 => ?_)
      · rw [if_pos q5] at h
        refine V.sub (lv' := [(0, .ref _), (1, .int _), (2, .int _), (3, .int _), (4, .int _), (5, .int _), (6, .int _)]) [1, 2, 3, 4, 5, 6, 0] rfl ?_
        exact b_X1_shapeHexagon_86 C _ ih _ _ _ _ _ _  _ _ _ h
      · rw [if_neg q5] at h
        refine v_iload C dX1_shapeHexagon_57 0 rfl ?_
        refine v_iconst C (v := (1 : Int32)) dX1_shapeHexagon_59 (by decide) ?_
        refine v_iadd C dX1_shapeHexagon_60 ?_
        refine v_iload_n C dX1_shapeHexagon_61 rfl 2 rfl ?_
        refine v_iload_n C dX1_shapeHexagon_62 rfl 3 rfl ?_
        refine v_iadd C dX1_shapeHexagon_63 ?_
        refine v_iload_n C dX1_shapeHexagon_64 rfl 4 rfl ?_
        refine v_iadd C dX1_shapeHexagon_65 ?_
        refine v_icmp_gt C (tgt := 86) dX1_shapeHexagon_66 (by decide) (fun q4 => ?_) (fun q4 => ?_)
        · rw [if_pos q4] at h
          refine V.sub (lv' := [(0, .ref _), (1, .int _), (2, .int _), (3, .int _), (4, .int _), (5, .int _), (6, .int _)]) [1, 2, 3, 4, 5, 6, 0] rfl ?_
          exact b_X1_shapeHexagon_86 C _ ih _ _ _ _ _ _  _ _ _ h
        · rw [if_neg q4] at h
          refine v_aload_n C dX1_shapeHexagon_69 rfl 1 rfl ?_
          refine v_dup C dX1_shapeHexagon_70 rfl ?_
          refine v_getL C fl_RX1_31 rfl dX1_shapeHexagon_71 ?_
          refine v_aload_n C dX1_shapeHexagon_74 rfl 1 rfl ?_
          refine v_iload C dX1_shapeHexagon_75 6 rfl ?_
          refine v_iload C dX1_shapeHexagon_77 5 rfl ?_
          obtain ⟨v1, σ2, cσ2, h⟩ := bd_some h
          refine callVl C (c_X1_pointBit cσ2) km_X1_pointBit kv_X1_pointBit rfl ml_RX1_25 rfl rfl (by decide) (Nat.le_of_ble_eq_true rfl) dX1_shapeHexagon_79 ?_
          refine v_lor C dX1_shapeHexagon_82 ?_
          obtain ⟨σ3, eσ3, h⟩ := fL_ex h
          refine x_putL C fl_RX1_31 fw_1_3 rfl eσ3 dX1_shapeHexagon_83 ?_
          refine V.sub (lv' := [(0, .ref _), (1, .int _), (2, .int _), (3, .int _), (4, .int _), (5, .int _), (6, .int _)]) [1, 2, 3, 4, 5, 6, 0] rfl ?_
          exact b_X1_shapeHexagon_86 C _ ih _ _ _ _ _ _  _ _ _ h
def f_X1_shapeHexagon_23 : Nat → Int32 → Int32 → Int32 → Int32 → St → Option (Unit × St)
  | 0, _, _, _, _, _ => none
  | n + 1, x1, x2, x3, x4, σ =>
    if (gi σ 1 1) ≤ x4 then
      bd (f_X1_findInner σ) fun _ σ2 =>
      some ((), σ2)
    else
      f_X1_shapeHexagon_35 (f_X1_shapeHexagon_23 n) FU x1 x2 x3 x4 (0 : Int32) σ
set_option maxRecDepth 100000 in
set_option maxHeartbeats 4000000 in
theorem b_X1_shapeHexagon_23 {g : Geo} {x : Cx} (C : Ok g x cX1_shapeHexagon RX1 7 none rm_X1_shapeHexagon) : ∀ (n : Nat) (x1 : Int32) (x2 : Int32) (x3 : Int32) (x4 : Int32) (σ : St) (r : Unit) (σ' : St), f_X1_shapeHexagon_23 n x1 x2 x3 x4 σ = some (r, σ') → V g x (qm g x none σ') 7 σ [(0, .ref (g.1 1)), (1, .int x1), (2, .int x2), (3, .int x3), (4, .int x4)] [] 23 := by
  intro n
  induction n with
  | zero =>
    intro x1 x2 x3 x4 σ r σ' h
    rw [f_X1_shapeHexagon_23] at h
    cases h
  | succ n ih =>
    intro x1 x2 x3 x4 σ r σ' h
    rw [f_X1_shapeHexagon_23] at h
    refine v_iload C dX1_shapeHexagon_23 4 rfl ?_
    refine v_aload_n C dX1_shapeHexagon_25 rfl 0 rfl ?_
    refine v_getI C fl_RX1_15 rfl dX1_shapeHexagon_26 ?_
    refine v_icmp_ge C (tgt := 135) dX1_shapeHexagon_29 (by decide) (fun q3 => ?_) (fun q3 => ?_)
    · rw [if_pos q3] at h
      refine v_aload_n C dX1_shapeHexagon_135 rfl 0 rfl ?_
      obtain ⟨v1, σ2, cσ2, h⟩ := bd_some h
      refine callVv C (c_X1_findInner cσ2) km_X1_findInner kv_X1_findInner rfl ml_RX1_37 rfl rfl (by decide) (Nat.le_of_ble_eq_true rfl) dX1_shapeHexagon_136 ?_
      cases h
      exact v_vret C dX1_shapeHexagon_139
    · rw [if_neg q3] at h
      refine v_iconst C (v := (0 : Int32)) dX1_shapeHexagon_32 (by decide) ?_
      refine v_istore C (lv' := [(5, .int _), (0, .ref _), (1, .int _), (2, .int _), (3, .int _), (4, .int _)]) dX1_shapeHexagon_33 (by decide) rfl ?_
      refine V.sub (lv' := [(0, .ref _), (1, .int _), (2, .int _), (3, .int _), (4, .int _), (5, .int _)]) [1, 2, 3, 4, 5, 0] rfl ?_
      exact b_X1_shapeHexagon_35 C _ ih FU _ _ _ _ _  _ _ _ h
def f_X1_shapeHexagon (a1 : Int32) (a2 : Int32) (a3 : Int32) (σ : St) : Option (Unit × St) :=
  bd (f_X1_shape (a1 + a3) (a2 + a3) σ) fun _ σ2 =>
  fL σ2 1 3 (0 : Int64) fun σ3 =>
  fL σ3 1 4 (0 : Int64) fun σ4 =>
  f_X1_shapeHexagon_23 FU a1 a2 a3 (0 : Int32) σ4
set_option maxRecDepth 100000 in
set_option maxHeartbeats 4000000 in
theorem c_X1_shapeHexagon {g : Geo} {a1 : Int32} {a2 : Int32} {a3 : Int32} {σ : St} {r : Unit} {σ' : St} (h : f_X1_shapeHexagon a1 a2 a3 σ = some (r, σ')) : Ct g yX1_shapeHexagon cX1_shapeHexagon 7 none rm_X1_shapeHexagon [.ref (g.1 1), .int a1, .int a2, .int a3] σ none σ' := by
  refine ct_of (own := RX1) (by decide) rfl (Nat.le_of_ble_eq_true rfl) (fun x C => ?_) ⟨rfl, rfl⟩
  show V g x _ 7 σ [(0, .ref (g.1 1)), (1, .int a1), (2, .int a2), (3, .int a3)] [] 0
  unfold f_X1_shapeHexagon at h
  refine v_aload_n C dX1_shapeHexagon_0 rfl 0 rfl ?_
  refine v_iload_n C dX1_shapeHexagon_1 rfl 1 rfl ?_
  refine v_iload_n C dX1_shapeHexagon_2 rfl 3 rfl ?_
  refine v_iadd C dX1_shapeHexagon_3 ?_
  refine v_iload_n C dX1_shapeHexagon_4 rfl 2 rfl ?_
  refine v_iload_n C dX1_shapeHexagon_5 rfl 3 rfl ?_
  refine v_iadd C dX1_shapeHexagon_6 ?_
  obtain ⟨v1, σ2, cσ2, h⟩ := bd_some h
  refine callVv C (c_X1_shape cσ2) km_X1_shape kv_X1_shape rfl ml_RX1_40 rfl rfl (by decide) (Nat.le_of_ble_eq_true rfl) dX1_shapeHexagon_7 ?_
  refine v_aload_n C dX1_shapeHexagon_10 rfl 0 rfl ?_
  refine v_lconst C (v := (0 : Int64)) dX1_shapeHexagon_11 (by decide) ?_
  obtain ⟨σ3, eσ3, h⟩ := fL_ex h
  refine x_putL C fl_RX1_31 fw_1_3 rfl eσ3 dX1_shapeHexagon_12 ?_
  refine v_aload_n C dX1_shapeHexagon_15 rfl 0 rfl ?_
  refine v_lconst C (v := (0 : Int64)) dX1_shapeHexagon_16 (by decide) ?_
  obtain ⟨σ4, eσ4, h⟩ := fL_ex h
  refine x_putL C fl_RX1_34 fw_1_4 rfl eσ4 dX1_shapeHexagon_17 ?_
  refine v_iconst C (v := (0 : Int32)) dX1_shapeHexagon_20 (by decide) ?_
  refine v_istore C (lv' := [(4, .int _), (0, .ref _), (1, .int _), (2, .int _), (3, .int _)]) dX1_shapeHexagon_21 (by decide) rfl ?_
  refine V.sub (lv' := [(0, .ref _), (1, .int _), (2, .int _), (3, .int _), (4, .int _)]) [1, 2, 3, 4, 0] rfl ?_
  exact b_X1_shapeHexagon_23 C FU _ _ _ _  _ _ _ h
theorem dX1_hasTriangle_0 : decode cX1_hasTriangle 0 = .ok (.iload_n 1, 1) := by decide +kernel
theorem dX1_hasTriangle_1 : decode cX1_hasTriangle 1 = .ok (.ifCond .lt 17, 3) := by decide +kernel
theorem dX1_hasTriangle_4 : decode cX1_hasTriangle 4 = .ok (.iload_n 1, 1) := by decide +kernel
theorem dX1_hasTriangle_5 : decode cX1_hasTriangle 5 = .ok (.iconst 2, 1) := by decide +kernel
theorem dX1_hasTriangle_6 : decode cX1_hasTriangle 6 = .ok (.aload_n 0, 1) := by decide +kernel
theorem dX1_hasTriangle_7 : decode cX1_hasTriangle 7 = .ok (.getfield 18, 3) := by decide +kernel
theorem dX1_hasTriangle_10 : decode cX1_hasTriangle 10 = .ok (.imul, 1) := by decide +kernel
theorem dX1_hasTriangle_11 : decode cX1_hasTriangle 11 = .ok (.if_icmp .ge 7, 3) := by decide +kernel
theorem dX1_hasTriangle_14 : decode cX1_hasTriangle 14 = .ok (.iconst 1, 1) := by decide +kernel
theorem dX1_hasTriangle_15 : decode cX1_hasTriangle 15 = .ok (.goto 4, 3) := by decide +kernel
theorem dX1_hasTriangle_18 : decode cX1_hasTriangle 18 = .ok (.iconst 0, 1) := by decide +kernel
theorem dX1_hasTriangle_19 : decode cX1_hasTriangle 19 = .ok (.ireturn, 1) := by decide +kernel
def f_X1_hasTriangle_19 (s0 : Int32) (σ : St) : Option (Int32 × St) :=
  gz s0 <|
  some (s0, σ)
set_option maxRecDepth 100000 in
set_option maxHeartbeats 4000000 in
theorem b_X1_hasTriangle_19 {g : Geo} {x : Cx} (C : Ok g x cX1_hasTriangle RX1 2 (some .boolean) rm_X1_hasTriangle) : ∀ (s0 : Int32) (σ : St) (r : Int32) (σ' : St), f_X1_hasTriangle_19 s0 σ = some (r, σ') → V g x (qm g x (some (.int r)) σ') 2 σ [] [.int s0] 19 := by
  intro s0 σ r σ' h
  unfold f_X1_hasTriangle_19 at h
  obtain ⟨hz, h⟩ := gz_some h
  cases h
  exact v_zret C hz dX1_hasTriangle_19
def f_X1_hasTriangle_18 (σ : St) : Option (Int32 × St) :=
  f_X1_hasTriangle_19 (0 : Int32) σ
set_option maxRecDepth 100000 in
set_option maxHeartbeats 4000000 in
theorem b_X1_hasTriangle_18 {g : Geo} {x : Cx} (C : Ok g x cX1_hasTriangle RX1 2 (some .boolean) rm_X1_hasTriangle) : ∀ (σ : St) (r : Int32) (σ' : St), f_X1_hasTriangle_18 σ = some (r, σ') → V g x (qm g x (some (.int r)) σ') 2 σ [] [] 18 := by
  intro σ r σ' h
  unfold f_X1_hasTriangle_18 at h
  refine v_iconst C (v := (0 : Int32)) dX1_hasTriangle_18 (by decide) ?_
  refine V.sub (lv' := []) [] rfl ?_
  exact b_X1_hasTriangle_19 C _  _ _ _ h
def f_X1_hasTriangle (a1 : Int32) (σ : St) : Option (Int32 × St) :=
  if a1 < 0 then
    f_X1_hasTriangle_18 σ
  else
    if ((2 : Int32) * (gi σ 1 2)) ≤ a1 then
      f_X1_hasTriangle_18 σ
    else
      f_X1_hasTriangle_19 (1 : Int32) σ
set_option maxRecDepth 100000 in
set_option maxHeartbeats 4000000 in
theorem c_X1_hasTriangle {g : Geo} {a1 : Int32} {σ : St} {r : Int32} {σ' : St} (h : f_X1_hasTriangle a1 σ = some (r, σ')) : Ct g yX1_hasTriangle cX1_hasTriangle 2 (some .boolean) rm_X1_hasTriangle [.ref (g.1 1), .int a1] σ (some (.int r)) σ' := by
  refine ct_of (own := RX1) (by decide) rfl (Nat.le_of_ble_eq_true rfl) (fun x C => ?_) ⟨rfl, rfl⟩
  show V g x _ 2 σ [(0, .ref (g.1 1)), (1, .int a1)] [] 0
  unfold f_X1_hasTriangle at h
  refine v_iload_n C dX1_hasTriangle_0 rfl 1 rfl ?_
  refine v_if_lt C (tgt := 18) dX1_hasTriangle_1 (by decide) (fun q2 => ?_) (fun q2 => ?_)
  · rw [if_pos q2] at h
    refine V.sub (lv' := []) [] rfl ?_
    exact b_X1_hasTriangle_18 C  _ _ _ h
  · rw [if_neg q2] at h
    refine v_iload_n C dX1_hasTriangle_4 rfl 1 rfl ?_
    refine v_iconst C (v := (2 : Int32)) dX1_hasTriangle_5 (by decide) ?_
    refine v_aload_n C dX1_hasTriangle_6 rfl 0 rfl ?_
    refine v_getI C fl_RX1_18 rfl dX1_hasTriangle_7 ?_
    refine v_imul C dX1_hasTriangle_10 ?_
    refine v_icmp_ge C (tgt := 18) dX1_hasTriangle_11 (by decide) (fun q1 => ?_) (fun q1 => ?_)
    · rw [if_pos q1] at h
      refine V.sub (lv' := []) [] rfl ?_
      exact b_X1_hasTriangle_18 C  _ _ _ h
    · rw [if_neg q1] at h
      refine v_iconst C (v := (1 : Int32)) dX1_hasTriangle_14 (by decide) ?_
      refine v_goto C (tgt := 19) dX1_hasTriangle_15 (by decide) ?_
      refine V.sub (lv' := []) [] rfl ?_
      exact b_X1_hasTriangle_19 C _  _ _ _ h
theorem dX1_hasCell_0 : decode cX1_hasCell 0 = .ok (.iload_n 1, 1) := by decide +kernel
theorem dX1_hasCell_1 : decode cX1_hasCell 1 = .ok (.ifCond .lt 15, 3) := by decide +kernel
theorem dX1_hasCell_4 : decode cX1_hasCell 4 = .ok (.iload_n 1, 1) := by decide +kernel
theorem dX1_hasCell_5 : decode cX1_hasCell 5 = .ok (.aload_n 0, 1) := by decide +kernel
theorem dX1_hasCell_6 : decode cX1_hasCell 6 = .ok (.getfield 18, 3) := by decide +kernel
theorem dX1_hasCell_9 : decode cX1_hasCell 9 = .ok (.if_icmp .ge 7, 3) := by decide +kernel
theorem dX1_hasCell_12 : decode cX1_hasCell 12 = .ok (.iconst 1, 1) := by decide +kernel
theorem dX1_hasCell_13 : decode cX1_hasCell 13 = .ok (.goto 4, 3) := by decide +kernel
theorem dX1_hasCell_16 : decode cX1_hasCell 16 = .ok (.iconst 0, 1) := by decide +kernel
theorem dX1_hasCell_17 : decode cX1_hasCell 17 = .ok (.ireturn, 1) := by decide +kernel
def f_X1_hasCell_17 (s0 : Int32) (σ : St) : Option (Int32 × St) :=
  gz s0 <|
  some (s0, σ)
set_option maxRecDepth 100000 in
set_option maxHeartbeats 4000000 in
theorem b_X1_hasCell_17 {g : Geo} {x : Cx} (C : Ok g x cX1_hasCell RX1 2 (some .boolean) rm_X1_hasCell) : ∀ (s0 : Int32) (σ : St) (r : Int32) (σ' : St), f_X1_hasCell_17 s0 σ = some (r, σ') → V g x (qm g x (some (.int r)) σ') 2 σ [] [.int s0] 17 := by
  intro s0 σ r σ' h
  unfold f_X1_hasCell_17 at h
  obtain ⟨hz, h⟩ := gz_some h
  cases h
  exact v_zret C hz dX1_hasCell_17
def f_X1_hasCell_16 (σ : St) : Option (Int32 × St) :=
  f_X1_hasCell_17 (0 : Int32) σ
set_option maxRecDepth 100000 in
set_option maxHeartbeats 4000000 in
theorem b_X1_hasCell_16 {g : Geo} {x : Cx} (C : Ok g x cX1_hasCell RX1 2 (some .boolean) rm_X1_hasCell) : ∀ (σ : St) (r : Int32) (σ' : St), f_X1_hasCell_16 σ = some (r, σ') → V g x (qm g x (some (.int r)) σ') 2 σ [] [] 16 := by
  intro σ r σ' h
  unfold f_X1_hasCell_16 at h
  refine v_iconst C (v := (0 : Int32)) dX1_hasCell_16 (by decide) ?_
  refine V.sub (lv' := []) [] rfl ?_
  exact b_X1_hasCell_17 C _  _ _ _ h
def f_X1_hasCell (a1 : Int32) (σ : St) : Option (Int32 × St) :=
  if a1 < 0 then
    f_X1_hasCell_16 σ
  else
    if (gi σ 1 2) ≤ a1 then
      f_X1_hasCell_16 σ
    else
      f_X1_hasCell_17 (1 : Int32) σ
set_option maxRecDepth 100000 in
set_option maxHeartbeats 4000000 in
theorem c_X1_hasCell {g : Geo} {a1 : Int32} {σ : St} {r : Int32} {σ' : St} (h : f_X1_hasCell a1 σ = some (r, σ')) : Ct g yX1_hasCell cX1_hasCell 2 (some .boolean) rm_X1_hasCell [.ref (g.1 1), .int a1] σ (some (.int r)) σ' := by
  refine ct_of (own := RX1) (by decide) rfl (Nat.le_of_ble_eq_true rfl) (fun x C => ?_) ⟨rfl, rfl⟩
  show V g x _ 2 σ [(0, .ref (g.1 1)), (1, .int a1)] [] 0
  unfold f_X1_hasCell at h
  refine v_iload_n C dX1_hasCell_0 rfl 1 rfl ?_
  refine v_if_lt C (tgt := 16) dX1_hasCell_1 (by decide) (fun q2 => ?_) (fun q2 => ?_)
  · rw [if_pos q2] at h
    refine V.sub (lv' := []) [] rfl ?_
    exact b_X1_hasCell_16 C  _ _ _ h
  · rw [if_neg q2] at h
    refine v_iload_n C dX1_hasCell_4 rfl 1 rfl ?_
    refine v_aload_n C dX1_hasCell_5 rfl 0 rfl ?_
    refine v_getI C fl_RX1_18 rfl dX1_hasCell_6 ?_
    refine v_icmp_ge C (tgt := 16) dX1_hasCell_9 (by decide) (fun q1 => ?_) (fun q1 => ?_)
    · rw [if_pos q1] at h
      refine V.sub (lv' := []) [] rfl ?_
      exact b_X1_hasCell_16 C  _ _ _ h
    · rw [if_neg q1] at h
      refine v_iconst C (v := (1 : Int32)) dX1_hasCell_12 (by decide) ?_
      refine v_goto C (tgt := 17) dX1_hasCell_13 (by decide) ?_
      refine V.sub (lv' := []) [] rfl ?_
      exact b_X1_hasCell_17 C _  _ _ _ h
theorem dX1_hasPoint_0 : decode cX1_hasPoint 0 = .ok (.iload_n 1, 1) := by decide +kernel
theorem dX1_hasPoint_1 : decode cX1_hasPoint 1 = .ok (.ifCond .lt 27, 3) := by decide +kernel
theorem dX1_hasPoint_4 : decode cX1_hasPoint 4 = .ok (.iload_n 1, 1) := by decide +kernel
theorem dX1_hasPoint_5 : decode cX1_hasPoint 5 = .ok (.aload_n 0, 1) := by decide +kernel
theorem dX1_hasPoint_6 : decode cX1_hasPoint 6 = .ok (.getfield 9, 3) := by decide +kernel
theorem dX1_hasPoint_9 : decode cX1_hasPoint 9 = .ok (.if_icmp .gt 19, 3) := by decide +kernel
theorem dX1_hasPoint_12 : decode cX1_hasPoint 12 = .ok (.iload_n 2, 1) := by decide +kernel
theorem dX1_hasPoint_13 : decode cX1_hasPoint 13 = .ok (.ifCond .lt 15, 3) := by decide +kernel
theorem dX1_hasPoint_16 : decode cX1_hasPoint 16 = .ok (.iload_n 2, 1) := by decide +kernel
theorem dX1_hasPoint_17 : decode cX1_hasPoint 17 = .ok (.aload_n 0, 1) := by decide +kernel
theorem dX1_hasPoint_18 : decode cX1_hasPoint 18 = .ok (.getfield 15, 3) := by decide +kernel
theorem dX1_hasPoint_21 : decode cX1_hasPoint 21 = .ok (.if_icmp .gt 7, 3) := by decide +kernel
theorem dX1_hasPoint_24 : decode cX1_hasPoint 24 = .ok (.iconst 1, 1) := by decide +kernel
theorem dX1_hasPoint_25 : decode cX1_hasPoint 25 = .ok (.goto 4, 3) := by decide +kernel
theorem dX1_hasPoint_28 : decode cX1_hasPoint 28 = .ok (.iconst 0, 1) := by decide +kernel
theorem dX1_hasPoint_29 : decode cX1_hasPoint 29 = .ok (.ireturn, 1) := by decide +kernel
def f_X1_hasPoint_29 (s0 : Int32) (σ : St) : Option (Int32 × St) :=
  gz s0 <|
  some (s0, σ)
set_option maxRecDepth 100000 in
set_option maxHeartbeats 4000000 in
theorem b_X1_hasPoint_29 {g : Geo} {x : Cx} (C : Ok g x cX1_hasPoint RX1 3 (some .boolean) rm_X1_hasPoint) : ∀ (s0 : Int32) (σ : St) (r : Int32) (σ' : St), f_X1_hasPoint_29 s0 σ = some (r, σ') → V g x (qm g x (some (.int r)) σ') 3 σ [] [.int s0] 29 := by
  intro s0 σ r σ' h
  unfold f_X1_hasPoint_29 at h
  obtain ⟨hz, h⟩ := gz_some h
  cases h
  exact v_zret C hz dX1_hasPoint_29
def f_X1_hasPoint_28 (σ : St) : Option (Int32 × St) :=
  f_X1_hasPoint_29 (0 : Int32) σ
set_option maxRecDepth 100000 in
set_option maxHeartbeats 4000000 in
theorem b_X1_hasPoint_28 {g : Geo} {x : Cx} (C : Ok g x cX1_hasPoint RX1 3 (some .boolean) rm_X1_hasPoint) : ∀ (σ : St) (r : Int32) (σ' : St), f_X1_hasPoint_28 σ = some (r, σ') → V g x (qm g x (some (.int r)) σ') 3 σ [] [] 28 := by
  intro σ r σ' h
  unfold f_X1_hasPoint_28 at h
  refine v_iconst C (v := (0 : Int32)) dX1_hasPoint_28 (by decide) ?_
  refine V.sub (lv' := []) [] rfl ?_
  exact b_X1_hasPoint_29 C _  _ _ _ h
def f_X1_hasPoint (a1 : Int32) (a2 : Int32) (σ : St) : Option (Int32 × St) :=
  if a1 < 0 then
    f_X1_hasPoint_28 σ
  else
    if (gi σ 1 0) < a1 then
      f_X1_hasPoint_28 σ
    else
      if a2 < 0 then
        f_X1_hasPoint_28 σ
      else
        if (gi σ 1 1) < a2 then
          f_X1_hasPoint_28 σ
        else
          f_X1_hasPoint_29 (1 : Int32) σ
set_option maxRecDepth 100000 in
set_option maxHeartbeats 4000000 in
theorem c_X1_hasPoint {g : Geo} {a1 : Int32} {a2 : Int32} {σ : St} {r : Int32} {σ' : St} (h : f_X1_hasPoint a1 a2 σ = some (r, σ')) : Ct g yX1_hasPoint cX1_hasPoint 3 (some .boolean) rm_X1_hasPoint [.ref (g.1 1), .int a1, .int a2] σ (some (.int r)) σ' := by
  refine ct_of (own := RX1) (by decide) rfl (Nat.le_of_ble_eq_true rfl) (fun x C => ?_) ⟨rfl, rfl⟩
  show V g x _ 3 σ [(0, .ref (g.1 1)), (1, .int a1), (2, .int a2)] [] 0
  unfold f_X1_hasPoint at h
  refine v_iload_n C dX1_hasPoint_0 rfl 1 rfl ?_
  refine v_if_lt C (tgt := 28) dX1_hasPoint_1 (by decide) (fun q4 => ?_) (fun q4 => ?_)
  · rw [if_pos q4] at h
    refine V.sub (lv' := []) [] rfl ?_
    exact b_X1_hasPoint_28 C  _ _ _ h
  · rw [if_neg q4] at h
    refine v_iload_n C dX1_hasPoint_4 rfl 1 rfl ?_
    refine v_aload_n C dX1_hasPoint_5 rfl 0 rfl ?_
    refine v_getI C fl_RX1_9 rfl dX1_hasPoint_6 ?_
    refine v_icmp_gt C (tgt := 28) dX1_hasPoint_9 (by decide) (fun q3 => ?_) (fun q3 => ?_)
    · rw [if_pos q3] at h
      refine V.sub (lv' := []) [] rfl ?_
      exact b_X1_hasPoint_28 C  _ _ _ h
    · rw [if_neg q3] at h
      refine v_iload_n C dX1_hasPoint_12 rfl 2 rfl ?_
      refine v_if_lt C (tgt := 28) dX1_hasPoint_13 (by decide) (fun q2 => ?_) (fun q2 => ?_)
      · rw [if_pos q2] at h
        refine V.sub (lv' := []) [] rfl ?_
        exact b_X1_hasPoint_28 C  _ _ _ h
      · rw [if_neg q2] at h
        refine v_iload_n C dX1_hasPoint_16 rfl 2 rfl ?_
        refine v_aload_n C dX1_hasPoint_17 rfl 0 rfl ?_
        refine v_getI C fl_RX1_15 rfl dX1_hasPoint_18 ?_
        refine v_icmp_gt C (tgt := 28) dX1_hasPoint_21 (by decide) (fun q1 => ?_) (fun q1 => ?_)
        · rw [if_pos q1] at h
          refine V.sub (lv' := []) [] rfl ?_
          exact b_X1_hasPoint_28 C  _ _ _ h
        · rw [if_neg q1] at h
          refine v_iconst C (v := (1 : Int32)) dX1_hasPoint_24 (by decide) ?_
          refine v_goto C (tgt := 29) dX1_hasPoint_25 (by decide) ?_
          refine V.sub (lv' := []) [] rfl ?_
          exact b_X1_hasPoint_29 C _  _ _ _ h
