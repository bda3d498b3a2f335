def f_L_law_1176 (xs : Nat → Int32) (L : Nat) (k18 : Int32 → St → Option (Int32 × St)) (x3 : Int32) (σ : St) : Option (Int32 × St) :=
  k18 (x3 + 4) σ
set_option maxRecDepth 100000 in
set_option maxHeartbeats 4000000 in
theorem b_L_law_1176 {g : Geo} {x : Cx} {b L : Nat} {xs : Nat → Int32} (C : Ok g x cL_law RL 4 ret room_1) (S : Sc g x b L xs) (k18 : Int32 → St → Option (Int32 × St)) (hk18 : ∀ (x3 : Int32) (τ τ' : St), k18 x3 τ = some ((1 : Int32), τ') → V g x (lw_Z (Cx.below x) #[Value.ref b] (Cx.s x)) 4 τ [(0, .ref b), (1, .ref (g.1 0)), (2, .ref (g.1 26)), (3, .int x3)] [] 18) : ∀ (x3 : Int32) (σ σ' : St), f_L_law_1176 xs L k18 x3 σ = some ((1 : Int32), σ') → V g x (lw_Z (Cx.below x) #[Value.ref b] (Cx.s x)) 4 σ [(0, .ref b), (1, .ref (g.1 0)), (2, .ref (g.1 26)), (3, .int x3)] [] 1176 := by
  intro x3 σ σ' h
  unfold f_L_law_1176 at h
  refine v_iinc C (v := (x3 + 4)) (lv' := [(3, .int _), (0, .ref _), (1, .ref _), (2, .ref _)]) dL_law_1176 3 rfl rfl (by decide) rfl ?_
  refine v_goto C (tgt := 18) dL_law_1179 (by decide) ?_
  refine V.sub (lv' := [(0, .ref _), (1, .ref _), (2, .ref _), (3, .int _)]) [1, 2, 3, 0] rfl ?_
  exact hk18 _ _ _ h
def f_L_law_1153 (xs : Nat → Int32) (L : Nat) (k18 : Int32 → St → Option (Int32 × St)) (x3 : Int32) (σ : St) : Option (Int32 × St) :=
  rdS xs L (x3 + (1 : Int32)) fun v1 =>
  bd (f_X5_barred v1 σ) fun v2 σ3 =>
  rdS xs L (x3 + (1 : Int32)) fun v4 =>
  bd (f_X6_barred v4 σ3) fun v5 σ6 =>
  if v2 = v5 then
    f_L_law_1176 xs L k18 x3 σ6
  else
    some ((0 : Int32), σ6)
set_option maxRecDepth 100000 in
set_option maxHeartbeats 4000000 in
theorem b_L_law_1153 {g : Geo} {x : Cx} {b L : Nat} {xs : Nat → Int32} (C : Ok g x cL_law RL 4 ret room_1) (S : Sc g x b L xs) (k18 : Int32 → St → Option (Int32 × St)) (hk18 : ∀ (x3 : Int32) (τ τ' : St), k18 x3 τ = some ((1 : Int32), τ') → V g x (lw_Z (Cx.below x) #[Value.ref b] (Cx.s x)) 4 τ [(0, .ref b), (1, .ref (g.1 0)), (2, .ref (g.1 26)), (3, .int x3)] [] 18) : ∀ (x3 : Int32) (σ σ' : St), f_L_law_1153 xs L k18 x3 σ = some ((1 : Int32), σ') → V g x (lw_Z (Cx.below x) #[Value.ref b] (Cx.s x)) 4 σ [(0, .ref b), (1, .ref (g.1 0)), (2, .ref (g.1 26)), (3, .int x3)] [] 1153 := by
  intro x3 σ σ' h
  unfold f_L_law_1153 at h
  refine v_aload_n C dL_law_1153 rfl 1 rfl ?_
  refine v_aload_n C dL_law_1154 rfl 0 rfl ?_
  refine v_iload_n C dL_law_1155 rfl 3 rfl ?_
  refine v_iconst C (v := (1 : Int32)) dL_law_1156 (by decide) ?_
  refine v_iadd C dL_law_1157 ?_
  obtain ⟨nv1, v1, ev1, h⟩ := rdS_ex h
  refine x_sld C S nv1 ev1 dL_law_1158 ?_
  obtain ⟨v2, σ3, cσ3, h⟩ := bd_some h
  refine callVi C (c_X5_barred cσ3) km_X5_barred kv_X5_barred rfl ml_RL_150 rfl rfl (by decide) (Nat.le_of_ble_eq_true rfl) dL_law_1159 ?_
  refine v_aload_n C dL_law_1162 rfl 2 rfl ?_
  refine v_aload_n C dL_law_1163 rfl 0 rfl ?_
  refine v_iload_n C dL_law_1164 rfl 3 rfl ?_
  refine v_iconst C (v := (1 : Int32)) dL_law_1165 (by decide) ?_
  refine v_iadd C dL_law_1166 ?_
  obtain ⟨nv4, v4, ev4, h⟩ := rdS_ex h
  refine x_sld C S nv4 ev4 dL_law_1167 ?_
  obtain ⟨v5, σ6, cσ6, h⟩ := bd_some h
  refine callVi C (c_X6_barred cσ6) km_X6_barred kv_X6_barred rfl ml_RL_153 rfl rfl (by decide) (Nat.le_of_ble_eq_true rfl) dL_law_1168 ?_
  refine v_icmp_eq C (tgt := 1176) dL_law_1171 (by decide) (fun q7 => ?_) (fun q7 => ?_)
  · rw [if_pos q7] at h
    refine V.sub (lv' := [(0, .ref _), (1, .ref _), (2, .ref _), (3, .int _)]) [0, 1, 2, 3] rfl ?_
    exact b_L_law_1176 C S _ hk18 _ _ _ h
  · rw [if_neg q7] at h
    refine v_iconst C (v := (0 : Int32)) dL_law_1174 (by decide) ?_
    exact absurd (Prod.mk.inj (Option.some.inj h)).1 (by decide)
def f_L_law_1140 (xs : Nat → Int32) (L : Nat) (k18 : Int32 → St → Option (Int32 × St)) (x3 : Int32) (σ : St) : Option (Int32 × St) :=
  bd (f_X5_bar σ) fun v1 σ2 =>
  bd (f_X6_bar σ2) fun v3 σ4 =>
  if v1 = v3 then
    f_L_law_1176 xs L k18 x3 σ4
  else
    some ((0 : Int32), σ4)
set_option maxRecDepth 100000 in
set_option maxHeartbeats 4000000 in
theorem b_L_law_1140 {g : Geo} {x : Cx} {b L : Nat} {xs : Nat → Int32} (C : Ok g x cL_law RL 4 ret room_1) (S : Sc g x b L xs) (k18 : Int32 → St → Option (Int32 × St)) (hk18 : ∀ (x3 : Int32) (τ τ' : St), k18 x3 τ = some ((1 : Int32), τ') → V g x (lw_Z (Cx.below x) #[Value.ref b] (Cx.s x)) 4 τ [(0, .ref b), (1, .ref (g.1 0)), (2, .ref (g.1 26)), (3, .int x3)] [] 18) : ∀ (x3 : Int32) (σ σ' : St), f_L_law_1140 xs L k18 x3 σ = some ((1 : Int32), σ') → V g x (lw_Z (Cx.below x) #[Value.ref b] (Cx.s x)) 4 σ [(0, .ref b), (1, .ref (g.1 0)), (2, .ref (g.1 26)), (3, .int x3)] [] 1140 := by
  intro x3 σ σ' h
  unfold f_L_law_1140 at h
  refine v_aload_n C dL_law_1140 rfl 1 rfl ?_
  obtain ⟨v1, σ2, cσ2, h⟩ := bd_some h
  refine callVi C (c_X5_bar cσ2) km_X5_bar kv_X5_bar rfl ml_RL_146 rfl rfl (by decide) (Nat.le_of_ble_eq_true rfl) dL_law_1141 ?_
  refine v_aload_n C dL_law_1144 rfl 2 rfl ?_
  obtain ⟨v3, σ4, cσ4, h⟩ := bd_some h
  refine callVi C (c_X6_bar cσ4) km_X6_bar kv_X6_bar rfl ml_RL_149 rfl rfl (by decide) (Nat.le_of_ble_eq_true rfl) dL_law_1145 ?_
  refine v_icmp_eq C (tgt := 1176) dL_law_1148 (by decide) (fun q5 => ?_) (fun q5 => ?_)
  · rw [if_pos q5] at h
    refine V.sub (lv' := [(0, .ref _), (1, .ref _), (2, .ref _), (3, .int _)]) [0, 1, 2, 3] rfl ?_
    exact b_L_law_1176 C S _ hk18 _ _ _ h
  · rw [if_neg q5] at h
    refine v_iconst C (v := (0 : Int32)) dL_law_1151 (by decide) ?_
    exact absurd (Prod.mk.inj (Option.some.inj h)).1 (by decide)
def f_L_law_1127 (xs : Nat → Int32) (L : Nat) (k18 : Int32 → St → Option (Int32 × St)) (x3 : Int32) (σ : St) : Option (Int32 × St) :=
  bd (f_X5_lack σ) fun v1 σ2 =>
  bd (f_X6_lack σ2) fun v3 σ4 =>
  if v1 = v3 then
    f_L_law_1176 xs L k18 x3 σ4
  else
    some ((0 : Int32), σ4)
set_option maxRecDepth 100000 in
set_option maxHeartbeats 4000000 in
theorem b_L_law_1127 {g : Geo} {x : Cx} {b L : Nat} {xs : Nat → Int32} (C : Ok g x cL_law RL 4 ret room_1) (S : Sc g x b L xs) (k18 : Int32 → St → Option (Int32 × St)) (hk18 : ∀ (x3 : Int32) (τ τ' : St), k18 x3 τ = some ((1 : Int32), τ') → V g x (lw_Z (Cx.below x) #[Value.ref b] (Cx.s x)) 4 τ [(0, .ref b), (1, .ref (g.1 0)), (2, .ref (g.1 26)), (3, .int x3)] [] 18) : ∀ (x3 : Int32) (σ σ' : St), f_L_law_1127 xs L k18 x3 σ = some ((1 : Int32), σ') → V g x (lw_Z (Cx.below x) #[Value.ref b] (Cx.s x)) 4 σ [(0, .ref b), (1, .ref (g.1 0)), (2, .ref (g.1 26)), (3, .int x3)] [] 1127 := by
  intro x3 σ σ' h
  unfold f_L_law_1127 at h
  refine v_aload_n C dL_law_1127 rfl 1 rfl ?_
  obtain ⟨v1, σ2, cσ2, h⟩ := bd_some h
  refine callVi C (c_X5_lack cσ2) km_X5_lack kv_X5_lack rfl ml_RL_142 rfl rfl (by decide) (Nat.le_of_ble_eq_true rfl) dL_law_1128 ?_
  refine v_aload_n C dL_law_1131 rfl 2 rfl ?_
  obtain ⟨v3, σ4, cσ4, h⟩ := bd_some h
  refine callVi C (c_X6_lack cσ4) km_X6_lack kv_X6_lack rfl ml_RL_145 rfl rfl (by decide) (Nat.le_of_ble_eq_true rfl) dL_law_1132 ?_
  refine v_icmp_eq C (tgt := 1176) dL_law_1135 (by decide) (fun q5 => ?_) (fun q5 => ?_)
  · rw [if_pos q5] at h
    refine V.sub (lv' := [(0, .ref _), (1, .ref _), (2, .ref _), (3, .int _)]) [0, 1, 2, 3] rfl ?_
    exact b_L_law_1176 C S _ hk18 _ _ _ h
  · rw [if_neg q5] at h
    refine v_iconst C (v := (0 : Int32)) dL_law_1138 (by decide) ?_
    exact absurd (Prod.mk.inj (Option.some.inj h)).1 (by decide)
def f_L_law_1114 (xs : Nat → Int32) (L : Nat) (k18 : Int32 → St → Option (Int32 × St)) (x3 : Int32) (σ : St) : Option (Int32 × St) :=
  bd (f_X5_most σ) fun v1 σ2 =>
  bd (f_X6_most σ2) fun v3 σ4 =>
  if v1 = v3 then
    f_L_law_1176 xs L k18 x3 σ4
  else
    some ((0 : Int32), σ4)
set_option maxRecDepth 100000 in
set_option maxHeartbeats 4000000 in
theorem b_L_law_1114 {g : Geo} {x : Cx} {b L : Nat} {xs : Nat → Int32} (C : Ok g x cL_law RL 4 ret room_1) (S : Sc g x b L xs) (k18 : Int32 → St → Option (Int32 × St)) (hk18 : ∀ (x3 : Int32) (τ τ' : St), k18 x3 τ = some ((1 : Int32), τ') → V g x (lw_Z (Cx.below x) #[Value.ref b] (Cx.s x)) 4 τ [(0, .ref b), (1, .ref (g.1 0)), (2, .ref (g.1 26)), (3, .int x3)] [] 18) : ∀ (x3 : Int32) (σ σ' : St), f_L_law_1114 xs L k18 x3 σ = some ((1 : Int32), σ') → V g x (lw_Z (Cx.below x) #[Value.ref b] (Cx.s x)) 4 σ [(0, .ref b), (1, .ref (g.1 0)), (2, .ref (g.1 26)), (3, .int x3)] [] 1114 := by
  intro x3 σ σ' h
  unfold f_L_law_1114 at h
  refine v_aload_n C dL_law_1114 rfl 1 rfl ?_
  obtain ⟨v1, σ2, cσ2, h⟩ := bd_some h
  refine callVi C (c_X5_most cσ2) km_X5_most kv_X5_most rfl ml_RL_138 rfl rfl (by decide) (Nat.le_of_ble_eq_true rfl) dL_law_1115 ?_
  refine v_aload_n C dL_law_1118 rfl 2 rfl ?_
  obtain ⟨v3, σ4, cσ4, h⟩ := bd_some h
  refine callVi C (c_X6_most cσ4) km_X6_most kv_X6_most rfl ml_RL_141 rfl rfl (by decide) (Nat.le_of_ble_eq_true rfl) dL_law_1119 ?_
  refine v_icmp_eq C (tgt := 1176) dL_law_1122 (by decide) (fun q5 => ?_) (fun q5 => ?_)
  · rw [if_pos q5] at h
    refine V.sub (lv' := [(0, .ref _), (1, .ref _), (2, .ref _), (3, .int _)]) [0, 1, 2, 3] rfl ?_
    exact b_L_law_1176 C S _ hk18 _ _ _ h
  · rw [if_neg q5] at h
    refine v_iconst C (v := (0 : Int32)) dL_law_1125 (by decide) ?_
    exact absurd (Prod.mk.inj (Option.some.inj h)).1 (by decide)
def f_L_law_1091 (xs : Nat → Int32) (L : Nat) (k18 : Int32 → St → Option (Int32 × St)) (x3 : Int32) (σ : St) : Option (Int32 × St) :=
  rdS xs L (x3 + (1 : Int32)) fun v1 =>
  bd (f_X5_mirror v1 σ) fun v2 σ3 =>
  rdS xs L (x3 + (1 : Int32)) fun v4 =>
  bd (f_X6_mirror v4 σ3) fun v5 σ6 =>
  if v2 = v5 then
    f_L_law_1176 xs L k18 x3 σ6
  else
    some ((0 : Int32), σ6)
set_option maxRecDepth 100000 in
set_option maxHeartbeats 4000000 in
theorem b_L_law_1091 {g : Geo} {x : Cx} {b L : Nat} {xs : Nat → Int32} (C : Ok g x cL_law RL 4 ret room_1) (S : Sc g x b L xs) (k18 : Int32 → St → Option (Int32 × St)) (hk18 : ∀ (x3 : Int32) (τ τ' : St), k18 x3 τ = some ((1 : Int32), τ') → V g x (lw_Z (Cx.below x) #[Value.ref b] (Cx.s x)) 4 τ [(0, .ref b), (1, .ref (g.1 0)), (2, .ref (g.1 26)), (3, .int x3)] [] 18) : ∀ (x3 : Int32) (σ σ' : St), f_L_law_1091 xs L k18 x3 σ = some ((1 : Int32), σ') → V g x (lw_Z (Cx.below x) #[Value.ref b] (Cx.s x)) 4 σ [(0, .ref b), (1, .ref (g.1 0)), (2, .ref (g.1 26)), (3, .int x3)] [] 1091 := by
  intro x3 σ σ' h
  unfold f_L_law_1091 at h
  refine v_aload_n C dL_law_1091 rfl 1 rfl ?_
  refine v_aload_n C dL_law_1092 rfl 0 rfl ?_
  refine v_iload_n C dL_law_1093 rfl 3 rfl ?_
  refine v_iconst C (v := (1 : Int32)) dL_law_1094 (by decide) ?_
  refine v_iadd C dL_law_1095 ?_
  obtain ⟨nv1, v1, ev1, h⟩ := rdS_ex h
  refine x_sld C S nv1 ev1 dL_law_1096 ?_
  obtain ⟨v2, σ3, cσ3, h⟩ := bd_some h
  refine callVi C (c_X5_mirror cσ3) km_X5_mirror kv_X5_mirror rfl ml_RL_134 rfl rfl (by decide) (Nat.le_of_ble_eq_true rfl) dL_law_1097 ?_
  refine v_aload_n C dL_law_1100 rfl 2 rfl ?_
  refine v_aload_n C dL_law_1101 rfl 0 rfl ?_
  refine v_iload_n C dL_law_1102 rfl 3 rfl ?_
  refine v_iconst C (v := (1 : Int32)) dL_law_1103 (by decide) ?_
  refine v_iadd C dL_law_1104 ?_
  obtain ⟨nv4, v4, ev4, h⟩ := rdS_ex h
  refine x_sld C S nv4 ev4 dL_law_1105 ?_
  obtain ⟨v5, σ6, cσ6, h⟩ := bd_some h
  refine callVi C (c_X6_mirror cσ6) km_X6_mirror kv_X6_mirror rfl ml_RL_137 rfl rfl (by decide) (Nat.le_of_ble_eq_true rfl) dL_law_1106 ?_
  refine v_icmp_eq C (tgt := 1176) dL_law_1109 (by decide) (fun q7 => ?_) (fun q7 => ?_)
  · rw [if_pos q7] at h
    refine V.sub (lv' := [(0, .ref _), (1, .ref _), (2, .ref _), (3, .int _)]) [0, 1, 2, 3] rfl ?_
    exact b_L_law_1176 C S _ hk18 _ _ _ h
  · rw [if_neg q7] at h
    refine v_iconst C (v := (0 : Int32)) dL_law_1112 (by decide) ?_
    exact absurd (Prod.mk.inj (Option.some.inj h)).1 (by decide)
def f_L_law_1068 (xs : Nat → Int32) (L : Nat) (k18 : Int32 → St → Option (Int32 × St)) (x3 : Int32) (σ : St) : Option (Int32 × St) :=
  rdS xs L (x3 + (1 : Int32)) fun v1 =>
  bd (f_X5_reach v1 σ) fun v2 σ3 =>
  rdS xs L (x3 + (1 : Int32)) fun v4 =>
  bd (f_X6_reach v4 σ3) fun v5 σ6 =>
  if v2 = v5 then
    f_L_law_1176 xs L k18 x3 σ6
  else
    some ((0 : Int32), σ6)
set_option maxRecDepth 100000 in
set_option maxHeartbeats 4000000 in
theorem b_L_law_1068 {g : Geo} {x : Cx} {b L : Nat} {xs : Nat → Int32} (C : Ok g x cL_law RL 4 ret room_1) (S : Sc g x b L xs) (k18 : Int32 → St → Option (Int32 × St)) (hk18 : ∀ (x3 : Int32) (τ τ' : St), k18 x3 τ = some ((1 : Int32), τ') → V g x (lw_Z (Cx.below x) #[Value.ref b] (Cx.s x)) 4 τ [(0, .ref b), (1, .ref (g.1 0)), (2, .ref (g.1 26)), (3, .int x3)] [] 18) : ∀ (x3 : Int32) (σ σ' : St), f_L_law_1068 xs L k18 x3 σ = some ((1 : Int32), σ') → V g x (lw_Z (Cx.below x) #[Value.ref b] (Cx.s x)) 4 σ [(0, .ref b), (1, .ref (g.1 0)), (2, .ref (g.1 26)), (3, .int x3)] [] 1068 := by
  intro x3 σ σ' h
  unfold f_L_law_1068 at h
  refine v_aload_n C dL_law_1068 rfl 1 rfl ?_
  refine v_aload_n C dL_law_1069 rfl 0 rfl ?_
  refine v_iload_n C dL_law_1070 rfl 3 rfl ?_
  refine v_iconst C (v := (1 : Int32)) dL_law_1071 (by decide) ?_
  refine v_iadd C dL_law_1072 ?_
  obtain ⟨nv1, v1, ev1, h⟩ := rdS_ex h
  refine x_sld C S nv1 ev1 dL_law_1073 ?_
  obtain ⟨v2, σ3, cσ3, h⟩ := bd_some h
  refine callVi C (c_X5_reach cσ3) km_X5_reach kv_X5_reach rfl ml_RL_130 rfl rfl (by decide) (Nat.le_of_ble_eq_true rfl) dL_law_1074 ?_
  refine v_aload_n C dL_law_1077 rfl 2 rfl ?_
  refine v_aload_n C dL_law_1078 rfl 0 rfl ?_
  refine v_iload_n C dL_law_1079 rfl 3 rfl ?_
  refine v_iconst C (v := (1 : Int32)) dL_law_1080 (by decide) ?_
  refine v_iadd C dL_law_1081 ?_
  obtain ⟨nv4, v4, ev4, h⟩ := rdS_ex h
  refine x_sld C S nv4 ev4 dL_law_1082 ?_
  obtain ⟨v5, σ6, cσ6, h⟩ := bd_some h
  refine callVi C (c_X6_reach cσ6) km_X6_reach kv_X6_reach rfl ml_RL_133 rfl rfl (by decide) (Nat.le_of_ble_eq_true rfl) dL_law_1083 ?_
  refine v_icmp_eq C (tgt := 1176) dL_law_1086 (by decide) (fun q7 => ?_) (fun q7 => ?_)
  · rw [if_pos q7] at h
    refine V.sub (lv' := [(0, .ref _), (1, .ref _), (2, .ref _), (3, .int _)]) [0, 1, 2, 3] rfl ?_
    exact b_L_law_1176 C S _ hk18 _ _ _ h
  · rw [if_neg q7] at h
    refine v_iconst C (v := (0 : Int32)) dL_law_1089 (by decide) ?_
    exact absurd (Prod.mk.inj (Option.some.inj h)).1 (by decide)
def f_L_law_1060 (xs : Nat → Int32) (L : Nat) (k18 : Int32 → St → Option (Int32 × St)) (x3 : Int32) (s0 : Int32) (s2 : Int32) (s3 : Int32) (σ : St) : Option (Int32 × St) :=
  bd (f_X6_end s2 s3 σ) fun v1 σ2 =>
  if s0 = v1 then
    f_L_law_1176 xs L k18 x3 σ2
  else
    some ((0 : Int32), σ2)
set_option maxRecDepth 100000 in
set_option maxHeartbeats 4000000 in
theorem b_L_law_1060 {g : Geo} {x : Cx} {b L : Nat} {xs : Nat → Int32} (C : Ok g x cL_law RL 4 ret room_1) (S : Sc g x b L xs) (k18 : Int32 → St → Option (Int32 × St)) (hk18 : ∀ (x3 : Int32) (τ τ' : St), k18 x3 τ = some ((1 : Int32), τ') → V g x (lw_Z (Cx.below x) #[Value.ref b] (Cx.s x)) 4 τ [(0, .ref b), (1, .ref (g.1 0)), (2, .ref (g.1 26)), (3, .int x3)] [] 18) : ∀ (x3 : Int32) (s0 : Int32) (s2 : Int32) (s3 : Int32) (σ σ' : St), f_L_law_1060 xs L k18 x3 s0 s2 s3 σ = some ((1 : Int32), σ') → V g x (lw_Z (Cx.below x) #[Value.ref b] (Cx.s x)) 4 σ [(0, .ref b), (1, .ref (g.1 0)), (2, .ref (g.1 26)), (3, .int x3)] [.int s3, .int s2, .ref (g.1 26), .int s0] 1060 := by
  intro x3 s0 s2 s3 σ σ' h
  unfold f_L_law_1060 at h
  obtain ⟨v1, σ2, cσ2, h⟩ := bd_some h
  refine callVi C (c_X6_end cσ2) km_X6_end kv_X6_end rfl ml_RL_129 rfl rfl (by decide) (Nat.le_of_ble_eq_true rfl) dL_law_1060 ?_
  refine v_icmp_eq C (tgt := 1176) dL_law_1063 (by decide) (fun q3 => ?_) (fun q3 => ?_)
  · rw [if_pos q3] at h
    refine V.sub (lv' := [(0, .ref _), (1, .ref _), (2, .ref _), (3, .int _)]) [0, 1, 2, 3] rfl ?_
    exact b_L_law_1176 C S _ hk18 _ _ _ h
  · rw [if_neg q3] at h
    refine v_iconst C (v := (0 : Int32)) dL_law_1066 (by decide) ?_
    exact absurd (Prod.mk.inj (Option.some.inj h)).1 (by decide)
def f_L_law_1038 (xs : Nat → Int32) (L : Nat) (k18 : Int32 → St → Option (Int32 × St)) (x3 : Int32) (s1 : Int32) (s2 : Int32) (σ : St) : Option (Int32 × St) :=
  bd (f_X5_end s1 s2 σ) fun v1 σ2 =>
  rdS xs L (x3 + (1 : Int32)) fun v3 =>
  rdS xs L (x3 + (2 : Int32)) fun v4 =>
  if v4 = 0 then
    f_L_law_1060 xs L k18 x3 v1 v3 (0 : Int32) σ2
  else
    f_L_law_1060 xs L k18 x3 v1 v3 (1 : Int32) σ2
set_option maxRecDepth 100000 in
set_option maxHeartbeats 4000000 in
theorem b_L_law_1038 {g : Geo} {x : Cx} {b L : Nat} {xs : Nat → Int32} (C : Ok g x cL_law RL 4 ret room_1) (S : Sc g x b L xs) (k18 : Int32 → St → Option (Int32 × St)) (hk18 : ∀ (x3 : Int32) (τ τ' : St), k18 x3 τ = some ((1 : Int32), τ') → V g x (lw_Z (Cx.below x) #[Value.ref b] (Cx.s x)) 4 τ [(0, .ref b), (1, .ref (g.1 0)), (2, .ref (g.1 26)), (3, .int x3)] [] 18) : ∀ (x3 : Int32) (s1 : Int32) (s2 : Int32) (σ σ' : St), f_L_law_1038 xs L k18 x3 s1 s2 σ = some ((1 : Int32), σ') → V g x (lw_Z (Cx.below x) #[Value.ref b] (Cx.s x)) 4 σ [(0, .ref b), (1, .ref (g.1 0)), (2, .ref (g.1 26)), (3, .int x3)] [.int s2, .int s1, .ref (g.1 0)] 1038 := by
  intro x3 s1 s2 σ σ' h
  unfold f_L_law_1038 at h
  obtain ⟨v1, σ2, cσ2, h⟩ := bd_some h
  refine callVi C (c_X5_end cσ2) km_X5_end kv_X5_end rfl ml_RL_126 rfl rfl (by decide) (Nat.le_of_ble_eq_true rfl) dL_law_1038 ?_
  refine v_aload_n C dL_law_1041 rfl 2 rfl ?_
  refine v_aload_n C dL_law_1042 rfl 0 rfl ?_
  refine v_iload_n C dL_law_1043 rfl 3 rfl ?_
  refine v_iconst C (v := (1 : Int32)) dL_law_1044 (by decide) ?_
  refine v_iadd C dL_law_1045 ?_
  obtain ⟨nv3, v3, ev3, h⟩ := rdS_ex h
  refine x_sld C S nv3 ev3 dL_law_1046 ?_
  refine v_aload_n C dL_law_1047 rfl 0 rfl ?_
  refine v_iload_n C dL_law_1048 rfl 3 rfl ?_
  refine v_iconst C (v := (2 : Int32)) dL_law_1049 (by decide) ?_
  refine v_iadd C dL_law_1050 ?_
  obtain ⟨nv4, v4, ev4, h⟩ := rdS_ex h
  refine x_sld C S nv4 ev4 dL_law_1051 ?_
  refine v_if_eq C (tgt := 1059) dL_law_1052 (by decide) (fun q5 => ?_) (fun q5 => ?_)
  · rw [if_pos q5] at h
    refine v_iconst C (v := (0 : Int32)) dL_law_1059 (by decide) ?_
    refine V.sub (lv' := [(0, .ref _), (1, .ref _), (2, .ref _), (3, .int _)]) [0, 1, 2, 3] rfl ?_
    exact b_L_law_1060 C S _ hk18 _ _ _ _ _ _ h
  · rw [if_neg q5] at h
    refine v_iconst C (v := (1 : Int32)) dL_law_1055 (by decide) ?_
    refine v_goto C (tgt := 1060) dL_law_1056 (by decide) ?_
    refine V.sub (lv' := [(0, .ref _), (1, .ref _), (2, .ref _), (3, .int _)]) [0, 1, 2, 3] rfl ?_
    exact b_L_law_1060 C S _ hk18 _ _ _ _ _ _ h
def f_L_law_1019 (xs : Nat → Int32) (L : Nat) (k18 : Int32 → St → Option (Int32 × St)) (x3 : Int32) (σ : St) : Option (Int32 × St) :=
  rdS xs L (x3 + (1 : Int32)) fun v1 =>
  rdS xs L (x3 + (2 : Int32)) fun v2 =>
  if v2 = 0 then
    f_L_law_1038 xs L k18 x3 v1 (0 : Int32) σ
  else
    f_L_law_1038 xs L k18 x3 v1 (1 : Int32) σ
set_option maxRecDepth 100000 in
set_option maxHeartbeats 4000000 in
theorem b_L_law_1019 {g : Geo} {x : Cx} {b L : Nat} {xs : Nat → Int32} (C : Ok g x cL_law RL 4 ret room_1) (S : Sc g x b L xs) (k18 : Int32 → St → Option (Int32 × St)) (hk18 : ∀ (x3 : Int32) (τ τ' : St), k18 x3 τ = some ((1 : Int32), τ') → V g x (lw_Z (Cx.below x) #[Value.ref b] (Cx.s x)) 4 τ [(0, .ref b), (1, .ref (g.1 0)), (2, .ref (g.1 26)), (3, .int x3)] [] 18) : ∀ (x3 : Int32) (σ σ' : St), f_L_law_1019 xs L k18 x3 σ = some ((1 : Int32), σ') → V g x (lw_Z (Cx.below x) #[Value.ref b] (Cx.s x)) 4 σ [(0, .ref b), (1, .ref (g.1 0)), (2, .ref (g.1 26)), (3, .int x3)] [] 1019 := by
  intro x3 σ σ' h
  unfold f_L_law_1019 at h
  refine v_aload_n C dL_law_1019 rfl 1 rfl ?_
  refine v_aload_n C dL_law_1020 rfl 0 rfl ?_
  refine v_iload_n C dL_law_1021 rfl 3 rfl ?_
  refine v_iconst C (v := (1 : Int32)) dL_law_1022 (by decide) ?_
  refine v_iadd C dL_law_1023 ?_
  obtain ⟨nv1, v1, ev1, h⟩ := rdS_ex h
  refine x_sld C S nv1 ev1 dL_law_1024 ?_
  refine v_aload_n C dL_law_1025 rfl 0 rfl ?_
  refine v_iload_n C dL_law_1026 rfl 3 rfl ?_
  refine v_iconst C (v := (2 : Int32)) dL_law_1027 (by decide) ?_
  refine v_iadd C dL_law_1028 ?_
  obtain ⟨nv2, v2, ev2, h⟩ := rdS_ex h
  refine x_sld C S nv2 ev2 dL_law_1029 ?_
  refine v_if_eq C (tgt := 1037) dL_law_1030 (by decide) (fun q3 => ?_) (fun q3 => ?_)
  · rw [if_pos q3] at h
    refine v_iconst C (v := (0 : Int32)) dL_law_1037 (by decide) ?_
    refine V.sub (lv' := [(0, .ref _), (1, .ref _), (2, .ref _), (3, .int _)]) [0, 1, 2, 3] rfl ?_
    exact b_L_law_1038 C S _ hk18 _ _ _ _ _ h
  · rw [if_neg q3] at h
    refine v_iconst C (v := (1 : Int32)) dL_law_1033 (by decide) ?_
    refine v_goto C (tgt := 1038) dL_law_1034 (by decide) ?_
    refine V.sub (lv' := [(0, .ref _), (1, .ref _), (2, .ref _), (3, .int _)]) [0, 1, 2, 3] rfl ?_
    exact b_L_law_1038 C S _ hk18 _ _ _ _ _ h
def f_L_law_986 (xs : Nat → Int32) (L : Nat) (k18 : Int32 → St → Option (Int32 × St)) (x3 : Int32) (σ : St) : Option (Int32 × St) :=
  rdS xs L (x3 + (1 : Int32)) fun v1 =>
  rdS xs L (x3 + (2 : Int32)) fun v2 =>
  bd (f_X5_apart v1 v2 σ) fun v3 σ4 =>
  rdS xs L (x3 + (1 : Int32)) fun v5 =>
  rdS xs L (x3 + (2 : Int32)) fun v6 =>
  bd (f_X6_apart v5 v6 σ4) fun v7 σ8 =>
  if v3 = v7 then
    f_L_law_1176 xs L k18 x3 σ8
  else
    some ((0 : Int32), σ8)
set_option maxRecDepth 100000 in
set_option maxHeartbeats 4000000 in
theorem b_L_law_986 {g : Geo} {x : Cx} {b L : Nat} {xs : Nat → Int32} (C : Ok g x cL_law RL 4 ret room_1) (S : Sc g x b L xs) (k18 : Int32 → St → Option (Int32 × St)) (hk18 : ∀ (x3 : Int32) (τ τ' : St), k18 x3 τ = some ((1 : Int32), τ') → V g x (lw_Z (Cx.below x) #[Value.ref b] (Cx.s x)) 4 τ [(0, .ref b), (1, .ref (g.1 0)), (2, .ref (g.1 26)), (3, .int x3)] [] 18) : ∀ (x3 : Int32) (σ σ' : St), f_L_law_986 xs L k18 x3 σ = some ((1 : Int32), σ') → V g x (lw_Z (Cx.below x) #[Value.ref b] (Cx.s x)) 4 σ [(0, .ref b), (1, .ref (g.1 0)), (2, .ref (g.1 26)), (3, .int x3)] [] 986 := by
  intro x3 σ σ' h
  unfold f_L_law_986 at h
  refine v_aload_n C dL_law_986 rfl 1 rfl ?_
  refine v_aload_n C dL_law_987 rfl 0 rfl ?_
  refine v_iload_n C dL_law_988 rfl 3 rfl ?_
  refine v_iconst C (v := (1 : Int32)) dL_law_989 (by decide) ?_
  refine v_iadd C dL_law_990 ?_
  obtain ⟨nv1, v1, ev1, h⟩ := rdS_ex h
  refine x_sld C S nv1 ev1 dL_law_991 ?_
  refine v_aload_n C dL_law_992 rfl 0 rfl ?_
  refine v_iload_n C dL_law_993 rfl 3 rfl ?_
  refine v_iconst C (v := (2 : Int32)) dL_law_994 (by decide) ?_
  refine v_iadd C dL_law_995 ?_
  obtain ⟨nv2, v2, ev2, h⟩ := rdS_ex h
  refine x_sld C S nv2 ev2 dL_law_996 ?_
  obtain ⟨v3, σ4, cσ4, h⟩ := bd_some h
  refine callVi C (c_X5_apart cσ4) km_X5_apart kv_X5_apart rfl ml_RL_122 rfl rfl (by decide) (Nat.le_of_ble_eq_true rfl) dL_law_997 ?_
  refine v_aload_n C dL_law_1000 rfl 2 rfl ?_
  refine v_aload_n C dL_law_1001 rfl 0 rfl ?_
  refine v_iload_n C dL_law_1002 rfl 3 rfl ?_
  refine v_iconst C (v := (1 : Int32)) dL_law_1003 (by decide) ?_
  refine v_iadd C dL_law_1004 ?_
  obtain ⟨nv5, v5, ev5, h⟩ := rdS_ex h
  refine x_sld C S nv5 ev5 dL_law_1005 ?_
  refine v_aload_n C dL_law_1006 rfl 0 rfl ?_
  refine v_iload_n C dL_law_1007 rfl 3 rfl ?_
  refine v_iconst C (v := (2 : Int32)) dL_law_1008 (by decide) ?_
  refine v_iadd C dL_law_1009 ?_
  obtain ⟨nv6, v6, ev6, h⟩ := rdS_ex h
  refine x_sld C S nv6 ev6 dL_law_1010 ?_
  obtain ⟨v7, σ8, cσ8, h⟩ := bd_some h
  refine callVi C (c_X6_apart cσ8) km_X6_apart kv_X6_apart rfl ml_RL_125 rfl rfl (by decide) (Nat.le_of_ble_eq_true rfl) dL_law_1011 ?_
  refine v_icmp_eq C (tgt := 1176) dL_law_1014 (by decide) (fun q9 => ?_) (fun q9 => ?_)
  · rw [if_pos q9] at h
    refine V.sub (lv' := [(0, .ref _), (1, .ref _), (2, .ref _), (3, .int _)]) [0, 1, 2, 3] rfl ?_
    exact b_L_law_1176 C S _ hk18 _ _ _ h
  · rw [if_neg q9] at h
    refine v_iconst C (v := (0 : Int32)) dL_law_1017 (by decide) ?_
    exact absurd (Prod.mk.inj (Option.some.inj h)).1 (by decide)
def f_L_law_943 (xs : Nat → Int32) (L : Nat) (k18 : Int32 → St → Option (Int32 × St)) (x3 : Int32) (σ : St) : Option (Int32 × St) :=
  rdS xs L (x3 + (1 : Int32)) fun v1 =>
  rdS xs L (x3 + (2 : Int32)) fun v2 =>
  rdS xs L (x3 + (3 : Int32)) fun v3 =>
  bd (f_X5_turn v1 v2 v3 σ) fun v4 σ5 =>
  rdS xs L (x3 + (1 : Int32)) fun v6 =>
  rdS xs L (x3 + (2 : Int32)) fun v7 =>
  rdS xs L (x3 + (3 : Int32)) fun v8 =>
  bd (f_X6_turn v6 v7 v8 σ5) fun v9 σ10 =>
  if v4 = v9 then
    f_L_law_1176 xs L k18 x3 σ10
  else
    some ((0 : Int32), σ10)
set_option maxRecDepth 100000 in
set_option maxHeartbeats 4000000 in
theorem b_L_law_943 {g : Geo} {x : Cx} {b L : Nat} {xs : Nat → Int32} (C : Ok g x cL_law RL 4 ret room_1) (S : Sc g x b L xs) (k18 : Int32 → St → Option (Int32 × St)) (hk18 : ∀ (x3 : Int32) (τ τ' : St), k18 x3 τ = some ((1 : Int32), τ') → V g x (lw_Z (Cx.below x) #[Value.ref b] (Cx.s x)) 4 τ [(0, .ref b), (1, .ref (g.1 0)), (2, .ref (g.1 26)), (3, .int x3)] [] 18) : ∀ (x3 : Int32) (σ σ' : St), f_L_law_943 xs L k18 x3 σ = some ((1 : Int32), σ') → V g x (lw_Z (Cx.below x) #[Value.ref b] (Cx.s x)) 4 σ [(0, .ref b), (1, .ref (g.1 0)), (2, .ref (g.1 26)), (3, .int x3)] [] 943 := by
  intro x3 σ σ' h
  unfold f_L_law_943 at h
  refine v_aload_n C dL_law_943 rfl 1 rfl ?_
  refine v_aload_n C dL_law_944 rfl 0 rfl ?_
  refine v_iload_n C dL_law_945 rfl 3 rfl ?_
  refine v_iconst C (v := (1 : Int32)) dL_law_946 (by decide) ?_
  refine v_iadd C dL_law_947 ?_
  obtain ⟨nv1, v1, ev1, h⟩ := rdS_ex h
  refine x_sld C S nv1 ev1 dL_law_948 ?_
  refine v_aload_n C dL_law_949 rfl 0 rfl ?_
  refine v_iload_n C dL_law_950 rfl 3 rfl ?_
  refine v_iconst C (v := (2 : Int32)) dL_law_951 (by decide) ?_
  refine v_iadd C dL_law_952 ?_
  obtain ⟨nv2, v2, ev2, h⟩ := rdS_ex h
  refine x_sld C S nv2 ev2 dL_law_953 ?_
  refine v_aload_n C dL_law_954 rfl 0 rfl ?_
  refine v_iload_n C dL_law_955 rfl 3 rfl ?_
  refine v_iconst C (v := (3 : Int32)) dL_law_956 (by decide) ?_
  refine v_iadd C dL_law_957 ?_
  obtain ⟨nv3, v3, ev3, h⟩ := rdS_ex h
  refine x_sld C S nv3 ev3 dL_law_958 ?_
  obtain ⟨v4, σ5, cσ5, h⟩ := bd_some h
  refine callVi C (c_X5_turn cσ5) km_X5_turn kv_X5_turn rfl ml_RL_118 rfl rfl (by decide) (Nat.le_of_ble_eq_true rfl) dL_law_959 ?_
  refine v_aload_n C dL_law_962 rfl 2 rfl ?_
  refine v_aload_n C dL_law_963 rfl 0 rfl ?_
  refine v_iload_n C dL_law_964 rfl 3 rfl ?_
  refine v_iconst C (v := (1 : Int32)) dL_law_965 (by decide) ?_
  refine v_iadd C dL_law_966 ?_
  obtain ⟨nv6, v6, ev6, h⟩ := rdS_ex h
  refine x_sld C S nv6 ev6 dL_law_967 ?_
  refine v_aload_n C dL_law_968 rfl 0 rfl ?_
  refine v_iload_n C dL_law_969 rfl 3 rfl ?_
  refine v_iconst C (v := (2 : Int32)) dL_law_970 (by decide) ?_
  refine v_iadd C dL_law_971 ?_
  obtain ⟨nv7, v7, ev7, h⟩ := rdS_ex h
  refine x_sld C S nv7 ev7 dL_law_972 ?_
  refine v_aload_n C dL_law_973 rfl 0 rfl ?_
  refine v_iload_n C dL_law_974 rfl 3 rfl ?_
  refine v_iconst C (v := (3 : Int32)) dL_law_975 (by decide) ?_
  refine v_iadd C dL_law_976 ?_
  obtain ⟨nv8, v8, ev8, h⟩ := rdS_ex h
  refine x_sld C S nv8 ev8 dL_law_977 ?_
  obtain ⟨v9, σ10, cσ10, h⟩ := bd_some h
  refine callVi C (c_X6_turn cσ10) km_X6_turn kv_X6_turn rfl ml_RL_121 rfl rfl (by decide) (Nat.le_of_ble_eq_true rfl) dL_law_978 ?_
  refine v_icmp_eq C (tgt := 1176) dL_law_981 (by decide) (fun q11 => ?_) (fun q11 => ?_)
  · rw [if_pos q11] at h
    refine V.sub (lv' := [(0, .ref _), (1, .ref _), (2, .ref _), (3, .int _)]) [0, 1, 2, 3] rfl ?_
    exact b_L_law_1176 C S _ hk18 _ _ _ h
  · rw [if_neg q11] at h
    refine v_iconst C (v := (0 : Int32)) dL_law_984 (by decide) ?_
    exact absurd (Prod.mk.inj (Option.some.inj h)).1 (by decide)
def f_L_law_935 (xs : Nat → Int32) (L : Nat) (k18 : Int32 → St → Option (Int32 × St)) (x3 : Int32) (s0 : Int32) (s2 : Int32) (s3 : Int32) (σ : St) : Option (Int32 × St) :=
  bd (f_X6_free s2 s3 σ) fun v1 σ2 =>
  if s0 = v1 then
    f_L_law_1176 xs L k18 x3 σ2
  else
    some ((0 : Int32), σ2)
set_option maxRecDepth 100000 in
set_option maxHeartbeats 4000000 in
theorem b_L_law_935 {g : Geo} {x : Cx} {b L : Nat} {xs : Nat → Int32} (C : Ok g x cL_law RL 4 ret room_1) (S : Sc g x b L xs) (k18 : Int32 → St → Option (Int32 × St)) (hk18 : ∀ (x3 : Int32) (τ τ' : St), k18 x3 τ = some ((1 : Int32), τ') → V g x (lw_Z (Cx.below x) #[Value.ref b] (Cx.s x)) 4 τ [(0, .ref b), (1, .ref (g.1 0)), (2, .ref (g.1 26)), (3, .int x3)] [] 18) : ∀ (x3 : Int32) (s0 : Int32) (s2 : Int32) (s3 : Int32) (σ σ' : St), f_L_law_935 xs L k18 x3 s0 s2 s3 σ = some ((1 : Int32), σ') → V g x (lw_Z (Cx.below x) #[Value.ref b] (Cx.s x)) 4 σ [(0, .ref b), (1, .ref (g.1 0)), (2, .ref (g.1 26)), (3, .int x3)] [.int s3, .int s2, .ref (g.1 26), .int s0] 935 := by
  intro x3 s0 s2 s3 σ σ' h
  unfold f_L_law_935 at h
  obtain ⟨v1, σ2, cσ2, h⟩ := bd_some h
  refine callVi C (c_X6_free cσ2) km_X6_free kv_X6_free rfl ml_RL_117 rfl rfl (by decide) (Nat.le_of_ble_eq_true rfl) dL_law_935 ?_
  refine v_icmp_eq C (tgt := 1176) dL_law_938 (by decide) (fun q3 => ?_) (fun q3 => ?_)
  · rw [if_pos q3] at h
    refine V.sub (lv' := [(0, .ref _), (1, .ref _), (2, .ref _), (3, .int _)]) [0, 1, 2, 3] rfl ?_
    exact b_L_law_1176 C S _ hk18 _ _ _ h
  · rw [if_neg q3] at h
    refine v_iconst C (v := (0 : Int32)) dL_law_941 (by decide) ?_
    exact absurd (Prod.mk.inj (Option.some.inj h)).1 (by decide)
def f_L_law_913 (xs : Nat → Int32) (L : Nat) (k18 : Int32 → St → Option (Int32 × St)) (x3 : Int32) (s1 : Int32) (s2 : Int32) (σ : St) : Option (Int32 × St) :=
  bd (f_X5_free s1 s2 σ) fun v1 σ2 =>
  rdS xs L (x3 + (1 : Int32)) fun v3 =>
  rdS xs L (x3 + (2 : Int32)) fun v4 =>
  if v4 = 0 then
    f_L_law_935 xs L k18 x3 v1 v3 (0 : Int32) σ2
  else
    f_L_law_935 xs L k18 x3 v1 v3 (1 : Int32) σ2
set_option maxRecDepth 100000 in
set_option maxHeartbeats 4000000 in
theorem b_L_law_913 {g : Geo} {x : Cx} {b L : Nat} {xs : Nat → Int32} (C : Ok g x cL_law RL 4 ret room_1) (S : Sc g x b L xs) (k18 : Int32 → St → Option (Int32 × St)) (hk18 : ∀ (x3 : Int32) (τ τ' : St), k18 x3 τ = some ((1 : Int32), τ') → V g x (lw_Z (Cx.below x) #[Value.ref b] (Cx.s x)) 4 τ [(0, .ref b), (1, .ref (g.1 0)), (2, .ref (g.1 26)), (3, .int x3)] [] 18) : ∀ (x3 : Int32) (s1 : Int32) (s2 : Int32) (σ σ' : St), f_L_law_913 xs L k18 x3 s1 s2 σ = some ((1 : Int32), σ') → V g x (lw_Z (Cx.below x) #[Value.ref b] (Cx.s x)) 4 σ [(0, .ref b), (1, .ref (g.1 0)), (2, .ref (g.1 26)), (3, .int x3)] [.int s2, .int s1, .ref (g.1 0)] 913 := by
  intro x3 s1 s2 σ σ' h
  unfold f_L_law_913 at h
  obtain ⟨v1, σ2, cσ2, h⟩ := bd_some h
  refine callVi C (c_X5_free cσ2) km_X5_free kv_X5_free rfl ml_RL_114 rfl rfl (by decide) (Nat.le_of_ble_eq_true rfl) dL_law_913 ?_
  refine v_aload_n C dL_law_916 rfl 2 rfl ?_
  refine v_aload_n C dL_law_917 rfl 0 rfl ?_
  refine v_iload_n C dL_law_918 rfl 3 rfl ?_
  refine v_iconst C (v := (1 : Int32)) dL_law_919 (by decide) ?_
  refine v_iadd C dL_law_920 ?_
  obtain ⟨nv3, v3, ev3, h⟩ := rdS_ex h
  refine x_sld C S nv3 ev3 dL_law_921 ?_
  refine v_aload_n C dL_law_922 rfl 0 rfl ?_
  refine v_iload_n C dL_law_923 rfl 3 rfl ?_
  refine v_iconst C (v := (2 : Int32)) dL_law_924 (by decide) ?_
  refine v_iadd C dL_law_925 ?_
  obtain ⟨nv4, v4, ev4, h⟩ := rdS_ex h
  refine x_sld C S nv4 ev4 dL_law_926 ?_
  refine v_if_eq C (tgt := 934) dL_law_927 (by decide) (fun q5 => ?_) (fun q5 => ?_)
  · rw [if_pos q5] at h
    refine v_iconst C (v := (0 : Int32)) dL_law_934 (by decide) ?_
    refine V.sub (lv' := [(0, .ref _), (1, .ref _), (2, .ref _), (3, .int _)]) [0, 1, 2, 3] rfl ?_
    exact b_L_law_935 C S _ hk18 _ _ _ _ _ _ h
  · rw [if_neg q5] at h
    refine v_iconst C (v := (1 : Int32)) dL_law_930 (by decide) ?_
    refine v_goto C (tgt := 935) dL_law_931 (by decide) ?_
    refine V.sub (lv' := [(0, .ref _), (1, .ref _), (2, .ref _), (3, .int _)]) [0, 1, 2, 3] rfl ?_
    exact b_L_law_935 C S _ hk18 _ _ _ _ _ _ h
def f_L_law_894 (xs : Nat → Int32) (L : Nat) (k18 : Int32 → St → Option (Int32 × St)) (x3 : Int32) (σ : St) : Option (Int32 × St) :=
  rdS xs L (x3 + (1 : Int32)) fun v1 =>
  rdS xs L (x3 + (2 : Int32)) fun v2 =>
  if v2 = 0 then
    f_L_law_913 xs L k18 x3 v1 (0 : Int32) σ
  else
    f_L_law_913 xs L k18 x3 v1 (1 : Int32) σ
set_option maxRecDepth 100000 in
set_option maxHeartbeats 4000000 in
theorem b_L_law_894 {g : Geo} {x : Cx} {b L : Nat} {xs : Nat → Int32} (C : Ok g x cL_law RL 4 ret room_1) (S : Sc g x b L xs) (k18 : Int32 → St → Option (Int32 × St)) (hk18 : ∀ (x3 : Int32) (τ τ' : St), k18 x3 τ = some ((1 : Int32), τ') → V g x (lw_Z (Cx.below x) #[Value.ref b] (Cx.s x)) 4 τ [(0, .ref b), (1, .ref (g.1 0)), (2, .ref (g.1 26)), (3, .int x3)] [] 18) : ∀ (x3 : Int32) (σ σ' : St), f_L_law_894 xs L k18 x3 σ = some ((1 : Int32), σ') → V g x (lw_Z (Cx.below x) #[Value.ref b] (Cx.s x)) 4 σ [(0, .ref b), (1, .ref (g.1 0)), (2, .ref (g.1 26)), (3, .int x3)] [] 894 := by
  intro x3 σ σ' h
  unfold f_L_law_894 at h
  refine v_aload_n C dL_law_894 rfl 1 rfl ?_
  refine v_aload_n C dL_law_895 rfl 0 rfl ?_
  refine v_iload_n C dL_law_896 rfl 3 rfl ?_
  refine v_iconst C (v := (1 : Int32)) dL_law_897 (by decide) ?_
  refine v_iadd C dL_law_898 ?_
  obtain ⟨nv1, v1, ev1, h⟩ := rdS_ex h
  refine x_sld C S nv1 ev1 dL_law_899 ?_
  refine v_aload_n C dL_law_900 rfl 0 rfl ?_
  refine v_iload_n C dL_law_901 rfl 3 rfl ?_
  refine v_iconst C (v := (2 : Int32)) dL_law_902 (by decide) ?_
  refine v_iadd C dL_law_903 ?_
  obtain ⟨nv2, v2, ev2, h⟩ := rdS_ex h
  refine x_sld C S nv2 ev2 dL_law_904 ?_
  refine v_if_eq C (tgt := 912) dL_law_905 (by decide) (fun q3 => ?_) (fun q3 => ?_)
  · rw [if_pos q3] at h
    refine v_iconst C (v := (0 : Int32)) dL_law_912 (by decide) ?_
    refine V.sub (lv' := [(0, .ref _), (1, .ref _), (2, .ref _), (3, .int _)]) [0, 1, 2, 3] rfl ?_
    exact b_L_law_913 C S _ hk18 _ _ _ _ _ h
  · rw [if_neg q3] at h
    refine v_iconst C (v := (1 : Int32)) dL_law_908 (by decide) ?_
    refine v_goto C (tgt := 913) dL_law_909 (by decide) ?_
    refine V.sub (lv' := [(0, .ref _), (1, .ref _), (2, .ref _), (3, .int _)]) [0, 1, 2, 3] rfl ?_
    exact b_L_law_913 C S _ hk18 _ _ _ _ _ h
def f_L_law_851 (xs : Nat → Int32) (L : Nat) (k18 : Int32 → St → Option (Int32 × St)) (x3 : Int32) (σ : St) : Option (Int32 × St) :=
  rdS xs L (x3 + (1 : Int32)) fun v1 =>
  rdS xs L (x3 + (2 : Int32)) fun v2 =>
  rdS xs L (x3 + (3 : Int32)) fun v3 =>
  bd (f_X5_point v1 v2 v3 σ) fun v4 σ5 =>
  rdS xs L (x3 + (1 : Int32)) fun v6 =>
  rdS xs L (x3 + (2 : Int32)) fun v7 =>
  rdS xs L (x3 + (3 : Int32)) fun v8 =>
  bd (f_X6_point v6 v7 v8 σ5) fun v9 σ10 =>
  if v4 = v9 then
    f_L_law_1176 xs L k18 x3 σ10
  else
    some ((0 : Int32), σ10)
set_option maxRecDepth 100000 in
set_option maxHeartbeats 4000000 in
theorem b_L_law_851 {g : Geo} {x : Cx} {b L : Nat} {xs : Nat → Int32} (C : Ok g x cL_law RL 4 ret room_1) (S : Sc g x b L xs) (k18 : Int32 → St → Option (Int32 × St)) (hk18 : ∀ (x3 : Int32) (τ τ' : St), k18 x3 τ = some ((1 : Int32), τ') → V g x (lw_Z (Cx.below x) #[Value.ref b] (Cx.s x)) 4 τ [(0, .ref b), (1, .ref (g.1 0)), (2, .ref (g.1 26)), (3, .int x3)] [] 18) : ∀ (x3 : Int32) (σ σ' : St), f_L_law_851 xs L k18 x3 σ = some ((1 : Int32), σ') → V g x (lw_Z (Cx.below x) #[Value.ref b] (Cx.s x)) 4 σ [(0, .ref b), (1, .ref (g.1 0)), (2, .ref (g.1 26)), (3, .int x3)] [] 851 := by
  intro x3 σ σ' h
  unfold f_L_law_851 at h
  refine v_aload_n C dL_law_851 rfl 1 rfl ?_
  refine v_aload_n C dL_law_852 rfl 0 rfl ?_
  refine v_iload_n C dL_law_853 rfl 3 rfl ?_
  refine v_iconst C (v := (1 : Int32)) dL_law_854 (by decide) ?_
  refine v_iadd C dL_law_855 ?_
  obtain ⟨nv1, v1, ev1, h⟩ := rdS_ex h
  refine x_sld C S nv1 ev1 dL_law_856 ?_
  refine v_aload_n C dL_law_857 rfl 0 rfl ?_
  refine v_iload_n C dL_law_858 rfl 3 rfl ?_
  refine v_iconst C (v := (2 : Int32)) dL_law_859 (by decide) ?_
  refine v_iadd C dL_law_860 ?_
  obtain ⟨nv2, v2, ev2, h⟩ := rdS_ex h
  refine x_sld C S nv2 ev2 dL_law_861 ?_
  refine v_aload_n C dL_law_862 rfl 0 rfl ?_
  refine v_iload_n C dL_law_863 rfl 3 rfl ?_
  refine v_iconst C (v := (3 : Int32)) dL_law_864 (by decide) ?_
  refine v_iadd C dL_law_865 ?_
  obtain ⟨nv3, v3, ev3, h⟩ := rdS_ex h
  refine x_sld C S nv3 ev3 dL_law_866 ?_
  obtain ⟨v4, σ5, cσ5, h⟩ := bd_some h
  refine callVi C (c_X5_point cσ5) km_X5_point kv_X5_point rfl ml_RL_110 rfl rfl (by decide) (Nat.le_of_ble_eq_true rfl) dL_law_867 ?_
  refine v_aload_n C dL_law_870 rfl 2 rfl ?_
  refine v_aload_n C dL_law_871 rfl 0 rfl ?_
  refine v_iload_n C dL_law_872 rfl 3 rfl ?_
  refine v_iconst C (v := (1 : Int32)) dL_law_873 (by decide) ?_
  refine v_iadd C dL_law_874 ?_
  obtain ⟨nv6, v6, ev6, h⟩ := rdS_ex h
  refine x_sld C S nv6 ev6 dL_law_875 ?_
  refine v_aload_n C dL_law_876 rfl 0 rfl ?_
  refine v_iload_n C dL_law_877 rfl 3 rfl ?_
  refine v_iconst C (v := (2 : Int32)) dL_law_878 (by decide) ?_
  refine v_iadd C dL_law_879 ?_
  obtain ⟨nv7, v7, ev7, h⟩ := rdS_ex h
  refine x_sld C S nv7 ev7 dL_law_880 ?_
  refine v_aload_n C dL_law_881 rfl 0 rfl ?_
  refine v_iload_n C dL_law_882 rfl 3 rfl ?_
  refine v_iconst C (v := (3 : Int32)) dL_law_883 (by decide) ?_
  refine v_iadd C dL_law_884 ?_
  obtain ⟨nv8, v8, ev8, h⟩ := rdS_ex h
  refine x_sld C S nv8 ev8 dL_law_885 ?_
  obtain ⟨v9, σ10, cσ10, h⟩ := bd_some h
  refine callVi C (c_X6_point cσ10) km_X6_point kv_X6_point rfl ml_RL_113 rfl rfl (by decide) (Nat.le_of_ble_eq_true rfl) dL_law_886 ?_
  refine v_icmp_eq C (tgt := 1176) dL_law_889 (by decide) (fun q11 => ?_) (fun q11 => ?_)
  · rw [if_pos q11] at h
    refine V.sub (lv' := [(0, .ref _), (1, .ref _), (2, .ref _), (3, .int _)]) [0, 1, 2, 3] rfl ?_
    exact b_L_law_1176 C S _ hk18 _ _ _ h
  · rw [if_neg q11] at h
    refine v_iconst C (v := (0 : Int32)) dL_law_892 (by decide) ?_
    exact absurd (Prod.mk.inj (Option.some.inj h)).1 (by decide)
def f_L_law_828 (xs : Nat → Int32) (L : Nat) (k18 : Int32 → St → Option (Int32 × St)) (x3 : Int32) (σ : St) : Option (Int32 × St) :=
  rdS xs L (x3 + (1 : Int32)) fun v1 =>
  bd (f_X5_weighs v1 σ) fun v2 σ3 =>
  rdS xs L (x3 + (1 : Int32)) fun v4 =>
  bd (f_X6_weighs v4 σ3) fun v5 σ6 =>
  if v2 = v5 then
    f_L_law_1176 xs L k18 x3 σ6
  else
    some ((0 : Int32), σ6)
set_option maxRecDepth 100000 in
set_option maxHeartbeats 4000000 in
theorem b_L_law_828 {g : Geo} {x : Cx} {b L : Nat} {xs : Nat → Int32} (C : Ok g x cL_law RL 4 ret room_1) (S : Sc g x b L xs) (k18 : Int32 → St → Option (Int32 × St)) (hk18 : ∀ (x3 : Int32) (τ τ' : St), k18 x3 τ = some ((1 : Int32), τ') → V g x (lw_Z (Cx.below x) #[Value.ref b] (Cx.s x)) 4 τ [(0, .ref b), (1, .ref (g.1 0)), (2, .ref (g.1 26)), (3, .int x3)] [] 18) : ∀ (x3 : Int32) (σ σ' : St), f_L_law_828 xs L k18 x3 σ = some ((1 : Int32), σ') → V g x (lw_Z (Cx.below x) #[Value.ref b] (Cx.s x)) 4 σ [(0, .ref b), (1, .ref (g.1 0)), (2, .ref (g.1 26)), (3, .int x3)] [] 828 := by
  intro x3 σ σ' h
  unfold f_L_law_828 at h
  refine v_aload_n C dL_law_828 rfl 1 rfl ?_
  refine v_aload_n C dL_law_829 rfl 0 rfl ?_
  refine v_iload_n C dL_law_830 rfl 3 rfl ?_
  refine v_iconst C (v := (1 : Int32)) dL_law_831 (by decide) ?_
  refine v_iadd C dL_law_832 ?_
  obtain ⟨nv1, v1, ev1, h⟩ := rdS_ex h
  refine x_sld C S nv1 ev1 dL_law_833 ?_
  obtain ⟨v2, σ3, cσ3, h⟩ := bd_some h
  refine callVi C (c_X5_weighs cσ3) km_X5_weighs kv_X5_weighs rfl ml_RL_106 rfl rfl (by decide) (Nat.le_of_ble_eq_true rfl) dL_law_834 ?_
  refine v_aload_n C dL_law_837 rfl 2 rfl ?_
  refine v_aload_n C dL_law_838 rfl 0 rfl ?_
  refine v_iload_n C dL_law_839 rfl 3 rfl ?_
  refine v_iconst C (v := (1 : Int32)) dL_law_840 (by decide) ?_
  refine v_iadd C dL_law_841 ?_
  obtain ⟨nv4, v4, ev4, h⟩ := rdS_ex h
  refine x_sld C S nv4 ev4 dL_law_842 ?_
  obtain ⟨v5, σ6, cσ6, h⟩ := bd_some h
  refine callVi C (c_X6_weighs cσ6) km_X6_weighs kv_X6_weighs rfl ml_RL_109 rfl rfl (by decide) (Nat.le_of_ble_eq_true rfl) dL_law_843 ?_
  refine v_icmp_eq C (tgt := 1176) dL_law_846 (by decide) (fun q7 => ?_) (fun q7 => ?_)
  · rw [if_pos q7] at h
    refine V.sub (lv' := [(0, .ref _), (1, .ref _), (2, .ref _), (3, .int _)]) [0, 1, 2, 3] rfl ?_
    exact b_L_law_1176 C S _ hk18 _ _ _ h
  · rw [if_neg q7] at h
    refine v_iconst C (v := (0 : Int32)) dL_law_849 (by decide) ?_
    exact absurd (Prod.mk.inj (Option.some.inj h)).1 (by decide)
def f_L_law_795 (xs : Nat → Int32) (L : Nat) (k18 : Int32 → St → Option (Int32 × St)) (x3 : Int32) (σ : St) : Option (Int32 × St) :=
  rdS xs L (x3 + (1 : Int32)) fun v1 =>
  rdS xs L (x3 + (2 : Int32)) fun v2 =>
  bd (f_X5_count v1 v2 σ) fun v3 σ4 =>
  rdS xs L (x3 + (1 : Int32)) fun v5 =>
  rdS xs L (x3 + (2 : Int32)) fun v6 =>
  bd (f_X6_count_ v5 v6 σ4) fun v7 σ8 =>
  if v3 = v7 then
    f_L_law_1176 xs L k18 x3 σ8
  else
    some ((0 : Int32), σ8)
set_option maxRecDepth 100000 in
set_option maxHeartbeats 4000000 in
theorem b_L_law_795 {g : Geo} {x : Cx} {b L : Nat} {xs : Nat → Int32} (C : Ok g x cL_law RL 4 ret room_1) (S : Sc g x b L xs) (k18 : Int32 → St → Option (Int32 × St)) (hk18 : ∀ (x3 : Int32) (τ τ' : St), k18 x3 τ = some ((1 : Int32), τ') → V g x (lw_Z (Cx.below x) #[Value.ref b] (Cx.s x)) 4 τ [(0, .ref b), (1, .ref (g.1 0)), (2, .ref (g.1 26)), (3, .int x3)] [] 18) : ∀ (x3 : Int32) (σ σ' : St), f_L_law_795 xs L k18 x3 σ = some ((1 : Int32), σ') → V g x (lw_Z (Cx.below x) #[Value.ref b] (Cx.s x)) 4 σ [(0, .ref b), (1, .ref (g.1 0)), (2, .ref (g.1 26)), (3, .int x3)] [] 795 := by
  intro x3 σ σ' h
  unfold f_L_law_795 at h
  refine v_aload_n C dL_law_795 rfl 1 rfl ?_
  refine v_aload_n C dL_law_796 rfl 0 rfl ?_
  refine v_iload_n C dL_law_797 rfl 3 rfl ?_
  refine v_iconst C (v := (1 : Int32)) dL_law_798 (by decide) ?_
  refine v_iadd C dL_law_799 ?_
  obtain ⟨nv1, v1, ev1, h⟩ := rdS_ex h
  refine x_sld C S nv1 ev1 dL_law_800 ?_
  refine v_aload_n C dL_law_801 rfl 0 rfl ?_
  refine v_iload_n C dL_law_802 rfl 3 rfl ?_
  refine v_iconst C (v := (2 : Int32)) dL_law_803 (by decide) ?_
  refine v_iadd C dL_law_804 ?_
  obtain ⟨nv2, v2, ev2, h⟩ := rdS_ex h
  refine x_sld C S nv2 ev2 dL_law_805 ?_
  obtain ⟨v3, σ4, cσ4, h⟩ := bd_some h
  refine callVi C (c_X5_count cσ4) km_X5_count kv_X5_count rfl ml_RL_102 rfl rfl (by decide) (Nat.le_of_ble_eq_true rfl) dL_law_806 ?_
  refine v_aload_n C dL_law_809 rfl 2 rfl ?_
  refine v_aload_n C dL_law_810 rfl 0 rfl ?_
  refine v_iload_n C dL_law_811 rfl 3 rfl ?_
  refine v_iconst C (v := (1 : Int32)) dL_law_812 (by decide) ?_
  refine v_iadd C dL_law_813 ?_
  obtain ⟨nv5, v5, ev5, h⟩ := rdS_ex h
  refine x_sld C S nv5 ev5 dL_law_814 ?_
  refine v_aload_n C dL_law_815 rfl 0 rfl ?_
  refine v_iload_n C dL_law_816 rfl 3 rfl ?_
  refine v_iconst C (v := (2 : Int32)) dL_law_817 (by decide) ?_
  refine v_iadd C dL_law_818 ?_
  obtain ⟨nv6, v6, ev6, h⟩ := rdS_ex h
  refine x_sld C S nv6 ev6 dL_law_819 ?_
  obtain ⟨v7, σ8, cσ8, h⟩ := bd_some h
  refine callVi C (c_X6_count_ cσ8) km_X6_count_ kv_X6_count_ rfl ml_RL_105 rfl rfl (by decide) (Nat.le_of_ble_eq_true rfl) dL_law_820 ?_
  refine v_icmp_eq C (tgt := 1176) dL_law_823 (by decide) (fun q9 => ?_) (fun q9 => ?_)
  · rw [if_pos q9] at h
    refine V.sub (lv' := [(0, .ref _), (1, .ref _), (2, .ref _), (3, .int _)]) [0, 1, 2, 3] rfl ?_
    exact b_L_law_1176 C S _ hk18 _ _ _ h
  · rw [if_neg q9] at h
    refine v_iconst C (v := (0 : Int32)) dL_law_826 (by decide) ?_
    exact absurd (Prod.mk.inj (Option.some.inj h)).1 (by decide)
def f_L_law_762 (xs : Nat → Int32) (L : Nat) (k18 : Int32 → St → Option (Int32 × St)) (x3 : Int32) (σ : St) : Option (Int32 × St) :=
  rdS xs L (x3 + (1 : Int32)) fun v1 =>
  rdS xs L (x3 + (2 : Int32)) fun v2 =>
  bd (f_X5_kind v1 v2 σ) fun v3 σ4 =>
  rdS xs L (x3 + (1 : Int32)) fun v5 =>
  rdS xs L (x3 + (2 : Int32)) fun v6 =>
  bd (f_X6_kind v5 v6 σ4) fun v7 σ8 =>
  if v3 = v7 then
    f_L_law_1176 xs L k18 x3 σ8
  else
    some ((0 : Int32), σ8)
set_option maxRecDepth 100000 in
set_option maxHeartbeats 4000000 in
theorem b_L_law_762 {g : Geo} {x : Cx} {b L : Nat} {xs : Nat → Int32} (C : Ok g x cL_law RL 4 ret room_1) (S : Sc g x b L xs) (k18 : Int32 → St → Option (Int32 × St)) (hk18 : ∀ (x3 : Int32) (τ τ' : St), k18 x3 τ = some ((1 : Int32), τ') → V g x (lw_Z (Cx.below x) #[Value.ref b] (Cx.s x)) 4 τ [(0, .ref b), (1, .ref (g.1 0)), (2, .ref (g.1 26)), (3, .int x3)] [] 18) : ∀ (x3 : Int32) (σ σ' : St), f_L_law_762 xs L k18 x3 σ = some ((1 : Int32), σ') → V g x (lw_Z (Cx.below x) #[Value.ref b] (Cx.s x)) 4 σ [(0, .ref b), (1, .ref (g.1 0)), (2, .ref (g.1 26)), (3, .int x3)] [] 762 := by
  intro x3 σ σ' h
  unfold f_L_law_762 at h
  refine v_aload_n C dL_law_762 rfl 1 rfl ?_
  refine v_aload_n C dL_law_763 rfl 0 rfl ?_
  refine v_iload_n C dL_law_764 rfl 3 rfl ?_
  refine v_iconst C (v := (1 : Int32)) dL_law_765 (by decide) ?_
  refine v_iadd C dL_law_766 ?_
  obtain ⟨nv1, v1, ev1, h⟩ := rdS_ex h
  refine x_sld C S nv1 ev1 dL_law_767 ?_
  refine v_aload_n C dL_law_768 rfl 0 rfl ?_
  refine v_iload_n C dL_law_769 rfl 3 rfl ?_
  refine v_iconst C (v := (2 : Int32)) dL_law_770 (by decide) ?_
  refine v_iadd C dL_law_771 ?_
  obtain ⟨nv2, v2, ev2, h⟩ := rdS_ex h
  refine x_sld C S nv2 ev2 dL_law_772 ?_
  obtain ⟨v3, σ4, cσ4, h⟩ := bd_some h
  refine callVi C (c_X5_kind cσ4) km_X5_kind kv_X5_kind rfl ml_RL_98 rfl rfl (by decide) (Nat.le_of_ble_eq_true rfl) dL_law_773 ?_
  refine v_aload_n C dL_law_776 rfl 2 rfl ?_
  refine v_aload_n C dL_law_777 rfl 0 rfl ?_
  refine v_iload_n C dL_law_778 rfl 3 rfl ?_
  refine v_iconst C (v := (1 : Int32)) dL_law_779 (by decide) ?_
  refine v_iadd C dL_law_780 ?_
  obtain ⟨nv5, v5, ev5, h⟩ := rdS_ex h
  refine x_sld C S nv5 ev5 dL_law_781 ?_
  refine v_aload_n C dL_law_782 rfl 0 rfl ?_
  refine v_iload_n C dL_law_783 rfl 3 rfl ?_
  refine v_iconst C (v := (2 : Int32)) dL_law_784 (by decide) ?_
  refine v_iadd C dL_law_785 ?_
  obtain ⟨nv6, v6, ev6, h⟩ := rdS_ex h
  refine x_sld C S nv6 ev6 dL_law_786 ?_
  obtain ⟨v7, σ8, cσ8, h⟩ := bd_some h
  refine callVi C (c_X6_kind cσ8) km_X6_kind kv_X6_kind rfl ml_RL_101 rfl rfl (by decide) (Nat.le_of_ble_eq_true rfl) dL_law_787 ?_
  refine v_icmp_eq C (tgt := 1176) dL_law_790 (by decide) (fun q9 => ?_) (fun q9 => ?_)
  · rw [if_pos q9] at h
    refine V.sub (lv' := [(0, .ref _), (1, .ref _), (2, .ref _), (3, .int _)]) [0, 1, 2, 3] rfl ?_
    exact b_L_law_1176 C S _ hk18 _ _ _ h
  · rw [if_neg q9] at h
    refine v_iconst C (v := (0 : Int32)) dL_law_793 (by decide) ?_
    exact absurd (Prod.mk.inj (Option.some.inj h)).1 (by decide)
def f_L_law_738 (xs : Nat → Int32) (L : Nat) (k18 : Int32 → St → Option (Int32 × St)) (x3 : Int32) (σ : St) : Option (Int32 × St) :=
  rdS xs L (x3 + (1 : Int32)) fun v1 =>
  bd (f_X5_place v1 σ) fun v2 σ3 =>
  rdS xs L (x3 + (1 : Int32)) fun v4 =>
  bd (f_X6_place v4 σ3) fun v5 σ6 =>
  if v2 = v5 then
    f_L_law_1176 xs L k18 x3 σ6
  else
    some ((0 : Int32), σ6)
set_option maxRecDepth 100000 in
set_option maxHeartbeats 4000000 in
theorem b_L_law_738 {g : Geo} {x : Cx} {b L : Nat} {xs : Nat → Int32} (C : Ok g x cL_law RL 4 ret room_1) (S : Sc g x b L xs) (k18 : Int32 → St → Option (Int32 × St)) (hk18 : ∀ (x3 : Int32) (τ τ' : St), k18 x3 τ = some ((1 : Int32), τ') → V g x (lw_Z (Cx.below x) #[Value.ref b] (Cx.s x)) 4 τ [(0, .ref b), (1, .ref (g.1 0)), (2, .ref (g.1 26)), (3, .int x3)] [] 18) : ∀ (x3 : Int32) (σ σ' : St), f_L_law_738 xs L k18 x3 σ = some ((1 : Int32), σ') → V g x (lw_Z (Cx.below x) #[Value.ref b] (Cx.s x)) 4 σ [(0, .ref b), (1, .ref (g.1 0)), (2, .ref (g.1 26)), (3, .int x3)] [] 738 := by
  intro x3 σ σ' h
  unfold f_L_law_738 at h
  refine v_aload_n C dL_law_738 rfl 1 rfl ?_
  refine v_aload_n C dL_law_739 rfl 0 rfl ?_
  refine v_iload_n C dL_law_740 rfl 3 rfl ?_
  refine v_iconst C (v := (1 : Int32)) dL_law_741 (by decide) ?_
  refine v_iadd C dL_law_742 ?_
  obtain ⟨nv1, v1, ev1, h⟩ := rdS_ex h
  refine x_sld C S nv1 ev1 dL_law_743 ?_
  obtain ⟨v2, σ3, cσ3, h⟩ := bd_some h
  refine callVl C (c_X5_place cσ3) km_X5_place kv_X5_place rfl ml_RL_93 rfl rfl (by decide) (Nat.le_of_ble_eq_true rfl) dL_law_744 ?_
  refine v_aload_n C dL_law_747 rfl 2 rfl ?_
  refine v_aload_n C dL_law_748 rfl 0 rfl ?_
  refine v_iload_n C dL_law_749 rfl 3 rfl ?_
  refine v_iconst C (v := (1 : Int32)) dL_law_750 (by decide) ?_
  refine v_iadd C dL_law_751 ?_
  obtain ⟨nv4, v4, ev4, h⟩ := rdS_ex h
  refine x_sld C S nv4 ev4 dL_law_752 ?_
  obtain ⟨v5, σ6, cσ6, h⟩ := bd_some h
  refine callVl C (c_X6_place cσ6) km_X6_place kv_X6_place rfl ml_RL_97 rfl rfl (by decide) (Nat.le_of_ble_eq_true rfl) dL_law_753 ?_
  refine v_lcmp_eq C (tgt := 1176) dL_law_756 dL_law_757 (by decide) (fun q7 => ?_) (fun q7 => ?_)
  · rw [if_pos q7] at h
    refine V.sub (lv' := [(0, .ref _), (1, .ref _), (2, .ref _), (3, .int _)]) [0, 1, 2, 3] rfl ?_
    exact b_L_law_1176 C S _ hk18 _ _ _ h
  · rw [if_neg q7] at h
    refine v_iconst C (v := (0 : Int32)) dL_law_760 (by decide) ?_
    exact absurd (Prod.mk.inj (Option.some.inj h)).1 (by decide)
def f_L_law_705 (xs : Nat → Int32) (L : Nat) (k18 : Int32 → St → Option (Int32 × St)) (x3 : Int32) (σ : St) : Option (Int32 × St) :=
  rdS xs L (x3 + (1 : Int32)) fun v1 =>
  rdS xs L (x3 + (2 : Int32)) fun v2 =>
  bd (f_X5_copy v1 v2 σ) fun v3 σ4 =>
  rdS xs L (x3 + (1 : Int32)) fun v5 =>
  rdS xs L (x3 + (2 : Int32)) fun v6 =>
  bd (f_X6_copy v5 v6 σ4) fun v7 σ8 =>
  if v3 = v7 then
    f_L_law_1176 xs L k18 x3 σ8
  else
    some ((0 : Int32), σ8)
set_option maxRecDepth 100000 in
set_option maxHeartbeats 4000000 in
theorem b_L_law_705 {g : Geo} {x : Cx} {b L : Nat} {xs : Nat → Int32} (C : Ok g x cL_law RL 4 ret room_1) (S : Sc g x b L xs) (k18 : Int32 → St → Option (Int32 × St)) (hk18 : ∀ (x3 : Int32) (τ τ' : St), k18 x3 τ = some ((1 : Int32), τ') → V g x (lw_Z (Cx.below x) #[Value.ref b] (Cx.s x)) 4 τ [(0, .ref b), (1, .ref (g.1 0)), (2, .ref (g.1 26)), (3, .int x3)] [] 18) : ∀ (x3 : Int32) (σ σ' : St), f_L_law_705 xs L k18 x3 σ = some ((1 : Int32), σ') → V g x (lw_Z (Cx.below x) #[Value.ref b] (Cx.s x)) 4 σ [(0, .ref b), (1, .ref (g.1 0)), (2, .ref (g.1 26)), (3, .int x3)] [] 705 := by
  intro x3 σ σ' h
  unfold f_L_law_705 at h
  refine v_aload_n C dL_law_705 rfl 1 rfl ?_
  refine v_aload_n C dL_law_706 rfl 0 rfl ?_
  refine v_iload_n C dL_law_707 rfl 3 rfl ?_
  refine v_iconst C (v := (1 : Int32)) dL_law_708 (by decide) ?_
  refine v_iadd C dL_law_709 ?_
  obtain ⟨nv1, v1, ev1, h⟩ := rdS_ex h
  refine x_sld C S nv1 ev1 dL_law_710 ?_
  refine v_aload_n C dL_law_711 rfl 0 rfl ?_
  refine v_iload_n C dL_law_712 rfl 3 rfl ?_
  refine v_iconst C (v := (2 : Int32)) dL_law_713 (by decide) ?_
  refine v_iadd C dL_law_714 ?_
  obtain ⟨nv2, v2, ev2, h⟩ := rdS_ex h
  refine x_sld C S nv2 ev2 dL_law_715 ?_
  obtain ⟨v3, σ4, cσ4, h⟩ := bd_some h
  refine callVi C (c_X5_copy cσ4) km_X5_copy kv_X5_copy rfl ml_RL_89 rfl rfl (by decide) (Nat.le_of_ble_eq_true rfl) dL_law_716 ?_
  refine v_aload_n C dL_law_719 rfl 2 rfl ?_
  refine v_aload_n C dL_law_720 rfl 0 rfl ?_
  refine v_iload_n C dL_law_721 rfl 3 rfl ?_
  refine v_iconst C (v := (1 : Int32)) dL_law_722 (by decide) ?_
  refine v_iadd C dL_law_723 ?_
  obtain ⟨nv5, v5, ev5, h⟩ := rdS_ex h
  refine x_sld C S nv5 ev5 dL_law_724 ?_
  refine v_aload_n C dL_law_725 rfl 0 rfl ?_
  refine v_iload_n C dL_law_726 rfl 3 rfl ?_
  refine v_iconst C (v := (2 : Int32)) dL_law_727 (by decide) ?_
  refine v_iadd C dL_law_728 ?_
  obtain ⟨nv6, v6, ev6, h⟩ := rdS_ex h
  refine x_sld C S nv6 ev6 dL_law_729 ?_
  obtain ⟨v7, σ8, cσ8, h⟩ := bd_some h
  refine callVi C (c_X6_copy cσ8) km_X6_copy kv_X6_copy rfl ml_RL_92 rfl rfl (by decide) (Nat.le_of_ble_eq_true rfl) dL_law_730 ?_
  refine v_icmp_eq C (tgt := 1176) dL_law_733 (by decide) (fun q9 => ?_) (fun q9 => ?_)
  · rw [if_pos q9] at h
    refine V.sub (lv' := [(0, .ref _), (1, .ref _), (2, .ref _), (3, .int _)]) [0, 1, 2, 3] rfl ?_
    exact b_L_law_1176 C S _ hk18 _ _ _ h
  · rw [if_neg q9] at h
    refine v_iconst C (v := (0 : Int32)) dL_law_736 (by decide) ?_
    exact absurd (Prod.mk.inj (Option.some.inj h)).1 (by decide)
def f_L_law_682 (xs : Nat → Int32) (L : Nat) (k18 : Int32 → St → Option (Int32 × St)) (x3 : Int32) (σ : St) : Option (Int32 × St) :=
  rdS xs L (x3 + (1 : Int32)) fun v1 =>
  bd (f_X5_layDearest v1 σ) fun v2 σ3 =>
  rdS xs L (x3 + (1 : Int32)) fun v4 =>
  bd (f_X6_layDearest v4 σ3) fun v5 σ6 =>
  if v2 = v5 then
    f_L_law_1176 xs L k18 x3 σ6
  else
    some ((0 : Int32), σ6)
set_option maxRecDepth 100000 in
set_option maxHeartbeats 4000000 in
theorem b_L_law_682 {g : Geo} {x : Cx} {b L : Nat} {xs : Nat → Int32} (C : Ok g x cL_law RL 4 ret room_1) (S : Sc g x b L xs) (k18 : Int32 → St → Option (Int32 × St)) (hk18 : ∀ (x3 : Int32) (τ τ' : St), k18 x3 τ = some ((1 : Int32), τ') → V g x (lw_Z (Cx.below x) #[Value.ref b] (Cx.s x)) 4 τ [(0, .ref b), (1, .ref (g.1 0)), (2, .ref (g.1 26)), (3, .int x3)] [] 18) : ∀ (x3 : Int32) (σ σ' : St), f_L_law_682 xs L k18 x3 σ = some ((1 : Int32), σ') → V g x (lw_Z (Cx.below x) #[Value.ref b] (Cx.s x)) 4 σ [(0, .ref b), (1, .ref (g.1 0)), (2, .ref (g.1 26)), (3, .int x3)] [] 682 := by
  intro x3 σ σ' h
  unfold f_L_law_682 at h
  refine v_aload_n C dL_law_682 rfl 1 rfl ?_
  refine v_aload_n C dL_law_683 rfl 0 rfl ?_
  refine v_iload_n C dL_law_684 rfl 3 rfl ?_
  refine v_iconst C (v := (1 : Int32)) dL_law_685 (by decide) ?_
  refine v_iadd C dL_law_686 ?_
  obtain ⟨nv1, v1, ev1, h⟩ := rdS_ex h
  refine x_sld C S nv1 ev1 dL_law_687 ?_
  obtain ⟨v2, σ3, cσ3, h⟩ := bd_some h
  refine callVi C (c_X5_layDearest cσ3) km_X5_layDearest kv_X5_layDearest rfl ml_RL_85 rfl rfl (by decide) (Nat.le_of_ble_eq_true rfl) dL_law_688 ?_
  refine v_aload_n C dL_law_691 rfl 2 rfl ?_
  refine v_aload_n C dL_law_692 rfl 0 rfl ?_
  refine v_iload_n C dL_law_693 rfl 3 rfl ?_
  refine v_iconst C (v := (1 : Int32)) dL_law_694 (by decide) ?_
  refine v_iadd C dL_law_695 ?_
  obtain ⟨nv4, v4, ev4, h⟩ := rdS_ex h
  refine x_sld C S nv4 ev4 dL_law_696 ?_
  obtain ⟨v5, σ6, cσ6, h⟩ := bd_some h
  refine callVi C (c_X6_layDearest cσ6) km_X6_layDearest kv_X6_layDearest rfl ml_RL_88 rfl rfl (by decide) (Nat.le_of_ble_eq_true rfl) dL_law_697 ?_
  refine v_icmp_eq C (tgt := 1176) dL_law_700 (by decide) (fun q7 => ?_) (fun q7 => ?_)
  · rw [if_pos q7] at h
    refine V.sub (lv' := [(0, .ref _), (1, .ref _), (2, .ref _), (3, .int _)]) [0, 1, 2, 3] rfl ?_
    exact b_L_law_1176 C S _ hk18 _ _ _ h
  · rw [if_neg q7] at h
    refine v_iconst C (v := (0 : Int32)) dL_law_703 (by decide) ?_
    exact absurd (Prod.mk.inj (Option.some.inj h)).1 (by decide)
def f_L_law_619 (xs : Nat → Int32) (L : Nat) (k18 : Int32 → St → Option (Int32 × St)) (x3 : Int32) (σ : St) : Option (Int32 × St) :=
  rdS xs L (x3 + (1 : Int32)) fun v1 =>
  rdS xs L (x3 + (2 : Int32)) fun v2 =>
  rdS xs L (x3 + (3 : Int32)) fun v3 =>
  bd (f_X5_lay v1 ((lshl ((v2).toInt64) (32 : Int32)) ||| (((v3).toInt64) &&& (4294967295 : Int64))) σ) fun v4 σ5 =>
  rdS xs L (x3 + (1 : Int32)) fun v6 =>
  rdS xs L (x3 + (2 : Int32)) fun v7 =>
  rdS xs L (x3 + (3 : Int32)) fun v8 =>
  bd (f_X6_lay v6 ((lshl ((v7).toInt64) (32 : Int32)) ||| (((v8).toInt64) &&& (4294967295 : Int64))) σ5) fun v9 σ10 =>
  if v4 = v9 then
    f_L_law_1176 xs L k18 x3 σ10
  else
    some ((0 : Int32), σ10)
set_option maxRecDepth 100000 in
set_option maxHeartbeats 4000000 in
theorem b_L_law_619 {g : Geo} {x : Cx} {b L : Nat} {xs : Nat → Int32} (C : Ok g x cL_law RL 4 ret room_1) (S : Sc g x b L xs) (k18 : Int32 → St → Option (Int32 × St)) (hk18 : ∀ (x3 : Int32) (τ τ' : St), k18 x3 τ = some ((1 : Int32), τ') → V g x (lw_Z (Cx.below x) #[Value.ref b] (Cx.s x)) 4 τ [(0, .ref b), (1, .ref (g.1 0)), (2, .ref (g.1 26)), (3, .int x3)] [] 18) : ∀ (x3 : Int32) (σ σ' : St), f_L_law_619 xs L k18 x3 σ = some ((1 : Int32), σ') → V g x (lw_Z (Cx.below x) #[Value.ref b] (Cx.s x)) 4 σ [(0, .ref b), (1, .ref (g.1 0)), (2, .ref (g.1 26)), (3, .int x3)] [] 619 := by
  intro x3 σ σ' h
  unfold f_L_law_619 at h
  refine v_aload_n C dL_law_619 rfl 1 rfl ?_
  refine v_aload_n C dL_law_620 rfl 0 rfl ?_
  refine v_iload_n C dL_law_621 rfl 3 rfl ?_
  refine v_iconst C (v := (1 : Int32)) dL_law_622 (by decide) ?_
  refine v_iadd C dL_law_623 ?_
  obtain ⟨nv1, v1, ev1, h⟩ := rdS_ex h
  refine x_sld C S nv1 ev1 dL_law_624 ?_
  refine v_aload_n C dL_law_625 rfl 0 rfl ?_
  refine v_iload_n C dL_law_626 rfl 3 rfl ?_
  refine v_iconst C (v := (2 : Int32)) dL_law_627 (by decide) ?_
  refine v_iadd C dL_law_628 ?_
  obtain ⟨nv2, v2, ev2, h⟩ := rdS_ex h
  refine x_sld C S nv2 ev2 dL_law_629 ?_
  refine v_i2l C dL_law_630 ?_
  refine v_bipush C (v := (32 : Int32)) dL_law_631 (by decide) ?_
  refine v_lshl C dL_law_633 ?_
  refine v_aload_n C dL_law_634 rfl 0 rfl ?_
  refine v_iload_n C dL_law_635 rfl 3 rfl ?_
  refine v_iconst C (v := (3 : Int32)) dL_law_636 (by decide) ?_
  refine v_iadd C dL_law_637 ?_
  obtain ⟨nv3, v3, ev3, h⟩ := rdS_ex h
  refine x_sld C S nv3 ev3 dL_law_638 ?_
  refine v_i2l C dL_law_639 ?_
  refine v_ldc2_w C (v := (4294967295 : Int64)) conl_RL_78 dL_law_640 ?_
  refine v_land C dL_law_643 ?_
  refine v_lor C dL_law_644 ?_
  obtain ⟨v4, σ5, cσ5, h⟩ := bd_some h
  refine callVi C (c_X5_lay cσ5) km_X5_lay kv_X5_lay rfl ml_RL_80 rfl rfl (by decide) (Nat.le_of_ble_eq_true rfl) dL_law_645 ?_
  refine v_aload_n C dL_law_648 rfl 2 rfl ?_
  refine v_aload_n C dL_law_649 rfl 0 rfl ?_
  refine v_iload_n C dL_law_650 rfl 3 rfl ?_
  refine v_iconst C (v := (1 : Int32)) dL_law_651 (by decide) ?_
  refine v_iadd C dL_law_652 ?_
  obtain ⟨nv6, v6, ev6, h⟩ := rdS_ex h
  refine x_sld C S nv6 ev6 dL_law_653 ?_
  refine v_aload_n C dL_law_654 rfl 0 rfl ?_
  refine v_iload_n C dL_law_655 rfl 3 rfl ?_
  refine v_iconst C (v := (2 : Int32)) dL_law_656 (by decide) ?_
  refine v_iadd C dL_law_657 ?_
  obtain ⟨nv7, v7, ev7, h⟩ := rdS_ex h
  refine x_sld C S nv7 ev7 dL_law_658 ?_
  refine v_i2l C dL_law_659 ?_
  refine v_bipush C (v := (32 : Int32)) dL_law_660 (by decide) ?_
  refine v_lshl C dL_law_662 ?_
  refine v_aload_n C dL_law_663 rfl 0 rfl ?_
  refine v_iload_n C dL_law_664 rfl 3 rfl ?_
  refine v_iconst C (v := (3 : Int32)) dL_law_665 (by decide) ?_
  refine v_iadd C dL_law_666 ?_
  obtain ⟨nv8, v8, ev8, h⟩ := rdS_ex h
  refine x_sld C S nv8 ev8 dL_law_667 ?_
  refine v_i2l C dL_law_668 ?_
  refine v_ldc2_w C (v := (4294967295 : Int64)) conl_RL_78 dL_law_669 ?_
  refine v_land C dL_law_672 ?_
  refine v_lor C dL_law_673 ?_
  obtain ⟨v9, σ10, cσ10, h⟩ := bd_some h
  refine callVi C (c_X6_lay cσ10) km_X6_lay kv_X6_lay rfl ml_RL_84 rfl rfl (by decide) (Nat.le_of_ble_eq_true rfl) dL_law_674 ?_
  refine v_icmp_eq C (tgt := 1176) dL_law_677 (by decide) (fun q11 => ?_) (fun q11 => ?_)
  · rw [if_pos q11] at h
    refine V.sub (lv' := [(0, .ref _), (1, .ref _), (2, .ref _), (3, .int _)]) [0, 1, 2, 3] rfl ?_
    exact b_L_law_1176 C S _ hk18 _ _ _ h
  · rw [if_neg q11] at h
    refine v_iconst C (v := (0 : Int32)) dL_law_680 (by decide) ?_
    exact absurd (Prod.mk.inj (Option.some.inj h)).1 (by decide)
def f_L_law_606 (xs : Nat → Int32) (L : Nat) (k18 : Int32 → St → Option (Int32 × St)) (x3 : Int32) (σ : St) : Option (Int32 × St) :=
  bd (f_X5_dearest σ) fun v1 σ2 =>
  bd (f_X6_dearest σ2) fun v3 σ4 =>
  if v1 = v3 then
    f_L_law_1176 xs L k18 x3 σ4
  else
    some ((0 : Int32), σ4)
set_option maxRecDepth 100000 in
set_option maxHeartbeats 4000000 in
theorem b_L_law_606 {g : Geo} {x : Cx} {b L : Nat} {xs : Nat → Int32} (C : Ok g x cL_law RL 4 ret room_1) (S : Sc g x b L xs) (k18 : Int32 → St → Option (Int32 × St)) (hk18 : ∀ (x3 : Int32) (τ τ' : St), k18 x3 τ = some ((1 : Int32), τ') → V g x (lw_Z (Cx.below x) #[Value.ref b] (Cx.s x)) 4 τ [(0, .ref b), (1, .ref (g.1 0)), (2, .ref (g.1 26)), (3, .int x3)] [] 18) : ∀ (x3 : Int32) (σ σ' : St), f_L_law_606 xs L k18 x3 σ = some ((1 : Int32), σ') → V g x (lw_Z (Cx.below x) #[Value.ref b] (Cx.s x)) 4 σ [(0, .ref b), (1, .ref (g.1 0)), (2, .ref (g.1 26)), (3, .int x3)] [] 606 := by
  intro x3 σ σ' h
  unfold f_L_law_606 at h
  refine v_aload_n C dL_law_606 rfl 1 rfl ?_
  obtain ⟨v1, σ2, cσ2, h⟩ := bd_some h
  refine callVi C (c_X5_dearest cσ2) km_X5_dearest kv_X5_dearest rfl ml_RL_74 rfl rfl (by decide) (Nat.le_of_ble_eq_true rfl) dL_law_607 ?_
  refine v_aload_n C dL_law_610 rfl 2 rfl ?_
  obtain ⟨v3, σ4, cσ4, h⟩ := bd_some h
  refine callVi C (c_X6_dearest cσ4) km_X6_dearest kv_X6_dearest rfl ml_RL_77 rfl rfl (by decide) (Nat.le_of_ble_eq_true rfl) dL_law_611 ?_
  refine v_icmp_eq C (tgt := 1176) dL_law_614 (by decide) (fun q5 => ?_) (fun q5 => ?_)
  · rw [if_pos q5] at h
    refine V.sub (lv' := [(0, .ref _), (1, .ref _), (2, .ref _), (3, .int _)]) [0, 1, 2, 3] rfl ?_
    exact b_L_law_1176 C S _ hk18 _ _ _ h
  · rw [if_neg q5] at h
    refine v_iconst C (v := (0 : Int32)) dL_law_617 (by decide) ?_
    exact absurd (Prod.mk.inj (Option.some.inj h)).1 (by decide)
def f_L_law_563 (xs : Nat → Int32) (L : Nat) (k18 : Int32 → St → Option (Int32 × St)) (x3 : Int32) (σ : St) : Option (Int32 × St) :=
  rdS xs L (x3 + (1 : Int32)) fun v1 =>
  rdS xs L (x3 + (2 : Int32)) fun v2 =>
  rdS xs L (x3 + (3 : Int32)) fun v3 =>
  bd (f_X5_weight v1 v2 v3 σ) fun v4 σ5 =>
  rdS xs L (x3 + (1 : Int32)) fun v6 =>
  rdS xs L (x3 + (2 : Int32)) fun v7 =>
  rdS xs L (x3 + (3 : Int32)) fun v8 =>
  bd (f_X6_weight v6 v7 v8 σ5) fun v9 σ10 =>
  if v4 = v9 then
    f_L_law_1176 xs L k18 x3 σ10
  else
    some ((0 : Int32), σ10)
set_option maxRecDepth 100000 in
set_option maxHeartbeats 4000000 in
theorem b_L_law_563 {g : Geo} {x : Cx} {b L : Nat} {xs : Nat → Int32} (C : Ok g x cL_law RL 4 ret room_1) (S : Sc g x b L xs) (k18 : Int32 → St → Option (Int32 × St)) (hk18 : ∀ (x3 : Int32) (τ τ' : St), k18 x3 τ = some ((1 : Int32), τ') → V g x (lw_Z (Cx.below x) #[Value.ref b] (Cx.s x)) 4 τ [(0, .ref b), (1, .ref (g.1 0)), (2, .ref (g.1 26)), (3, .int x3)] [] 18) : ∀ (x3 : Int32) (σ σ' : St), f_L_law_563 xs L k18 x3 σ = some ((1 : Int32), σ') → V g x (lw_Z (Cx.below x) #[Value.ref b] (Cx.s x)) 4 σ [(0, .ref b), (1, .ref (g.1 0)), (2, .ref (g.1 26)), (3, .int x3)] [] 563 := by
  intro x3 σ σ' h
  unfold f_L_law_563 at h
  refine v_aload_n C dL_law_563 rfl 1 rfl ?_
  refine v_aload_n C dL_law_564 rfl 0 rfl ?_
  refine v_iload_n C dL_law_565 rfl 3 rfl ?_
  refine v_iconst C (v := (1 : Int32)) dL_law_566 (by decide) ?_
  refine v_iadd C dL_law_567 ?_
  obtain ⟨nv1, v1, ev1, h⟩ := rdS_ex h
  refine x_sld C S nv1 ev1 dL_law_568 ?_
  refine v_aload_n C dL_law_569 rfl 0 rfl ?_
  refine v_iload_n C dL_law_570 rfl 3 rfl ?_
  refine v_iconst C (v := (2 : Int32)) dL_law_571 (by decide) ?_
  refine v_iadd C dL_law_572 ?_
  obtain ⟨nv2, v2, ev2, h⟩ := rdS_ex h
  refine x_sld C S nv2 ev2 dL_law_573 ?_
  refine v_aload_n C dL_law_574 rfl 0 rfl ?_
  refine v_iload_n C dL_law_575 rfl 3 rfl ?_
  refine v_iconst C (v := (3 : Int32)) dL_law_576 (by decide) ?_
  refine v_iadd C dL_law_577 ?_
  obtain ⟨nv3, v3, ev3, h⟩ := rdS_ex h
  refine x_sld C S nv3 ev3 dL_law_578 ?_
  obtain ⟨v4, σ5, cσ5, h⟩ := bd_some h
  refine callVi C (c_X5_weight cσ5) km_X5_weight kv_X5_weight rfl ml_RL_70 rfl rfl (by decide) (Nat.le_of_ble_eq_true rfl) dL_law_579 ?_
  refine v_aload_n C dL_law_582 rfl 2 rfl ?_
  refine v_aload_n C dL_law_583 rfl 0 rfl ?_
  refine v_iload_n C dL_law_584 rfl 3 rfl ?_
  refine v_iconst C (v := (1 : Int32)) dL_law_585 (by decide) ?_
  refine v_iadd C dL_law_586 ?_
  obtain ⟨nv6, v6, ev6, h⟩ := rdS_ex h
  refine x_sld C S nv6 ev6 dL_law_587 ?_
  refine v_aload_n C dL_law_588 rfl 0 rfl ?_
  refine v_iload_n C dL_law_589 rfl 3 rfl ?_
  refine v_iconst C (v := (2 : Int32)) dL_law_590 (by decide) ?_
  refine v_iadd C dL_law_591 ?_
  obtain ⟨nv7, v7, ev7, h⟩ := rdS_ex h
  refine x_sld C S nv7 ev7 dL_law_592 ?_
  refine v_aload_n C dL_law_593 rfl 0 rfl ?_
  refine v_iload_n C dL_law_594 rfl 3 rfl ?_
  refine v_iconst C (v := (3 : Int32)) dL_law_595 (by decide) ?_
  refine v_iadd C dL_law_596 ?_
  obtain ⟨nv8, v8, ev8, h⟩ := rdS_ex h
  refine x_sld C S nv8 ev8 dL_law_597 ?_
  obtain ⟨v9, σ10, cσ10, h⟩ := bd_some h
  refine callVi C (c_X6_weight cσ10) km_X6_weight kv_X6_weight rfl ml_RL_73 rfl rfl (by decide) (Nat.le_of_ble_eq_true rfl) dL_law_598 ?_
  refine v_icmp_eq C (tgt := 1176) dL_law_601 (by decide) (fun q11 => ?_) (fun q11 => ?_)
  · rw [if_pos q11] at h
    refine V.sub (lv' := [(0, .ref _), (1, .ref _), (2, .ref _), (3, .int _)]) [0, 1, 2, 3] rfl ?_
    exact b_L_law_1176 C S _ hk18 _ _ _ h
  · rw [if_neg q11] at h
    refine v_iconst C (v := (0 : Int32)) dL_law_604 (by decide) ?_
    exact absurd (Prod.mk.inj (Option.some.inj h)).1 (by decide)
def f_L_law_555 (xs : Nat → Int32) (L : Nat) (k18 : Int32 → St → Option (Int32 × St)) (x3 : Int32) (s0 : Int32) (s2 : Int32) (s3 : Int32) (σ : St) : Option (Int32 × St) :=
  bd (f_X6_span s2 s3 σ) fun v1 σ2 =>
  if s0 = v1 then
    f_L_law_1176 xs L k18 x3 σ2
  else
    some ((0 : Int32), σ2)
set_option maxRecDepth 100000 in
set_option maxHeartbeats 4000000 in
theorem b_L_law_555 {g : Geo} {x : Cx} {b L : Nat} {xs : Nat → Int32} (C : Ok g x cL_law RL 4 ret room_1) (S : Sc g x b L xs) (k18 : Int32 → St → Option (Int32 × St)) (hk18 : ∀ (x3 : Int32) (τ τ' : St), k18 x3 τ = some ((1 : Int32), τ') → V g x (lw_Z (Cx.below x) #[Value.ref b] (Cx.s x)) 4 τ [(0, .ref b), (1, .ref (g.1 0)), (2, .ref (g.1 26)), (3, .int x3)] [] 18) : ∀ (x3 : Int32) (s0 : Int32) (s2 : Int32) (s3 : Int32) (σ σ' : St), f_L_law_555 xs L k18 x3 s0 s2 s3 σ = some ((1 : Int32), σ') → V g x (lw_Z (Cx.below x) #[Value.ref b] (Cx.s x)) 4 σ [(0, .ref b), (1, .ref (g.1 0)), (2, .ref (g.1 26)), (3, .int x3)] [.int s3, .int s2, .ref (g.1 26), .int s0] 555 := by
  intro x3 s0 s2 s3 σ σ' h
  unfold f_L_law_555 at h
  obtain ⟨v1, σ2, cσ2, h⟩ := bd_some h
  refine callVi C (c_X6_span cσ2) km_X6_span kv_X6_span rfl ml_RL_69 rfl rfl (by decide) (Nat.le_of_ble_eq_true rfl) dL_law_555 ?_
  refine v_icmp_eq C (tgt := 1176) dL_law_558 (by decide) (fun q3 => ?_) (fun q3 => ?_)
  · rw [if_pos q3] at h
    refine V.sub (lv' := [(0, .ref _), (1, .ref _), (2, .ref _), (3, .int _)]) [0, 1, 2, 3] rfl ?_
    exact b_L_law_1176 C S _ hk18 _ _ _ h
  · rw [if_neg q3] at h
    refine v_iconst C (v := (0 : Int32)) dL_law_561 (by decide) ?_
    exact absurd (Prod.mk.inj (Option.some.inj h)).1 (by decide)
def f_L_law_533 (xs : Nat → Int32) (L : Nat) (k18 : Int32 → St → Option (Int32 × St)) (x3 : Int32) (s1 : Int32) (s2 : Int32) (σ : St) : Option (Int32 × St) :=
  bd (f_X5_span s1 s2 σ) fun v1 σ2 =>
  rdS xs L (x3 + (1 : Int32)) fun v3 =>
  rdS xs L (x3 + (2 : Int32)) fun v4 =>
  if v4 = 0 then
    f_L_law_555 xs L k18 x3 v1 v3 (0 : Int32) σ2
  else
    f_L_law_555 xs L k18 x3 v1 v3 (1 : Int32) σ2
set_option maxRecDepth 100000 in
set_option maxHeartbeats 4000000 in
theorem b_L_law_533 {g : Geo} {x : Cx} {b L : Nat} {xs : Nat → Int32} (C : Ok g x cL_law RL 4 ret room_1) (S : Sc g x b L xs) (k18 : Int32 → St → Option (Int32 × St)) (hk18 : ∀ (x3 : Int32) (τ τ' : St), k18 x3 τ = some ((1 : Int32), τ') → V g x (lw_Z (Cx.below x) #[Value.ref b] (Cx.s x)) 4 τ [(0, .ref b), (1, .ref (g.1 0)), (2, .ref (g.1 26)), (3, .int x3)] [] 18) : ∀ (x3 : Int32) (s1 : Int32) (s2 : Int32) (σ σ' : St), f_L_law_533 xs L k18 x3 s1 s2 σ = some ((1 : Int32), σ') → V g x (lw_Z (Cx.below x) #[Value.ref b] (Cx.s x)) 4 σ [(0, .ref b), (1, .ref (g.1 0)), (2, .ref (g.1 26)), (3, .int x3)] [.int s2, .int s1, .ref (g.1 0)] 533 := by
  intro x3 s1 s2 σ σ' h
  unfold f_L_law_533 at h
  obtain ⟨v1, σ2, cσ2, h⟩ := bd_some h
  refine callVi C (c_X5_span cσ2) km_X5_span kv_X5_span rfl ml_RL_66 rfl rfl (by decide) (Nat.le_of_ble_eq_true rfl) dL_law_533 ?_
  refine v_aload_n C dL_law_536 rfl 2 rfl ?_
  refine v_aload_n C dL_law_537 rfl 0 rfl ?_
  refine v_iload_n C dL_law_538 rfl 3 rfl ?_
  refine v_iconst C (v := (1 : Int32)) dL_law_539 (by decide) ?_
  refine v_iadd C dL_law_540 ?_
  obtain ⟨nv3, v3, ev3, h⟩ := rdS_ex h
  refine x_sld C S nv3 ev3 dL_law_541 ?_
  refine v_aload_n C dL_law_542 rfl 0 rfl ?_
  refine v_iload_n C dL_law_543 rfl 3 rfl ?_
  refine v_iconst C (v := (2 : Int32)) dL_law_544 (by decide) ?_
  refine v_iadd C dL_law_545 ?_
  obtain ⟨nv4, v4, ev4, h⟩ := rdS_ex h
  refine x_sld C S nv4 ev4 dL_law_546 ?_
  refine v_if_eq C (tgt := 554) dL_law_547 (by decide) (fun q5 => ?_) (fun q5 => ?_)
  · rw [if_pos q5] at h
    refine v_iconst C (v := (0 : Int32)) dL_law_554 (by decide) ?_
    refine V.sub (lv' := [(0, .ref _), (1, .ref _), (2, .ref _), (3, .int _)]) [0, 1, 2, 3] rfl ?_
    exact b_L_law_555 C S _ hk18 _ _ _ _ _ _ h
  · rw [if_neg q5] at h
    refine v_iconst C (v := (1 : Int32)) dL_law_550 (by decide) ?_
    refine v_goto C (tgt := 555) dL_law_551 (by decide) ?_
    refine V.sub (lv' := [(0, .ref _), (1, .ref _), (2, .ref _), (3, .int _)]) [0, 1, 2, 3] rfl ?_
    exact b_L_law_555 C S _ hk18 _ _ _ _ _ _ h
def f_L_law_514 (xs : Nat → Int32) (L : Nat) (k18 : Int32 → St → Option (Int32 × St)) (x3 : Int32) (σ : St) : Option (Int32 × St) :=
  rdS xs L (x3 + (1 : Int32)) fun v1 =>
  rdS xs L (x3 + (2 : Int32)) fun v2 =>
  if v2 = 0 then
    f_L_law_533 xs L k18 x3 v1 (0 : Int32) σ
  else
    f_L_law_533 xs L k18 x3 v1 (1 : Int32) σ
set_option maxRecDepth 100000 in
set_option maxHeartbeats 4000000 in
theorem b_L_law_514 {g : Geo} {x : Cx} {b L : Nat} {xs : Nat → Int32} (C : Ok g x cL_law RL 4 ret room_1) (S : Sc g x b L xs) (k18 : Int32 → St → Option (Int32 × St)) (hk18 : ∀ (x3 : Int32) (τ τ' : St), k18 x3 τ = some ((1 : Int32), τ') → V g x (lw_Z (Cx.below x) #[Value.ref b] (Cx.s x)) 4 τ [(0, .ref b), (1, .ref (g.1 0)), (2, .ref (g.1 26)), (3, .int x3)] [] 18) : ∀ (x3 : Int32) (σ σ' : St), f_L_law_514 xs L k18 x3 σ = some ((1 : Int32), σ') → V g x (lw_Z (Cx.below x) #[Value.ref b] (Cx.s x)) 4 σ [(0, .ref b), (1, .ref (g.1 0)), (2, .ref (g.1 26)), (3, .int x3)] [] 514 := by
  intro x3 σ σ' h
  unfold f_L_law_514 at h
  refine v_aload_n C dL_law_514 rfl 1 rfl ?_
  refine v_aload_n C dL_law_515 rfl 0 rfl ?_
  refine v_iload_n C dL_law_516 rfl 3 rfl ?_
  refine v_iconst C (v := (1 : Int32)) dL_law_517 (by decide) ?_
  refine v_iadd C dL_law_518 ?_
  obtain ⟨nv1, v1, ev1, h⟩ := rdS_ex h
  refine x_sld C S nv1 ev1 dL_law_519 ?_
  refine v_aload_n C dL_law_520 rfl 0 rfl ?_
  refine v_iload_n C dL_law_521 rfl 3 rfl ?_
  refine v_iconst C (v := (2 : Int32)) dL_law_522 (by decide) ?_
  refine v_iadd C dL_law_523 ?_
  obtain ⟨nv2, v2, ev2, h⟩ := rdS_ex h
  refine x_sld C S nv2 ev2 dL_law_524 ?_
  refine v_if_eq C (tgt := 532) dL_law_525 (by decide) (fun q3 => ?_) (fun q3 => ?_)
  · rw [if_pos q3] at h
    refine v_iconst C (v := (0 : Int32)) dL_law_532 (by decide) ?_
    refine V.sub (lv' := [(0, .ref _), (1, .ref _), (2, .ref _), (3, .int _)]) [0, 1, 2, 3] rfl ?_
    exact b_L_law_533 C S _ hk18 _ _ _ _ _ h
  · rw [if_neg q3] at h
    refine v_iconst C (v := (1 : Int32)) dL_law_528 (by decide) ?_
    refine v_goto C (tgt := 533) dL_law_529 (by decide) ?_
    refine V.sub (lv' := [(0, .ref _), (1, .ref _), (2, .ref _), (3, .int _)]) [0, 1, 2, 3] rfl ?_
    exact b_L_law_533 C S _ hk18 _ _ _ _ _ h
def f_L_law_501 (xs : Nat → Int32) (L : Nat) (k18 : Int32 → St → Option (Int32 × St)) (x3 : Int32) (σ : St) : Option (Int32 × St) :=
  bd (f_X5_forced σ) fun v1 σ2 =>
  bd (f_X6_forced σ2) fun v3 σ4 =>
  if v1 = v3 then
    f_L_law_1176 xs L k18 x3 σ4
  else
    some ((0 : Int32), σ4)
set_option maxRecDepth 100000 in
set_option maxHeartbeats 4000000 in
theorem b_L_law_501 {g : Geo} {x : Cx} {b L : Nat} {xs : Nat → Int32} (C : Ok g x cL_law RL 4 ret room_1) (S : Sc g x b L xs) (k18 : Int32 → St → Option (Int32 × St)) (hk18 : ∀ (x3 : Int32) (τ τ' : St), k18 x3 τ = some ((1 : Int32), τ') → V g x (lw_Z (Cx.below x) #[Value.ref b] (Cx.s x)) 4 τ [(0, .ref b), (1, .ref (g.1 0)), (2, .ref (g.1 26)), (3, .int x3)] [] 18) : ∀ (x3 : Int32) (σ σ' : St), f_L_law_501 xs L k18 x3 σ = some ((1 : Int32), σ') → V g x (lw_Z (Cx.below x) #[Value.ref b] (Cx.s x)) 4 σ [(0, .ref b), (1, .ref (g.1 0)), (2, .ref (g.1 26)), (3, .int x3)] [] 501 := by
  intro x3 σ σ' h
  unfold f_L_law_501 at h
  refine v_aload_n C dL_law_501 rfl 1 rfl ?_
  obtain ⟨v1, σ2, cσ2, h⟩ := bd_some h
  refine callVi C (c_X5_forced cσ2) km_X5_forced kv_X5_forced rfl ml_RL_61 rfl rfl (by decide) (Nat.le_of_ble_eq_true rfl) dL_law_502 ?_
  refine v_aload_n C dL_law_505 rfl 2 rfl ?_
  obtain ⟨v3, σ4, cσ4, h⟩ := bd_some h
  refine callVi C (c_X6_forced cσ4) km_X6_forced kv_X6_forced rfl ml_RL_65 rfl rfl (by decide) (Nat.le_of_ble_eq_true rfl) dL_law_506 ?_
  refine v_icmp_eq C (tgt := 1176) dL_law_509 (by decide) (fun q5 => ?_) (fun q5 => ?_)
  · rw [if_pos q5] at h
    refine V.sub (lv' := [(0, .ref _), (1, .ref _), (2, .ref _), (3, .int _)]) [0, 1, 2, 3] rfl ?_
    exact b_L_law_1176 C S _ hk18 _ _ _ h
  · rw [if_neg q5] at h
    refine v_iconst C (v := (0 : Int32)) dL_law_512 (by decide) ?_
    exact absurd (Prod.mk.inj (Option.some.inj h)).1 (by decide)
def f_L_law_478 (xs : Nat → Int32) (L : Nat) (k18 : Int32 → St → Option (Int32 × St)) (x3 : Int32) (σ : St) : Option (Int32 × St) :=
  rdS xs L (x3 + (1 : Int32)) fun v1 =>
  bd (f_X5_kinds v1 σ) fun v2 σ3 =>
  rdS xs L (x3 + (1 : Int32)) fun v4 =>
  bd (f_X6_kinds v4 σ3) fun v5 σ6 =>
  if v2 = v5 then
    f_L_law_1176 xs L k18 x3 σ6
  else
    some ((0 : Int32), σ6)
set_option maxRecDepth 100000 in
set_option maxHeartbeats 4000000 in
theorem b_L_law_478 {g : Geo} {x : Cx} {b L : Nat} {xs : Nat → Int32} (C : Ok g x cL_law RL 4 ret room_1) (S : Sc g x b L xs) (k18 : Int32 → St → Option (Int32 × St)) (hk18 : ∀ (x3 : Int32) (τ τ' : St), k18 x3 τ = some ((1 : Int32), τ') → V g x (lw_Z (Cx.below x) #[Value.ref b] (Cx.s x)) 4 τ [(0, .ref b), (1, .ref (g.1 0)), (2, .ref (g.1 26)), (3, .int x3)] [] 18) : ∀ (x3 : Int32) (σ σ' : St), f_L_law_478 xs L k18 x3 σ = some ((1 : Int32), σ') → V g x (lw_Z (Cx.below x) #[Value.ref b] (Cx.s x)) 4 σ [(0, .ref b), (1, .ref (g.1 0)), (2, .ref (g.1 26)), (3, .int x3)] [] 478 := by
  intro x3 σ σ' h
  unfold f_L_law_478 at h
  refine v_aload_n C dL_law_478 rfl 1 rfl ?_
  refine v_aload_n C dL_law_479 rfl 0 rfl ?_
  refine v_iload_n C dL_law_480 rfl 3 rfl ?_
  refine v_iconst C (v := (1 : Int32)) dL_law_481 (by decide) ?_
  refine v_iadd C dL_law_482 ?_
  obtain ⟨nv1, v1, ev1, h⟩ := rdS_ex h
  refine x_sld C S nv1 ev1 dL_law_483 ?_
  obtain ⟨v2, σ3, cσ3, h⟩ := bd_some h
  refine callVi C (c_X5_kinds cσ3) km_X5_kinds kv_X5_kinds rfl ml_RL_57 rfl rfl (by decide) (Nat.le_of_ble_eq_true rfl) dL_law_484 ?_
  refine v_aload_n C dL_law_487 rfl 2 rfl ?_
  refine v_aload_n C dL_law_488 rfl 0 rfl ?_
  refine v_iload_n C dL_law_489 rfl 3 rfl ?_
  refine v_iconst C (v := (1 : Int32)) dL_law_490 (by decide) ?_
  refine v_iadd C dL_law_491 ?_
  obtain ⟨nv4, v4, ev4, h⟩ := rdS_ex h
  refine x_sld C S nv4 ev4 dL_law_492 ?_
  obtain ⟨v5, σ6, cσ6, h⟩ := bd_some h
  refine callVi C (c_X6_kinds cσ6) km_X6_kinds kv_X6_kinds rfl ml_RL_60 rfl rfl (by decide) (Nat.le_of_ble_eq_true rfl) dL_law_493 ?_
  refine v_icmp_eq C (tgt := 1176) dL_law_496 (by decide) (fun q7 => ?_) (fun q7 => ?_)
  · rw [if_pos q7] at h
    refine V.sub (lv' := [(0, .ref _), (1, .ref _), (2, .ref _), (3, .int _)]) [0, 1, 2, 3] rfl ?_
    exact b_L_law_1176 C S _ hk18 _ _ _ h
  · rw [if_neg q7] at h
    refine v_iconst C (v := (0 : Int32)) dL_law_499 (by decide) ?_
    exact absurd (Prod.mk.inj (Option.some.inj h)).1 (by decide)
def f_L_law_444 (xs : Nat → Int32) (L : Nat) (k18 : Int32 → St → Option (Int32 × St)) (x3 : Int32) (σ : St) : Option (Int32 × St) :=
  rdS xs L (x3 + (1 : Int32)) fun v1 =>
  rdS xs L (x3 + (2 : Int32)) fun v2 =>
  bd (f_X5_with v1 v2 σ) fun v3 σ4 =>
  rdS xs L (x3 + (1 : Int32)) fun v5 =>
  rdS xs L (x3 + (2 : Int32)) fun v6 =>
  bd (f_X6_with v5 v6 σ4) fun v7 σ8 =>
  if v3 = v7 then
    f_L_law_1176 xs L k18 x3 σ8
  else
    some ((0 : Int32), σ8)
set_option maxRecDepth 100000 in
set_option maxHeartbeats 4000000 in
theorem b_L_law_444 {g : Geo} {x : Cx} {b L : Nat} {xs : Nat → Int32} (C : Ok g x cL_law RL 4 ret room_1) (S : Sc g x b L xs) (k18 : Int32 → St → Option (Int32 × St)) (hk18 : ∀ (x3 : Int32) (τ τ' : St), k18 x3 τ = some ((1 : Int32), τ') → V g x (lw_Z (Cx.below x) #[Value.ref b] (Cx.s x)) 4 τ [(0, .ref b), (1, .ref (g.1 0)), (2, .ref (g.1 26)), (3, .int x3)] [] 18) : ∀ (x3 : Int32) (σ σ' : St), f_L_law_444 xs L k18 x3 σ = some ((1 : Int32), σ') → V g x (lw_Z (Cx.below x) #[Value.ref b] (Cx.s x)) 4 σ [(0, .ref b), (1, .ref (g.1 0)), (2, .ref (g.1 26)), (3, .int x3)] [] 444 := by
  intro x3 σ σ' h
  unfold f_L_law_444 at h
  refine v_aload_n C dL_law_444 rfl 1 rfl ?_
  refine v_aload_n C dL_law_445 rfl 0 rfl ?_
  refine v_iload_n C dL_law_446 rfl 3 rfl ?_
  refine v_iconst C (v := (1 : Int32)) dL_law_447 (by decide) ?_
  refine v_iadd C dL_law_448 ?_
  obtain ⟨nv1, v1, ev1, h⟩ := rdS_ex h
  refine x_sld C S nv1 ev1 dL_law_449 ?_
  refine v_aload_n C dL_law_450 rfl 0 rfl ?_
  refine v_iload_n C dL_law_451 rfl 3 rfl ?_
  refine v_iconst C (v := (2 : Int32)) dL_law_452 (by decide) ?_
  refine v_iadd C dL_law_453 ?_
  obtain ⟨nv2, v2, ev2, h⟩ := rdS_ex h
  refine x_sld C S nv2 ev2 dL_law_454 ?_
  obtain ⟨v3, σ4, cσ4, h⟩ := bd_some h
  refine callVl C (c_X5_with cσ4) km_X5_with kv_X5_with rfl ml_RL_52 rfl rfl (by decide) (Nat.le_of_ble_eq_true rfl) dL_law_455 ?_
  refine v_aload_n C dL_law_458 rfl 2 rfl ?_
  refine v_aload_n C dL_law_459 rfl 0 rfl ?_
  refine v_iload_n C dL_law_460 rfl 3 rfl ?_
  refine v_iconst C (v := (1 : Int32)) dL_law_461 (by decide) ?_
  refine v_iadd C dL_law_462 ?_
  obtain ⟨nv5, v5, ev5, h⟩ := rdS_ex h
  refine x_sld C S nv5 ev5 dL_law_463 ?_
  refine v_aload_n C dL_law_464 rfl 0 rfl ?_
  refine v_iload_n C dL_law_465 rfl 3 rfl ?_
  refine v_iconst C (v := (2 : Int32)) dL_law_466 (by decide) ?_
  refine v_iadd C dL_law_467 ?_
  obtain ⟨nv6, v6, ev6, h⟩ := rdS_ex h
  refine x_sld C S nv6 ev6 dL_law_468 ?_
  obtain ⟨v7, σ8, cσ8, h⟩ := bd_some h
  refine callVl C (c_X6_with cσ8) km_X6_with kv_X6_with rfl ml_RL_56 rfl rfl (by decide) (Nat.le_of_ble_eq_true rfl) dL_law_469 ?_
  refine v_lcmp_eq C (tgt := 1176) dL_law_472 dL_law_473 (by decide) (fun q9 => ?_) (fun q9 => ?_)
  · rw [if_pos q9] at h
    refine V.sub (lv' := [(0, .ref _), (1, .ref _), (2, .ref _), (3, .int _)]) [0, 1, 2, 3] rfl ?_
    exact b_L_law_1176 C S _ hk18 _ _ _ h
  · rw [if_neg q9] at h
    refine v_iconst C (v := (0 : Int32)) dL_law_476 (by decide) ?_
    exact absurd (Prod.mk.inj (Option.some.inj h)).1 (by decide)
def f_L_law_430 (xs : Nat → Int32) (L : Nat) (k18 : Int32 → St → Option (Int32 × St)) (x3 : Int32) (σ : St) : Option (Int32 × St) :=
  bd (f_X5_layings σ) fun v1 σ2 =>
  bd (f_X6_layings σ2) fun v3 σ4 =>
  if v1 = v3 then
    f_L_law_1176 xs L k18 x3 σ4
  else
    some ((0 : Int32), σ4)
set_option maxRecDepth 100000 in
set_option maxHeartbeats 4000000 in
theorem b_L_law_430 {g : Geo} {x : Cx} {b L : Nat} {xs : Nat → Int32} (C : Ok g x cL_law RL 4 ret room_1) (S : Sc g x b L xs) (k18 : Int32 → St → Option (Int32 × St)) (hk18 : ∀ (x3 : Int32) (τ τ' : St), k18 x3 τ = some ((1 : Int32), τ') → V g x (lw_Z (Cx.below x) #[Value.ref b] (Cx.s x)) 4 τ [(0, .ref b), (1, .ref (g.1 0)), (2, .ref (g.1 26)), (3, .int x3)] [] 18) : ∀ (x3 : Int32) (σ σ' : St), f_L_law_430 xs L k18 x3 σ = some ((1 : Int32), σ') → V g x (lw_Z (Cx.below x) #[Value.ref b] (Cx.s x)) 4 σ [(0, .ref b), (1, .ref (g.1 0)), (2, .ref (g.1 26)), (3, .int x3)] [] 430 := by
  intro x3 σ σ' h
  unfold f_L_law_430 at h
  refine v_aload_n C dL_law_430 rfl 1 rfl ?_
  obtain ⟨v1, σ2, cσ2, h⟩ := bd_some h
  refine callVl C (c_X5_layings cσ2) km_X5_layings kv_X5_layings rfl ml_RL_47 rfl rfl (by decide) (Nat.le_of_ble_eq_true rfl) dL_law_431 ?_
  refine v_aload_n C dL_law_434 rfl 2 rfl ?_
  obtain ⟨v3, σ4, cσ4, h⟩ := bd_some h
  refine callVl C (c_X6_layings cσ4) km_X6_layings kv_X6_layings rfl ml_RL_51 rfl rfl (by decide) (Nat.le_of_ble_eq_true rfl) dL_law_435 ?_
  refine v_lcmp_eq C (tgt := 1176) dL_law_438 dL_law_439 (by decide) (fun q5 => ?_) (fun q5 => ?_)
  · rw [if_pos q5] at h
    refine V.sub (lv' := [(0, .ref _), (1, .ref _), (2, .ref _), (3, .int _)]) [0, 1, 2, 3] rfl ?_
    exact b_L_law_1176 C S _ hk18 _ _ _ h
  · rw [if_neg q5] at h
    refine v_iconst C (v := (0 : Int32)) dL_law_442 (by decide) ?_
    exact absurd (Prod.mk.inj (Option.some.inj h)).1 (by decide)
def f_L_law_386 (xs : Nat → Int32) (L : Nat) (k18 : Int32 → St → Option (Int32 × St)) (x3 : Int32) (σ : St) : Option (Int32 × St) :=
  rdS xs L (x3 + (1 : Int32)) fun v1 =>
  rdS xs L (x3 + (2 : Int32)) fun v2 =>
  rdS xs L (x3 + (3 : Int32)) fun v3 =>
  bd (f_X5_product v1 v2 v3 σ) fun v4 σ5 =>
  rdS xs L (x3 + (1 : Int32)) fun v6 =>
  rdS xs L (x3 + (2 : Int32)) fun v7 =>
  rdS xs L (x3 + (3 : Int32)) fun v8 =>
  bd (f_X6_product v6 v7 v8 σ5) fun v9 σ10 =>
  if v4 = v9 then
    f_L_law_1176 xs L k18 x3 σ10
  else
    some ((0 : Int32), σ10)
set_option maxRecDepth 100000 in
set_option maxHeartbeats 4000000 in
theorem b_L_law_386 {g : Geo} {x : Cx} {b L : Nat} {xs : Nat → Int32} (C : Ok g x cL_law RL 4 ret room_1) (S : Sc g x b L xs) (k18 : Int32 → St → Option (Int32 × St)) (hk18 : ∀ (x3 : Int32) (τ τ' : St), k18 x3 τ = some ((1 : Int32), τ') → V g x (lw_Z (Cx.below x) #[Value.ref b] (Cx.s x)) 4 τ [(0, .ref b), (1, .ref (g.1 0)), (2, .ref (g.1 26)), (3, .int x3)] [] 18) : ∀ (x3 : Int32) (σ σ' : St), f_L_law_386 xs L k18 x3 σ = some ((1 : Int32), σ') → V g x (lw_Z (Cx.below x) #[Value.ref b] (Cx.s x)) 4 σ [(0, .ref b), (1, .ref (g.1 0)), (2, .ref (g.1 26)), (3, .int x3)] [] 386 := by
  intro x3 σ σ' h
  unfold f_L_law_386 at h
  refine v_aload_n C dL_law_386 rfl 1 rfl ?_
  refine v_aload_n C dL_law_387 rfl 0 rfl ?_
  refine v_iload_n C dL_law_388 rfl 3 rfl ?_
  refine v_iconst C (v := (1 : Int32)) dL_law_389 (by decide) ?_
  refine v_iadd C dL_law_390 ?_
  obtain ⟨nv1, v1, ev1, h⟩ := rdS_ex h
  refine x_sld C S nv1 ev1 dL_law_391 ?_
  refine v_aload_n C dL_law_392 rfl 0 rfl ?_
  refine v_iload_n C dL_law_393 rfl 3 rfl ?_
  refine v_iconst C (v := (2 : Int32)) dL_law_394 (by decide) ?_
  refine v_iadd C dL_law_395 ?_
  obtain ⟨nv2, v2, ev2, h⟩ := rdS_ex h
  refine x_sld C S nv2 ev2 dL_law_396 ?_
  refine v_aload_n C dL_law_397 rfl 0 rfl ?_
  refine v_iload_n C dL_law_398 rfl 3 rfl ?_
  refine v_iconst C (v := (3 : Int32)) dL_law_399 (by decide) ?_
  refine v_iadd C dL_law_400 ?_
  obtain ⟨nv3, v3, ev3, h⟩ := rdS_ex h
  refine x_sld C S nv3 ev3 dL_law_401 ?_
  obtain ⟨v4, σ5, cσ5, h⟩ := bd_some h
  refine callVl C (c_X5_product cσ5) km_X5_product kv_X5_product rfl ml_RL_42 rfl rfl (by decide) (Nat.le_of_ble_eq_true rfl) dL_law_402 ?_
  refine v_aload_n C dL_law_405 rfl 2 rfl ?_
  refine v_aload_n C dL_law_406 rfl 0 rfl ?_
  refine v_iload_n C dL_law_407 rfl 3 rfl ?_
  refine v_iconst C (v := (1 : Int32)) dL_law_408 (by decide) ?_
  refine v_iadd C dL_law_409 ?_
  obtain ⟨nv6, v6, ev6, h⟩ := rdS_ex h
  refine x_sld C S nv6 ev6 dL_law_410 ?_
  refine v_aload_n C dL_law_411 rfl 0 rfl ?_
  refine v_iload_n C dL_law_412 rfl 3 rfl ?_
  refine v_iconst C (v := (2 : Int32)) dL_law_413 (by decide) ?_
  refine v_iadd C dL_law_414 ?_
  obtain ⟨nv7, v7, ev7, h⟩ := rdS_ex h
  refine x_sld C S nv7 ev7 dL_law_415 ?_
  refine v_aload_n C dL_law_416 rfl 0 rfl ?_
  refine v_iload_n C dL_law_417 rfl 3 rfl ?_
  refine v_iconst C (v := (3 : Int32)) dL_law_418 (by decide) ?_
  refine v_iadd C dL_law_419 ?_
  obtain ⟨nv8, v8, ev8, h⟩ := rdS_ex h
  refine x_sld C S nv8 ev8 dL_law_420 ?_
  obtain ⟨v9, σ10, cσ10, h⟩ := bd_some h
  refine callVl C (c_X6_product cσ10) km_X6_product kv_X6_product rfl ml_RL_46 rfl rfl (by decide) (Nat.le_of_ble_eq_true rfl) dL_law_421 ?_
  refine v_lcmp_eq C (tgt := 1176) dL_law_424 dL_law_425 (by decide) (fun q11 => ?_) (fun q11 => ?_)
  · rw [if_pos q11] at h
    refine V.sub (lv' := [(0, .ref _), (1, .ref _), (2, .ref _), (3, .int _)]) [0, 1, 2, 3] rfl ?_
    exact b_L_law_1176 C S _ hk18 _ _ _ h
  · rw [if_neg q11] at h
    refine v_iconst C (v := (0 : Int32)) dL_law_428 (by decide) ?_
    exact absurd (Prod.mk.inj (Option.some.inj h)).1 (by decide)
def f_L_law_363 (xs : Nat → Int32) (L : Nat) (k18 : Int32 → St → Option (Int32 × St)) (x3 : Int32) (σ : St) : Option (Int32 × St) :=
  rdS xs L (x3 + (1 : Int32)) fun v1 =>
  bd (f_X5_size v1 σ) fun v2 σ3 =>
  rdS xs L (x3 + (1 : Int32)) fun v4 =>
  bd (f_X6_size v4 σ3) fun v5 σ6 =>
  if v2 = v5 then
    f_L_law_1176 xs L k18 x3 σ6
  else
    some ((0 : Int32), σ6)
set_option maxRecDepth 100000 in
set_option maxHeartbeats 4000000 in
theorem b_L_law_363 {g : Geo} {x : Cx} {b L : Nat} {xs : Nat → Int32} (C : Ok g x cL_law RL 4 ret room_1) (S : Sc g x b L xs) (k18 : Int32 → St → Option (Int32 × St)) (hk18 : ∀ (x3 : Int32) (τ τ' : St), k18 x3 τ = some ((1 : Int32), τ') → V g x (lw_Z (Cx.below x) #[Value.ref b] (Cx.s x)) 4 τ [(0, .ref b), (1, .ref (g.1 0)), (2, .ref (g.1 26)), (3, .int x3)] [] 18) : ∀ (x3 : Int32) (σ σ' : St), f_L_law_363 xs L k18 x3 σ = some ((1 : Int32), σ') → V g x (lw_Z (Cx.below x) #[Value.ref b] (Cx.s x)) 4 σ [(0, .ref b), (1, .ref (g.1 0)), (2, .ref (g.1 26)), (3, .int x3)] [] 363 := by
  intro x3 σ σ' h
  unfold f_L_law_363 at h
  refine v_aload_n C dL_law_363 rfl 1 rfl ?_
  refine v_aload_n C dL_law_364 rfl 0 rfl ?_
  refine v_iload_n C dL_law_365 rfl 3 rfl ?_
  refine v_iconst C (v := (1 : Int32)) dL_law_366 (by decide) ?_
  refine v_iadd C dL_law_367 ?_
  obtain ⟨nv1, v1, ev1, h⟩ := rdS_ex h
  refine x_sld C S nv1 ev1 dL_law_368 ?_
  obtain ⟨v2, σ3, cσ3, h⟩ := bd_some h
  refine callVi C (c_X5_size cσ3) km_X5_size kv_X5_size rfl ml_RL_38 rfl rfl (by decide) (Nat.le_of_ble_eq_true rfl) dL_law_369 ?_
  refine v_aload_n C dL_law_372 rfl 2 rfl ?_
  refine v_aload_n C dL_law_373 rfl 0 rfl ?_
  refine v_iload_n C dL_law_374 rfl 3 rfl ?_
  refine v_iconst C (v := (1 : Int32)) dL_law_375 (by decide) ?_
  refine v_iadd C dL_law_376 ?_
  obtain ⟨nv4, v4, ev4, h⟩ := rdS_ex h
  refine x_sld C S nv4 ev4 dL_law_377 ?_
  obtain ⟨v5, σ6, cσ6, h⟩ := bd_some h
  refine callVi C (c_X6_size cσ6) km_X6_size kv_X6_size rfl ml_RL_41 rfl rfl (by decide) (Nat.le_of_ble_eq_true rfl) dL_law_378 ?_
  refine v_icmp_eq C (tgt := 1176) dL_law_381 (by decide) (fun q7 => ?_) (fun q7 => ?_)
  · rw [if_pos q7] at h
    refine V.sub (lv' := [(0, .ref _), (1, .ref _), (2, .ref _), (3, .int _)]) [0, 1, 2, 3] rfl ?_
    exact b_L_law_1176 C S _ hk18 _ _ _ h
  · rw [if_neg q7] at h
    refine v_iconst C (v := (0 : Int32)) dL_law_384 (by decide) ?_
    exact absurd (Prod.mk.inj (Option.some.inj h)).1 (by decide)
def f_L_law_355 (xs : Nat → Int32) (L : Nat) (k18 : Int32 → St → Option (Int32 × St)) (x3 : Int32) (s0 : Int32) (s2 : Int32) (σ : St) : Option (Int32 × St) :=
  bd (f_X6_ups s2 σ) fun v1 σ2 =>
  if s0 = v1 then
    f_L_law_1176 xs L k18 x3 σ2
  else
    some ((0 : Int32), σ2)
set_option maxRecDepth 100000 in
set_option maxHeartbeats 4000000 in
theorem b_L_law_355 {g : Geo} {x : Cx} {b L : Nat} {xs : Nat → Int32} (C : Ok g x cL_law RL 4 ret room_1) (S : Sc g x b L xs) (k18 : Int32 → St → Option (Int32 × St)) (hk18 : ∀ (x3 : Int32) (τ τ' : St), k18 x3 τ = some ((1 : Int32), τ') → V g x (lw_Z (Cx.below x) #[Value.ref b] (Cx.s x)) 4 τ [(0, .ref b), (1, .ref (g.1 0)), (2, .ref (g.1 26)), (3, .int x3)] [] 18) : ∀ (x3 : Int32) (s0 : Int32) (s2 : Int32) (σ σ' : St), f_L_law_355 xs L k18 x3 s0 s2 σ = some ((1 : Int32), σ') → V g x (lw_Z (Cx.below x) #[Value.ref b] (Cx.s x)) 4 σ [(0, .ref b), (1, .ref (g.1 0)), (2, .ref (g.1 26)), (3, .int x3)] [.int s2, .ref (g.1 26), .int s0] 355 := by
  intro x3 s0 s2 σ σ' h
  unfold f_L_law_355 at h
  obtain ⟨v1, σ2, cσ2, h⟩ := bd_some h
  refine callVi C (c_X6_ups cσ2) km_X6_ups kv_X6_ups rfl ml_RL_37 rfl rfl (by decide) (Nat.le_of_ble_eq_true rfl) dL_law_355 ?_
  refine v_icmp_eq C (tgt := 1176) dL_law_358 (by decide) (fun q3 => ?_) (fun q3 => ?_)
  · rw [if_pos q3] at h
    refine V.sub (lv' := [(0, .ref _), (1, .ref _), (2, .ref _), (3, .int _)]) [0, 1, 2, 3] rfl ?_
    exact b_L_law_1176 C S _ hk18 _ _ _ h
  · rw [if_neg q3] at h
    refine v_iconst C (v := (0 : Int32)) dL_law_361 (by decide) ?_
    exact absurd (Prod.mk.inj (Option.some.inj h)).1 (by decide)
def f_L_law_338 (xs : Nat → Int32) (L : Nat) (k18 : Int32 → St → Option (Int32 × St)) (x3 : Int32) (s1 : Int32) (σ : St) : Option (Int32 × St) :=
  bd (f_X5_ups s1 σ) fun v1 σ2 =>
  rdS xs L (x3 + (1 : Int32)) fun v3 =>
  if v3 = 0 then
    f_L_law_355 xs L k18 x3 v1 (0 : Int32) σ2
  else
    f_L_law_355 xs L k18 x3 v1 (1 : Int32) σ2
set_option maxRecDepth 100000 in
set_option maxHeartbeats 4000000 in
theorem b_L_law_338 {g : Geo} {x : Cx} {b L : Nat} {xs : Nat → Int32} (C : Ok g x cL_law RL 4 ret room_1) (S : Sc g x b L xs) (k18 : Int32 → St → Option (Int32 × St)) (hk18 : ∀ (x3 : Int32) (τ τ' : St), k18 x3 τ = some ((1 : Int32), τ') → V g x (lw_Z (Cx.below x) #[Value.ref b] (Cx.s x)) 4 τ [(0, .ref b), (1, .ref (g.1 0)), (2, .ref (g.1 26)), (3, .int x3)] [] 18) : ∀ (x3 : Int32) (s1 : Int32) (σ σ' : St), f_L_law_338 xs L k18 x3 s1 σ = some ((1 : Int32), σ') → V g x (lw_Z (Cx.below x) #[Value.ref b] (Cx.s x)) 4 σ [(0, .ref b), (1, .ref (g.1 0)), (2, .ref (g.1 26)), (3, .int x3)] [.int s1, .ref (g.1 0)] 338 := by
  intro x3 s1 σ σ' h
  unfold f_L_law_338 at h
  obtain ⟨v1, σ2, cσ2, h⟩ := bd_some h
  refine callVi C (c_X5_ups cσ2) km_X5_ups kv_X5_ups rfl ml_RL_33 rfl rfl (by decide) (Nat.le_of_ble_eq_true rfl) dL_law_338 ?_
  refine v_aload_n C dL_law_341 rfl 2 rfl ?_
  refine v_aload_n C dL_law_342 rfl 0 rfl ?_
  refine v_iload_n C dL_law_343 rfl 3 rfl ?_
  refine v_iconst C (v := (1 : Int32)) dL_law_344 (by decide) ?_
  refine v_iadd C dL_law_345 ?_
  obtain ⟨nv3, v3, ev3, h⟩ := rdS_ex h
  refine x_sld C S nv3 ev3 dL_law_346 ?_
  refine v_if_eq C (tgt := 354) dL_law_347 (by decide) (fun q4 => ?_) (fun q4 => ?_)
  · rw [if_pos q4] at h
    refine v_iconst C (v := (0 : Int32)) dL_law_354 (by decide) ?_
    refine V.sub (lv' := [(0, .ref _), (1, .ref _), (2, .ref _), (3, .int _)]) [0, 1, 2, 3] rfl ?_
    exact b_L_law_355 C S _ hk18 _ _ _ _ _ h
  · rw [if_neg q4] at h
    refine v_iconst C (v := (1 : Int32)) dL_law_350 (by decide) ?_
    refine v_goto C (tgt := 355) dL_law_351 (by decide) ?_
    refine V.sub (lv' := [(0, .ref _), (1, .ref _), (2, .ref _), (3, .int _)]) [0, 1, 2, 3] rfl ?_
    exact b_L_law_355 C S _ hk18 _ _ _ _ _ h
def f_L_law_324 (xs : Nat → Int32) (L : Nat) (k18 : Int32 → St → Option (Int32 × St)) (x3 : Int32) (σ : St) : Option (Int32 × St) :=
  rdS xs L (x3 + (1 : Int32)) fun v1 =>
  if v1 = 0 then
    f_L_law_338 xs L k18 x3 (0 : Int32) σ
  else
    f_L_law_338 xs L k18 x3 (1 : Int32) σ
set_option maxRecDepth 100000 in
set_option maxHeartbeats 4000000 in
theorem b_L_law_324 {g : Geo} {x : Cx} {b L : Nat} {xs : Nat → Int32} (C : Ok g x cL_law RL 4 ret room_1) (S : Sc g x b L xs) (k18 : Int32 → St → Option (Int32 × St)) (hk18 : ∀ (x3 : Int32) (τ τ' : St), k18 x3 τ = some ((1 : Int32), τ') → V g x (lw_Z (Cx.below x) #[Value.ref b] (Cx.s x)) 4 τ [(0, .ref b), (1, .ref (g.1 0)), (2, .ref (g.1 26)), (3, .int x3)] [] 18) : ∀ (x3 : Int32) (σ σ' : St), f_L_law_324 xs L k18 x3 σ = some ((1 : Int32), σ') → V g x (lw_Z (Cx.below x) #[Value.ref b] (Cx.s x)) 4 σ [(0, .ref b), (1, .ref (g.1 0)), (2, .ref (g.1 26)), (3, .int x3)] [] 324 := by
  intro x3 σ σ' h
  unfold f_L_law_324 at h
  refine v_aload_n C dL_law_324 rfl 1 rfl ?_
  refine v_aload_n C dL_law_325 rfl 0 rfl ?_
  refine v_iload_n C dL_law_326 rfl 3 rfl ?_
  refine v_iconst C (v := (1 : Int32)) dL_law_327 (by decide) ?_
  refine v_iadd C dL_law_328 ?_
  obtain ⟨nv1, v1, ev1, h⟩ := rdS_ex h
  refine x_sld C S nv1 ev1 dL_law_329 ?_
  refine v_if_eq C (tgt := 337) dL_law_330 (by decide) (fun q2 => ?_) (fun q2 => ?_)
  · rw [if_pos q2] at h
    refine v_iconst C (v := (0 : Int32)) dL_law_337 (by decide) ?_
    refine V.sub (lv' := [(0, .ref _), (1, .ref _), (2, .ref _), (3, .int _)]) [0, 1, 2, 3] rfl ?_
    exact b_L_law_338 C S _ hk18 _ _ _ _ h
  · rw [if_neg q2] at h
    refine v_iconst C (v := (1 : Int32)) dL_law_333 (by decide) ?_
    refine v_goto C (tgt := 338) dL_law_334 (by decide) ?_
    refine V.sub (lv' := [(0, .ref _), (1, .ref _), (2, .ref _), (3, .int _)]) [0, 1, 2, 3] rfl ?_
    exact b_L_law_338 C S _ hk18 _ _ _ _ h
def f_L_law_301 (xs : Nat → Int32) (L : Nat) (k18 : Int32 → St → Option (Int32 × St)) (x3 : Int32) (σ : St) : Option (Int32 × St) :=
  rdS xs L (x3 + (1 : Int32)) fun v1 =>
  bd (f_X5_isIn v1 σ) fun v2 σ3 =>
  rdS xs L (x3 + (1 : Int32)) fun v4 =>
  bd (f_X6_isIn v4 σ3) fun v5 σ6 =>
  if v2 = v5 then
    f_L_law_1176 xs L k18 x3 σ6
  else
    some ((0 : Int32), σ6)
set_option maxRecDepth 100000 in
set_option maxHeartbeats 4000000 in
theorem b_L_law_301 {g : Geo} {x : Cx} {b L : Nat} {xs : Nat → Int32} (C : Ok g x cL_law RL 4 ret room_1) (S : Sc g x b L xs) (k18 : Int32 → St → Option (Int32 × St)) (hk18 : ∀ (x3 : Int32) (τ τ' : St), k18 x3 τ = some ((1 : Int32), τ') → V g x (lw_Z (Cx.below x) #[Value.ref b] (Cx.s x)) 4 τ [(0, .ref b), (1, .ref (g.1 0)), (2, .ref (g.1 26)), (3, .int x3)] [] 18) : ∀ (x3 : Int32) (σ σ' : St), f_L_law_301 xs L k18 x3 σ = some ((1 : Int32), σ') → V g x (lw_Z (Cx.below x) #[Value.ref b] (Cx.s x)) 4 σ [(0, .ref b), (1, .ref (g.1 0)), (2, .ref (g.1 26)), (3, .int x3)] [] 301 := by
  intro x3 σ σ' h
  unfold f_L_law_301 at h
  refine v_aload_n C dL_law_301 rfl 1 rfl ?_
  refine v_aload_n C dL_law_302 rfl 0 rfl ?_
  refine v_iload_n C dL_law_303 rfl 3 rfl ?_
  refine v_iconst C (v := (1 : Int32)) dL_law_304 (by decide) ?_
  refine v_iadd C dL_law_305 ?_
  obtain ⟨nv1, v1, ev1, h⟩ := rdS_ex h
  refine x_sld C S nv1 ev1 dL_law_306 ?_
  obtain ⟨v2, σ3, cσ3, h⟩ := bd_some h
  refine callVi C (c_X5_isIn cσ3) km_X5_isIn kv_X5_isIn rfl ml_RL_28 rfl rfl (by decide) (Nat.le_of_ble_eq_true rfl) dL_law_307 ?_
  refine v_aload_n C dL_law_310 rfl 2 rfl ?_
  refine v_aload_n C dL_law_311 rfl 0 rfl ?_
  refine v_iload_n C dL_law_312 rfl 3 rfl ?_
  refine v_iconst C (v := (1 : Int32)) dL_law_313 (by decide) ?_
  refine v_iadd C dL_law_314 ?_
  obtain ⟨nv4, v4, ev4, h⟩ := rdS_ex h
  refine x_sld C S nv4 ev4 dL_law_315 ?_
  obtain ⟨v5, σ6, cσ6, h⟩ := bd_some h
  refine callVi C (c_X6_isIn cσ6) km_X6_isIn kv_X6_isIn rfl ml_RL_32 rfl rfl (by decide) (Nat.le_of_ble_eq_true rfl) dL_law_316 ?_
  refine v_icmp_eq C (tgt := 1176) dL_law_319 (by decide) (fun q7 => ?_) (fun q7 => ?_)
  · rw [if_pos q7] at h
    refine V.sub (lv' := [(0, .ref _), (1, .ref _), (2, .ref _), (3, .int _)]) [0, 1, 2, 3] rfl ?_
    exact b_L_law_1176 C S _ hk18 _ _ _ h
  · rw [if_neg q7] at h
    refine v_iconst C (v := (0 : Int32)) dL_law_322 (by decide) ?_
    exact absurd (Prod.mk.inj (Option.some.inj h)).1 (by decide)
def f_L_law_293 (xs : Nat → Int32) (L : Nat) (k18 : Int32 → St → Option (Int32 × St)) (x3 : Int32) (s0 : Int32) (s2 : Int32) (s3 : Int32) (σ : St) : Option (Int32 × St) :=
  bd (f_X6_set s2 s3 σ) fun v1 σ2 =>
  if s0 = v1 then
    f_L_law_1176 xs L k18 x3 σ2
  else
    some ((0 : Int32), σ2)
set_option maxRecDepth 100000 in
set_option maxHeartbeats 4000000 in
theorem b_L_law_293 {g : Geo} {x : Cx} {b L : Nat} {xs : Nat → Int32} (C : Ok g x cL_law RL 4 ret room_1) (S : Sc g x b L xs) (k18 : Int32 → St → Option (Int32 × St)) (hk18 : ∀ (x3 : Int32) (τ τ' : St), k18 x3 τ = some ((1 : Int32), τ') → V g x (lw_Z (Cx.below x) #[Value.ref b] (Cx.s x)) 4 τ [(0, .ref b), (1, .ref (g.1 0)), (2, .ref (g.1 26)), (3, .int x3)] [] 18) : ∀ (x3 : Int32) (s0 : Int32) (s2 : Int32) (s3 : Int32) (σ σ' : St), f_L_law_293 xs L k18 x3 s0 s2 s3 σ = some ((1 : Int32), σ') → V g x (lw_Z (Cx.below x) #[Value.ref b] (Cx.s x)) 4 σ [(0, .ref b), (1, .ref (g.1 0)), (2, .ref (g.1 26)), (3, .int x3)] [.int s3, .int s2, .ref (g.1 26), .int s0] 293 := by
  intro x3 s0 s2 s3 σ σ' h
  unfold f_L_law_293 at h
  obtain ⟨v1, σ2, cσ2, h⟩ := bd_some h
  refine callVi C (c_X6_set cσ2) km_X6_set kv_X6_set rfl ml_RL_27 rfl rfl (by decide) (Nat.le_of_ble_eq_true rfl) dL_law_293 ?_
  refine v_icmp_eq C (tgt := 1176) dL_law_296 (by decide) (fun q3 => ?_) (fun q3 => ?_)
  · rw [if_pos q3] at h
    refine V.sub (lv' := [(0, .ref _), (1, .ref _), (2, .ref _), (3, .int _)]) [0, 1, 2, 3] rfl ?_
    exact b_L_law_1176 C S _ hk18 _ _ _ h
  · rw [if_neg q3] at h
    refine v_iconst C (v := (0 : Int32)) dL_law_299 (by decide) ?_
    exact absurd (Prod.mk.inj (Option.some.inj h)).1 (by decide)
def f_L_law_271 (xs : Nat → Int32) (L : Nat) (k18 : Int32 → St → Option (Int32 × St)) (x3 : Int32) (s1 : Int32) (s2 : Int32) (σ : St) : Option (Int32 × St) :=
  bd (f_X5_set s1 s2 σ) fun v1 σ2 =>
  rdS xs L (x3 + (1 : Int32)) fun v3 =>
  rdS xs L (x3 + (2 : Int32)) fun v4 =>
  if v4 = 0 then
    f_L_law_293 xs L k18 x3 v1 v3 (0 : Int32) σ2
  else
    f_L_law_293 xs L k18 x3 v1 v3 (1 : Int32) σ2
set_option maxRecDepth 100000 in
set_option maxHeartbeats 4000000 in
theorem b_L_law_271 {g : Geo} {x : Cx} {b L : Nat} {xs : Nat → Int32} (C : Ok g x cL_law RL 4 ret room_1) (S : Sc g x b L xs) (k18 : Int32 → St → Option (Int32 × St)) (hk18 : ∀ (x3 : Int32) (τ τ' : St), k18 x3 τ = some ((1 : Int32), τ') → V g x (lw_Z (Cx.below x) #[Value.ref b] (Cx.s x)) 4 τ [(0, .ref b), (1, .ref (g.1 0)), (2, .ref (g.1 26)), (3, .int x3)] [] 18) : ∀ (x3 : Int32) (s1 : Int32) (s2 : Int32) (σ σ' : St), f_L_law_271 xs L k18 x3 s1 s2 σ = some ((1 : Int32), σ') → V g x (lw_Z (Cx.below x) #[Value.ref b] (Cx.s x)) 4 σ [(0, .ref b), (1, .ref (g.1 0)), (2, .ref (g.1 26)), (3, .int x3)] [.int s2, .int s1, .ref (g.1 0)] 271 := by
  intro x3 s1 s2 σ σ' h
  unfold f_L_law_271 at h
  obtain ⟨v1, σ2, cσ2, h⟩ := bd_some h
  refine callVi C (c_X5_set cσ2) km_X5_set kv_X5_set rfl ml_RL_23 rfl rfl (by decide) (Nat.le_of_ble_eq_true rfl) dL_law_271 ?_
  refine v_aload_n C dL_law_274 rfl 2 rfl ?_
  refine v_aload_n C dL_law_275 rfl 0 rfl ?_
  refine v_iload_n C dL_law_276 rfl 3 rfl ?_
  refine v_iconst C (v := (1 : Int32)) dL_law_277 (by decide) ?_
  refine v_iadd C dL_law_278 ?_
  obtain ⟨nv3, v3, ev3, h⟩ := rdS_ex h
  refine x_sld C S nv3 ev3 dL_law_279 ?_
  refine v_aload_n C dL_law_280 rfl 0 rfl ?_
  refine v_iload_n C dL_law_281 rfl 3 rfl ?_
  refine v_iconst C (v := (2 : Int32)) dL_law_282 (by decide) ?_
  refine v_iadd C dL_law_283 ?_
  obtain ⟨nv4, v4, ev4, h⟩ := rdS_ex h
  refine x_sld C S nv4 ev4 dL_law_284 ?_
  refine v_if_eq C (tgt := 292) dL_law_285 (by decide) (fun q5 => ?_) (fun q5 => ?_)
  · rw [if_pos q5] at h
    refine v_iconst C (v := (0 : Int32)) dL_law_292 (by decide) ?_
    refine V.sub (lv' := [(0, .ref _), (1, .ref _), (2, .ref _), (3, .int _)]) [0, 1, 2, 3] rfl ?_
    exact b_L_law_293 C S _ hk18 _ _ _ _ _ _ h
  · rw [if_neg q5] at h
    refine v_iconst C (v := (1 : Int32)) dL_law_288 (by decide) ?_
    refine v_goto C (tgt := 293) dL_law_289 (by decide) ?_
    refine V.sub (lv' := [(0, .ref _), (1, .ref _), (2, .ref _), (3, .int _)]) [0, 1, 2, 3] rfl ?_
    exact b_L_law_293 C S _ hk18 _ _ _ _ _ _ h
def f_L_law_252 (xs : Nat → Int32) (L : Nat) (k18 : Int32 → St → Option (Int32 × St)) (x3 : Int32) (σ : St) : Option (Int32 × St) :=
  rdS xs L (x3 + (1 : Int32)) fun v1 =>
  rdS xs L (x3 + (2 : Int32)) fun v2 =>
  if v2 = 0 then
    f_L_law_271 xs L k18 x3 v1 (0 : Int32) σ
  else
    f_L_law_271 xs L k18 x3 v1 (1 : Int32) σ
set_option maxRecDepth 100000 in
set_option maxHeartbeats 4000000 in
theorem b_L_law_252 {g : Geo} {x : Cx} {b L : Nat} {xs : Nat → Int32} (C : Ok g x cL_law RL 4 ret room_1) (S : Sc g x b L xs) (k18 : Int32 → St → Option (Int32 × St)) (hk18 : ∀ (x3 : Int32) (τ τ' : St), k18 x3 τ = some ((1 : Int32), τ') → V g x (lw_Z (Cx.below x) #[Value.ref b] (Cx.s x)) 4 τ [(0, .ref b), (1, .ref (g.1 0)), (2, .ref (g.1 26)), (3, .int x3)] [] 18) : ∀ (x3 : Int32) (σ σ' : St), f_L_law_252 xs L k18 x3 σ = some ((1 : Int32), σ') → V g x (lw_Z (Cx.below x) #[Value.ref b] (Cx.s x)) 4 σ [(0, .ref b), (1, .ref (g.1 0)), (2, .ref (g.1 26)), (3, .int x3)] [] 252 := by
  intro x3 σ σ' h
  unfold f_L_law_252 at h
  refine v_aload_n C dL_law_252 rfl 1 rfl ?_
  refine v_aload_n C dL_law_253 rfl 0 rfl ?_
  refine v_iload_n C dL_law_254 rfl 3 rfl ?_
  refine v_iconst C (v := (1 : Int32)) dL_law_255 (by decide) ?_
  refine v_iadd C dL_law_256 ?_
  obtain ⟨nv1, v1, ev1, h⟩ := rdS_ex h
  refine x_sld C S nv1 ev1 dL_law_257 ?_
  refine v_aload_n C dL_law_258 rfl 0 rfl ?_
  refine v_iload_n C dL_law_259 rfl 3 rfl ?_
  refine v_iconst C (v := (2 : Int32)) dL_law_260 (by decide) ?_
  refine v_iadd C dL_law_261 ?_
  obtain ⟨nv2, v2, ev2, h⟩ := rdS_ex h
  refine x_sld C S nv2 ev2 dL_law_262 ?_
  refine v_if_eq C (tgt := 270) dL_law_263 (by decide) (fun q3 => ?_) (fun q3 => ?_)
  · rw [if_pos q3] at h
    refine v_iconst C (v := (0 : Int32)) dL_law_270 (by decide) ?_
    refine V.sub (lv' := [(0, .ref _), (1, .ref _), (2, .ref _), (3, .int _)]) [0, 1, 2, 3] rfl ?_
    exact b_L_law_271 C S _ hk18 _ _ _ _ _ h
  · rw [if_neg q3] at h
    refine v_iconst C (v := (1 : Int32)) dL_law_266 (by decide) ?_
    refine v_goto C (tgt := 271) dL_law_267 (by decide) ?_
    refine V.sub (lv' := [(0, .ref _), (1, .ref _), (2, .ref _), (3, .int _)]) [0, 1, 2, 3] rfl ?_
    exact b_L_law_271 C S _ hk18 _ _ _ _ _ h
def f_L_law_209 (xs : Nat → Int32) (L : Nat) (k18 : Int32 → St → Option (Int32 × St)) (x3 : Int32) (σ : St) : Option (Int32 × St) :=
  rdS xs L (x3 + (1 : Int32)) fun v1 =>
  rdS xs L (x3 + (2 : Int32)) fun v2 =>
  rdS xs L (x3 + (3 : Int32)) fun v3 =>
  bd (f_X5_hexagon v1 v2 v3 σ) fun v4 σ5 =>
  rdS xs L (x3 + (1 : Int32)) fun v6 =>
  rdS xs L (x3 + (2 : Int32)) fun v7 =>
  rdS xs L (x3 + (3 : Int32)) fun v8 =>
  bd (f_X6_hexagon v6 v7 v8 σ5) fun v9 σ10 =>
  if v4 = v9 then
    f_L_law_1176 xs L k18 x3 σ10
  else
    some ((0 : Int32), σ10)
set_option maxRecDepth 100000 in
set_option maxHeartbeats 4000000 in
theorem b_L_law_209 {g : Geo} {x : Cx} {b L : Nat} {xs : Nat → Int32} (C : Ok g x cL_law RL 4 ret room_1) (S : Sc g x b L xs) (k18 : Int32 → St → Option (Int32 × St)) (hk18 : ∀ (x3 : Int32) (τ τ' : St), k18 x3 τ = some ((1 : Int32), τ') → V g x (lw_Z (Cx.below x) #[Value.ref b] (Cx.s x)) 4 τ [(0, .ref b), (1, .ref (g.1 0)), (2, .ref (g.1 26)), (3, .int x3)] [] 18) : ∀ (x3 : Int32) (σ σ' : St), f_L_law_209 xs L k18 x3 σ = some ((1 : Int32), σ') → V g x (lw_Z (Cx.below x) #[Value.ref b] (Cx.s x)) 4 σ [(0, .ref b), (1, .ref (g.1 0)), (2, .ref (g.1 26)), (3, .int x3)] [] 209 := by
  intro x3 σ σ' h
  unfold f_L_law_209 at h
  refine v_aload_n C dL_law_209 rfl 1 rfl ?_
  refine v_aload_n C dL_law_210 rfl 0 rfl ?_
  refine v_iload_n C dL_law_211 rfl 3 rfl ?_
  refine v_iconst C (v := (1 : Int32)) dL_law_212 (by decide) ?_
  refine v_iadd C dL_law_213 ?_
  obtain ⟨nv1, v1, ev1, h⟩ := rdS_ex h
  refine x_sld C S nv1 ev1 dL_law_214 ?_
  refine v_aload_n C dL_law_215 rfl 0 rfl ?_
  refine v_iload_n C dL_law_216 rfl 3 rfl ?_
  refine v_iconst C (v := (2 : Int32)) dL_law_217 (by decide) ?_
  refine v_iadd C dL_law_218 ?_
  obtain ⟨nv2, v2, ev2, h⟩ := rdS_ex h
  refine x_sld C S nv2 ev2 dL_law_219 ?_
  refine v_aload_n C dL_law_220 rfl 0 rfl ?_
  refine v_iload_n C dL_law_221 rfl 3 rfl ?_
  refine v_iconst C (v := (3 : Int32)) dL_law_222 (by decide) ?_
  refine v_iadd C dL_law_223 ?_
  obtain ⟨nv3, v3, ev3, h⟩ := rdS_ex h
  refine x_sld C S nv3 ev3 dL_law_224 ?_
  obtain ⟨v4, σ5, cσ5, h⟩ := bd_some h
  refine callVi C (c_X5_hexagon cσ5) km_X5_hexagon kv_X5_hexagon rfl ml_RL_18 rfl rfl (by decide) (Nat.le_of_ble_eq_true rfl) dL_law_225 ?_
  refine v_aload_n C dL_law_228 rfl 2 rfl ?_
  refine v_aload_n C dL_law_229 rfl 0 rfl ?_
  refine v_iload_n C dL_law_230 rfl 3 rfl ?_
  refine v_iconst C (v := (1 : Int32)) dL_law_231 (by decide) ?_
  refine v_iadd C dL_law_232 ?_
  obtain ⟨nv6, v6, ev6, h⟩ := rdS_ex h
  refine x_sld C S nv6 ev6 dL_law_233 ?_
  refine v_aload_n C dL_law_234 rfl 0 rfl ?_
  refine v_iload_n C dL_law_235 rfl 3 rfl ?_
  refine v_iconst C (v := (2 : Int32)) dL_law_236 (by decide) ?_
  refine v_iadd C dL_law_237 ?_
  obtain ⟨nv7, v7, ev7, h⟩ := rdS_ex h
  refine x_sld C S nv7 ev7 dL_law_238 ?_
  refine v_aload_n C dL_law_239 rfl 0 rfl ?_
  refine v_iload_n C dL_law_240 rfl 3 rfl ?_
  refine v_iconst C (v := (3 : Int32)) dL_law_241 (by decide) ?_
  refine v_iadd C dL_law_242 ?_
  obtain ⟨nv8, v8, ev8, h⟩ := rdS_ex h
  refine x_sld C S nv8 ev8 dL_law_243 ?_
  obtain ⟨v9, σ10, cσ10, h⟩ := bd_some h
  refine callVi C (c_X6_hexagon cσ10) km_X6_hexagon kv_X6_hexagon rfl ml_RL_22 rfl rfl (by decide) (Nat.le_of_ble_eq_true rfl) dL_law_244 ?_
  refine v_icmp_eq C (tgt := 1176) dL_law_247 (by decide) (fun q11 => ?_) (fun q11 => ?_)
  · rw [if_pos q11] at h
    refine V.sub (lv' := [(0, .ref _), (1, .ref _), (2, .ref _), (3, .int _)]) [0, 1, 2, 3] rfl ?_
    exact b_L_law_1176 C S _ hk18 _ _ _ h
  · rw [if_neg q11] at h
    refine v_iconst C (v := (0 : Int32)) dL_law_250 (by decide) ?_
    exact absurd (Prod.mk.inj (Option.some.inj h)).1 (by decide)
def f_L_law_176 (xs : Nat → Int32) (L : Nat) (k18 : Int32 → St → Option (Int32 × St)) (x3 : Int32) (σ : St) : Option (Int32 × St) :=
  rdS xs L (x3 + (1 : Int32)) fun v1 =>
  rdS xs L (x3 + (2 : Int32)) fun v2 =>
  bd (f_X5_ground v1 v2 σ) fun v3 σ4 =>
  rdS xs L (x3 + (1 : Int32)) fun v5 =>
  rdS xs L (x3 + (2 : Int32)) fun v6 =>
  bd (f_X6_ground v5 v6 σ4) fun v7 σ8 =>
  if v3 = v7 then
    f_L_law_1176 xs L k18 x3 σ8
  else
    some ((0 : Int32), σ8)
set_option maxRecDepth 100000 in
set_option maxHeartbeats 4000000 in
theorem b_L_law_176 {g : Geo} {x : Cx} {b L : Nat} {xs : Nat → Int32} (C : Ok g x cL_law RL 4 ret room_1) (S : Sc g x b L xs) (k18 : Int32 → St → Option (Int32 × St)) (hk18 : ∀ (x3 : Int32) (τ τ' : St), k18 x3 τ = some ((1 : Int32), τ') → V g x (lw_Z (Cx.below x) #[Value.ref b] (Cx.s x)) 4 τ [(0, .ref b), (1, .ref (g.1 0)), (2, .ref (g.1 26)), (3, .int x3)] [] 18) : ∀ (x3 : Int32) (σ σ' : St), f_L_law_176 xs L k18 x3 σ = some ((1 : Int32), σ') → V g x (lw_Z (Cx.below x) #[Value.ref b] (Cx.s x)) 4 σ [(0, .ref b), (1, .ref (g.1 0)), (2, .ref (g.1 26)), (3, .int x3)] [] 176 := by
  intro x3 σ σ' h
  unfold f_L_law_176 at h
  refine v_aload_n C dL_law_176 rfl 1 rfl ?_
  refine v_aload_n C dL_law_177 rfl 0 rfl ?_
  refine v_iload_n C dL_law_178 rfl 3 rfl ?_
  refine v_iconst C (v := (1 : Int32)) dL_law_179 (by decide) ?_
  refine v_iadd C dL_law_180 ?_
  obtain ⟨nv1, v1, ev1, h⟩ := rdS_ex h
  refine x_sld C S nv1 ev1 dL_law_181 ?_
  refine v_aload_n C dL_law_182 rfl 0 rfl ?_
  refine v_iload_n C dL_law_183 rfl 3 rfl ?_
  refine v_iconst C (v := (2 : Int32)) dL_law_184 (by decide) ?_
  refine v_iadd C dL_law_185 ?_
  obtain ⟨nv2, v2, ev2, h⟩ := rdS_ex h
  refine x_sld C S nv2 ev2 dL_law_186 ?_
  obtain ⟨v3, σ4, cσ4, h⟩ := bd_some h
  refine callVi C (c_X5_ground cσ4) km_X5_ground kv_X5_ground rfl ml_RL_13 rfl rfl (by decide) (Nat.le_of_ble_eq_true rfl) dL_law_187 ?_
  refine v_aload_n C dL_law_190 rfl 2 rfl ?_
  refine v_aload_n C dL_law_191 rfl 0 rfl ?_
  refine v_iload_n C dL_law_192 rfl 3 rfl ?_
  refine v_iconst C (v := (1 : Int32)) dL_law_193 (by decide) ?_
  refine v_iadd C dL_law_194 ?_
  obtain ⟨nv5, v5, ev5, h⟩ := rdS_ex h
  refine x_sld C S nv5 ev5 dL_law_195 ?_
  refine v_aload_n C dL_law_196 rfl 0 rfl ?_
  refine v_iload_n C dL_law_197 rfl 3 rfl ?_
  refine v_iconst C (v := (2 : Int32)) dL_law_198 (by decide) ?_
  refine v_iadd C dL_law_199 ?_
  obtain ⟨nv6, v6, ev6, h⟩ := rdS_ex h
  refine x_sld C S nv6 ev6 dL_law_200 ?_
  obtain ⟨v7, σ8, cσ8, h⟩ := bd_some h
  refine callVi C (c_X6_ground cσ8) km_X6_ground kv_X6_ground rfl ml_RL_17 rfl rfl (by decide) (Nat.le_of_ble_eq_true rfl) dL_law_201 ?_
  refine v_icmp_eq C (tgt := 1176) dL_law_204 (by decide) (fun q9 => ?_) (fun q9 => ?_)
  · rw [if_pos q9] at h
    refine V.sub (lv' := [(0, .ref _), (1, .ref _), (2, .ref _), (3, .int _)]) [0, 1, 2, 3] rfl ?_
    exact b_L_law_1176 C S _ hk18 _ _ _ h
  · rw [if_neg q9] at h
    refine v_iconst C (v := (0 : Int32)) dL_law_207 (by decide) ?_
    exact absurd (Prod.mk.inj (Option.some.inj h)).1 (by decide)
def f_L_law_18 (xs : Nat → Int32) (L : Nat) : Nat → Int32 → St → Option (Int32 × St)
  | 0, _, _ => none
  | n + 1, x3, σ =>
    if ((Int32.ofNat L) - (4 : Int32)) < x3 then
      some ((1 : Int32), σ)
    else
      rdS xs L x3 fun v1 =>
      swt (v1 &&& (31 : Int32)) fun c => match c with
        | 0 => f_L_law_176 xs L (f_L_law_18 xs L n) x3 σ
        | 1 => f_L_law_209 xs L (f_L_law_18 xs L n) x3 σ
        | 2 => f_L_law_252 xs L (f_L_law_18 xs L n) x3 σ
        | 3 => f_L_law_301 xs L (f_L_law_18 xs L n) x3 σ
        | 4 => f_L_law_324 xs L (f_L_law_18 xs L n) x3 σ
        | 5 => f_L_law_363 xs L (f_L_law_18 xs L n) x3 σ
        | 6 => f_L_law_386 xs L (f_L_law_18 xs L n) x3 σ
        | 7 => f_L_law_430 xs L (f_L_law_18 xs L n) x3 σ
        | 8 => f_L_law_444 xs L (f_L_law_18 xs L n) x3 σ
        | 9 => f_L_law_478 xs L (f_L_law_18 xs L n) x3 σ
        | 10 => f_L_law_501 xs L (f_L_law_18 xs L n) x3 σ
        | 11 => f_L_law_514 xs L (f_L_law_18 xs L n) x3 σ
        | 12 => f_L_law_563 xs L (f_L_law_18 xs L n) x3 σ
        | 13 => f_L_law_606 xs L (f_L_law_18 xs L n) x3 σ
        | 14 => f_L_law_619 xs L (f_L_law_18 xs L n) x3 σ
        | 15 => f_L_law_682 xs L (f_L_law_18 xs L n) x3 σ
        | 16 => f_L_law_705 xs L (f_L_law_18 xs L n) x3 σ
        | 17 => f_L_law_738 xs L (f_L_law_18 xs L n) x3 σ
        | 18 => f_L_law_762 xs L (f_L_law_18 xs L n) x3 σ
        | 19 => f_L_law_795 xs L (f_L_law_18 xs L n) x3 σ
        | 20 => f_L_law_828 xs L (f_L_law_18 xs L n) x3 σ
        | 21 => f_L_law_851 xs L (f_L_law_18 xs L n) x3 σ
        | 22 => f_L_law_894 xs L (f_L_law_18 xs L n) x3 σ
        | 23 => f_L_law_943 xs L (f_L_law_18 xs L n) x3 σ
        | 24 => f_L_law_986 xs L (f_L_law_18 xs L n) x3 σ
        | 25 => f_L_law_1019 xs L (f_L_law_18 xs L n) x3 σ
        | 26 => f_L_law_1068 xs L (f_L_law_18 xs L n) x3 σ
        | 27 => f_L_law_1091 xs L (f_L_law_18 xs L n) x3 σ
        | 28 => f_L_law_1114 xs L (f_L_law_18 xs L n) x3 σ
        | 29 => f_L_law_1127 xs L (f_L_law_18 xs L n) x3 σ
        | 30 => f_L_law_1140 xs L (f_L_law_18 xs L n) x3 σ
        | 31 => f_L_law_1153 xs L (f_L_law_18 xs L n) x3 σ
        | _ => none
set_option maxRecDepth 100000 in
set_option maxHeartbeats 4000000 in
theorem b_L_law_18 {g : Geo} {x : Cx} {b L : Nat} {xs : Nat → Int32} (C : Ok g x cL_law RL 4 ret room_1) (S : Sc g x b L xs) : ∀ (n : Nat) (x3 : Int32) (σ σ' : St), f_L_law_18 xs L n x3 σ = some ((1 : Int32), σ') → V g x (lw_Z (Cx.below x) #[Value.ref b] (Cx.s x)) 4 σ [(0, .ref b), (1, .ref (g.1 0)), (2, .ref (g.1 26)), (3, .int x3)] [] 18 := by
  intro n
  induction n with
  | zero =>
    intro x3 σ σ' h
    rw [f_L_law_18] at h
    cases h
  | succ n ih =>
    intro x3 σ σ' h
    rw [f_L_law_18] at h
    refine v_iload_n C dL_law_18 rfl 3 rfl ?_
    refine v_aload_n C dL_law_19 rfl 0 rfl ?_
    refine v_slen C S dL_law_20 ?_
    refine v_iconst C (v := (4 : Int32)) dL_law_21 (by decide) ?_
    refine v_isub C dL_law_22 ?_
    refine v_icmp_gt C (tgt := 1182) dL_law_23 (by decide) (fun q2 => ?_) (fun q2 => ?_)
    · rw [if_pos q2] at h
      refine v_iconst C (v := (1 : Int32)) dL_law_1182 (by decide) ?_
      exact v_lawret C S dL_law_1183
    · rw [if_neg q2] at h
      refine v_aload_n C dL_law_26 rfl 0 rfl ?_
      refine v_iload_n C dL_law_27 rfl 3 rfl ?_
      obtain ⟨nv1, v1, ev1, h⟩ := rdS_ex h
      refine x_sld C S nv1 ev1 dL_law_28 ?_
      refine v_bipush C (v := (31 : Int32)) dL_law_29 (by decide) ?_
      refine v_iand C dL_law_31 ?_
      obtain ⟨j, hj, ej⟩ := pk_andE v1 (m := 31) 5 (by decide)
      rw [ej] at h ⊢
      match j, hj with
      | 0, _ =>
        refine v_table C (off := 144) (tgt := 176) dL_law_32 (by decide) (by decide) rfl (by decide) ?_
        replace h : f_L_law_176 xs L (f_L_law_18 xs L n) x3 σ = some ((1 : Int32), σ') := h
        refine V.sub (lv' := [(0, .ref _), (1, .ref _), (2, .ref _), (3, .int _)]) [0, 1, 2, 3] rfl ?_
        exact b_L_law_176 C S _ ih _ _ _ h
      | 1, _ =>
        refine v_table C (off := 177) (tgt := 209) dL_law_32 (by decide) (by decide) rfl (by decide) ?_
        replace h : f_L_law_209 xs L (f_L_law_18 xs L n) x3 σ = some ((1 : Int32), σ') := h
        refine V.sub (lv' := [(0, .ref _), (1, .ref _), (2, .ref _), (3, .int _)]) [0, 1, 2, 3] rfl ?_
        exact b_L_law_209 C S _ ih _ _ _ h
      | 2, _ =>
        refine v_table C (off := 220) (tgt := 252) dL_law_32 (by decide) (by decide) rfl (by decide) ?_
        replace h : f_L_law_252 xs L (f_L_law_18 xs L n) x3 σ = some ((1 : Int32), σ') := h
        refine V.sub (lv' := [(0, .ref _), (1, .ref _), (2, .ref _), (3, .int _)]) [0, 1, 2, 3] rfl ?_
        exact b_L_law_252 C S _ ih _ _ _ h
      | 3, _ =>
        refine v_table C (off := 269) (tgt := 301) dL_law_32 (by decide) (by decide) rfl (by decide) ?_
        replace h : f_L_law_301 xs L (f_L_law_18 xs L n) x3 σ = some ((1 : Int32), σ') := h
        refine V.sub (lv' := [(0, .ref _), (1, .ref _), (2, .ref _), (3, .int _)]) [0, 1, 2, 3] rfl ?_
        exact b_L_law_301 C S _ ih _ _ _ h
      | 4, _ =>
        refine v_table C (off := 292) (tgt := 324) dL_law_32 (by decide) (by decide) rfl (by decide) ?_
        replace h : f_L_law_324 xs L (f_L_law_18 xs L n) x3 σ = some ((1 : Int32), σ') := h
        refine V.sub (lv' := [(0, .ref _), (1, .ref _), (2, .ref _), (3, .int _)]) [0, 1, 2, 3] rfl ?_
        exact b_L_law_324 C S _ ih _ _ _ h
      | 5, _ =>
        refine v_table C (off := 331) (tgt := 363) dL_law_32 (by decide) (by decide) rfl (by decide) ?_
        replace h : f_L_law_363 xs L (f_L_law_18 xs L n) x3 σ = some ((1 : Int32), σ') := h
        refine V.sub (lv' := [(0, .ref _), (1, .ref _), (2, .ref _), (3, .int _)]) [0, 1, 2, 3] rfl ?_
        exact b_L_law_363 C S _ ih _ _ _ h
      | 6, _ =>
        refine v_table C (off := 354) (tgt := 386) dL_law_32 (by decide) (by decide) rfl (by decide) ?_
        replace h : f_L_law_386 xs L (f_L_law_18 xs L n) x3 σ = some ((1 : Int32), σ') := h
        refine V.sub (lv' := [(0, .ref _), (1, .ref _), (2, .ref _), (3, .int _)]) [0, 1, 2, 3] rfl ?_
        exact b_L_law_386 C S _ ih _ _ _ h
      | 7, _ =>
        refine v_table C (off := 398) (tgt := 430) dL_law_32 (by decide) (by decide) rfl (by decide) ?_
        replace h : f_L_law_430 xs L (f_L_law_18 xs L n) x3 σ = some ((1 : Int32), σ') := h
        refine V.sub (lv' := [(0, .ref _), (1, .ref _), (2, .ref _), (3, .int _)]) [0, 1, 2, 3] rfl ?_
        exact b_L_law_430 C S _ ih _ _ _ h
      | 8, _ =>
        refine v_table C (off := 412) (tgt := 444) dL_law_32 (by decide) (by decide) rfl (by decide) ?_
        replace h : f_L_law_444 xs L (f_L_law_18 xs L n) x3 σ = some ((1 : Int32), σ') := h
        refine V.sub (lv' := [(0, .ref _), (1, .ref _), (2, .ref _), (3, .int _)]) [0, 1, 2, 3] rfl ?_
        exact b_L_law_444 C S _ ih _ _ _ h
      | 9, _ =>
        refine v_table C (off := 446) (tgt := 478) dL_law_32 (by decide) (by decide) rfl (by decide) ?_
        replace h : f_L_law_478 xs L (f_L_law_18 xs L n) x3 σ = some ((1 : Int32), σ') := h
        refine V.sub (lv' := [(0, .ref _), (1, .ref _), (2, .ref _), (3, .int _)]) [0, 1, 2, 3] rfl ?_
        exact b_L_law_478 C S _ ih _ _ _ h
      | 10, _ =>
        refine v_table C (off := 469) (tgt := 501) dL_law_32 (by decide) (by decide) rfl (by decide) ?_
        replace h : f_L_law_501 xs L (f_L_law_18 xs L n) x3 σ = some ((1 : Int32), σ') := h
        refine V.sub (lv' := [(0, .ref _), (1, .ref _), (2, .ref _), (3, .int _)]) [0, 1, 2, 3] rfl ?_
        exact b_L_law_501 C S _ ih _ _ _ h
      | 11, _ =>
        refine v_table C (off := 482) (tgt := 514) dL_law_32 (by decide) (by decide) rfl (by decide) ?_
        replace h : f_L_law_514 xs L (f_L_law_18 xs L n) x3 σ = some ((1 : Int32), σ') := h
        refine V.sub (lv' := [(0, .ref _), (1, .ref _), (2, .ref _), (3, .int _)]) [0, 1, 2, 3] rfl ?_
        exact b_L_law_514 C S _ ih _ _ _ h
      | 12, _ =>
        refine v_table C (off := 531) (tgt := 563) dL_law_32 (by decide) (by decide) rfl (by decide) ?_
        replace h : f_L_law_563 xs L (f_L_law_18 xs L n) x3 σ = some ((1 : Int32), σ') := h
        refine V.sub (lv' := [(0, .ref _), (1, .ref _), (2, .ref _), (3, .int _)]) [0, 1, 2, 3] rfl ?_
        exact b_L_law_563 C S _ ih _ _ _ h
      | 13, _ =>
        refine v_table C (off := 574) (tgt := 606) dL_law_32 (by decide) (by decide) rfl (by decide) ?_
        replace h : f_L_law_606 xs L (f_L_law_18 xs L n) x3 σ = some ((1 : Int32), σ') := h
        refine V.sub (lv' := [(0, .ref _), (1, .ref _), (2, .ref _), (3, .int _)]) [0, 1, 2, 3] rfl ?_
        exact b_L_law_606 C S _ ih _ _ _ h
      | 14, _ =>
        refine v_table C (off := 587) (tgt := 619) dL_law_32 (by decide) (by decide) rfl (by decide) ?_
        replace h : f_L_law_619 xs L (f_L_law_18 xs L n) x3 σ = some ((1 : Int32), σ') := h
        refine V.sub (lv' := [(0, .ref _), (1, .ref _), (2, .ref _), (3, .int _)]) [0, 1, 2, 3] rfl ?_
        exact b_L_law_619 C S _ ih _ _ _ h
      | 15, _ =>
        refine v_table C (off := 650) (tgt := 682) dL_law_32 (by decide) (by decide) rfl (by decide) ?_
        replace h : f_L_law_682 xs L (f_L_law_18 xs L n) x3 σ = some ((1 : Int32), σ') := h
        refine V.sub (lv' := [(0, .ref _), (1, .ref _), (2, .ref _), (3, .int _)]) [0, 1, 2, 3] rfl ?_
        exact b_L_law_682 C S _ ih _ _ _ h
      | 16, _ =>
        refine v_table C (off := 673) (tgt := 705) dL_law_32 (by decide) (by decide) rfl (by decide) ?_
        replace h : f_L_law_705 xs L (f_L_law_18 xs L n) x3 σ = some ((1 : Int32), σ') := h
        refine V.sub (lv' := [(0, .ref _), (1, .ref _), (2, .ref _), (3, .int _)]) [0, 1, 2, 3] rfl ?_
        exact b_L_law_705 C S _ ih _ _ _ h
      | 17, _ =>
        refine v_table C (off := 706) (tgt := 738) dL_law_32 (by decide) (by decide) rfl (by decide) ?_
        replace h : f_L_law_738 xs L (f_L_law_18 xs L n) x3 σ = some ((1 : Int32), σ') := h
        refine V.sub (lv' := [(0, .ref _), (1, .ref _), (2, .ref _), (3, .int _)]) [0, 1, 2, 3] rfl ?_
        exact b_L_law_738 C S _ ih _ _ _ h
      | 18, _ =>
        refine v_table C (off := 730) (tgt := 762) dL_law_32 (by decide) (by decide) rfl (by decide) ?_
        replace h : f_L_law_762 xs L (f_L_law_18 xs L n) x3 σ = some ((1 : Int32), σ') := h
        refine V.sub (lv' := [(0, .ref _), (1, .ref _), (2, .ref _), (3, .int _)]) [0, 1, 2, 3] rfl ?_
        exact b_L_law_762 C S _ ih _ _ _ h
      | 19, _ =>
        refine v_table C (off := 763) (tgt := 795) dL_law_32 (by decide) (by decide) rfl (by decide) ?_
        replace h : f_L_law_795 xs L (f_L_law_18 xs L n) x3 σ = some ((1 : Int32), σ') := h
        refine V.sub (lv' := [(0, .ref _), (1, .ref _), (2, .ref _), (3, .int _)]) [0, 1, 2, 3] rfl ?_
        exact b_L_law_795 C S _ ih _ _ _ h
      | 20, _ =>
        refine v_table C (off := 796) (tgt := 828) dL_law_32 (by decide) (by decide) rfl (by decide) ?_
        replace h : f_L_law_828 xs L (f_L_law_18 xs L n) x3 σ = some ((1 : Int32), σ') := h
        refine V.sub (lv' := [(0, .ref _), (1, .ref _), (2, .ref _), (3, .int _)]) [0, 1, 2, 3] rfl ?_
        exact b_L_law_828 C S _ ih _ _ _ h
      | 21, _ =>
        refine v_table C (off := 819) (tgt := 851) dL_law_32 (by decide) (by decide) rfl (by decide) ?_
        replace h : f_L_law_851 xs L (f_L_law_18 xs L n) x3 σ = some ((1 : Int32), σ') := h
        refine V.sub (lv' := [(0, .ref _), (1, .ref _), (2, .ref _), (3, .int _)]) [0, 1, 2, 3] rfl ?_
        exact b_L_law_851 C S _ ih _ _ _ h
      | 22, _ =>
        refine v_table C (off := 862) (tgt := 894) dL_law_32 (by decide) (by decide) rfl (by decide) ?_
        replace h : f_L_law_894 xs L (f_L_law_18 xs L n) x3 σ = some ((1 : Int32), σ') := h
        refine V.sub (lv' := [(0, .ref _), (1, .ref _), (2, .ref _), (3, .int _)]) [0, 1, 2, 3] rfl ?_
        exact b_L_law_894 C S _ ih _ _ _ h
      | 23, _ =>
        refine v_table C (off := 911) (tgt := 943) dL_law_32 (by decide) (by decide) rfl (by decide) ?_
        replace h : f_L_law_943 xs L (f_L_law_18 xs L n) x3 σ = some ((1 : Int32), σ') := h
        refine V.sub (lv' := [(0, .ref _), (1, .ref _), (2, .ref _), (3, .int _)]) [0, 1, 2, 3] rfl ?_
        exact b_L_law_943 C S _ ih _ _ _ h
      | 24, _ =>
        refine v_table C (off := 954) (tgt := 986) dL_law_32 (by decide) (by decide) rfl (by decide) ?_
        replace h : f_L_law_986 xs L (f_L_law_18 xs L n) x3 σ = some ((1 : Int32), σ') := h
        refine V.sub (lv' := [(0, .ref _), (1, .ref _), (2, .ref _), (3, .int _)]) [0, 1, 2, 3] rfl ?_
        exact b_L_law_986 C S _ ih _ _ _ h
      | 25, _ =>
        refine v_table C (off := 987) (tgt := 1019) dL_law_32 (by decide) (by decide) rfl (by decide) ?_
        replace h : f_L_law_1019 xs L (f_L_law_18 xs L n) x3 σ = some ((1 : Int32), σ') := h
        refine V.sub (lv' := [(0, .ref _), (1, .ref _), (2, .ref _), (3, .int _)]) [0, 1, 2, 3] rfl ?_
        exact b_L_law_1019 C S _ ih _ _ _ h
      | 26, _ =>
        refine v_table C (off := 1036) (tgt := 1068) dL_law_32 (by decide) (by decide) rfl (by decide) ?_
        replace h : f_L_law_1068 xs L (f_L_law_18 xs L n) x3 σ = some ((1 : Int32), σ') := h
        refine V.sub (lv' := [(0, .ref _), (1, .ref _), (2, .ref _), (3, .int _)]) [0, 1, 2, 3] rfl ?_
        exact b_L_law_1068 C S _ ih _ _ _ h
      | 27, _ =>
        refine v_table C (off := 1059) (tgt := 1091) dL_law_32 (by decide) (by decide) rfl (by decide) ?_
        replace h : f_L_law_1091 xs L (f_L_law_18 xs L n) x3 σ = some ((1 : Int32), σ') := h
        refine V.sub (lv' := [(0, .ref _), (1, .ref _), (2, .ref _), (3, .int _)]) [0, 1, 2, 3] rfl ?_
        exact b_L_law_1091 C S _ ih _ _ _ h
      | 28, _ =>
        refine v_table C (off := 1082) (tgt := 1114) dL_law_32 (by decide) (by decide) rfl (by decide) ?_
        replace h : f_L_law_1114 xs L (f_L_law_18 xs L n) x3 σ = some ((1 : Int32), σ') := h
        refine V.sub (lv' := [(0, .ref _), (1, .ref _), (2, .ref _), (3, .int _)]) [0, 1, 2, 3] rfl ?_
        exact b_L_law_1114 C S _ ih _ _ _ h
      | 29, _ =>
        refine v_table C (off := 1095) (tgt := 1127) dL_law_32 (by decide) (by decide) rfl (by decide) ?_
        replace h : f_L_law_1127 xs L (f_L_law_18 xs L n) x3 σ = some ((1 : Int32), σ') := h
        refine V.sub (lv' := [(0, .ref _), (1, .ref _), (2, .ref _), (3, .int _)]) [0, 1, 2, 3] rfl ?_
        exact b_L_law_1127 C S _ ih _ _ _ h
      | 30, _ =>
        refine v_table C (off := 1108) (tgt := 1140) dL_law_32 (by decide) (by decide) rfl (by decide) ?_
        replace h : f_L_law_1140 xs L (f_L_law_18 xs L n) x3 σ = some ((1 : Int32), σ') := h
        refine V.sub (lv' := [(0, .ref _), (1, .ref _), (2, .ref _), (3, .int _)]) [0, 1, 2, 3] rfl ?_
        exact b_L_law_1140 C S _ ih _ _ _ h
      | 31, _ =>
        refine v_table C (off := 1121) (tgt := 1153) dL_law_32 (by decide) (by decide) rfl (by decide) ?_
        replace h : f_L_law_1153 xs L (f_L_law_18 xs L n) x3 σ = some ((1 : Int32), σ') := h
        refine V.sub (lv' := [(0, .ref _), (1, .ref _), (2, .ref _), (3, .int _)]) [0, 1, 2, 3] rfl ?_
        exact b_L_law_1153 C S _ ih _ _ _ h
      | j + 32, hj => exact absurd hj (by omega)
