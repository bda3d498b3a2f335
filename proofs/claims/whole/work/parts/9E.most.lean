/-! ===== HALF 2: most, lack, bar and barred ===== -/
theorem cnt_sm (f : Nat → Bool) : ∀ n, cnt f n = sm (fun i => c1 (f i = true)) n
  | 0 => rfl
  | n + 1 => by
    have e1 : cnt f (n + 1) = cnt f n + (if f n = true then 1 else 0) := rfl
    have e2 : sm (fun i => c1 (f i = true)) (n + 1) = sm (fun i => c1 (f i = true)) n + c1 (f n = true) := rfl
    rw [e1, e2, cnt_sm f n]
    by_cases q : f n = true
    · rw [if_pos q, c1_t q]
    · rw [if_neg q, c1_f q]
/-- as many LOZENGES, in the class and in the reference -/
theorem most_same {σ τ : St} {w h : Nat} {U D : Nat → Bool} {mu : Nat → Option Nat} {S : Nat → Prop} (har : w * h ≤ 64) (hJ : JS σ w h U D) (hL : LMs τ w h U D (w * h) mu S) : pc ((gl σ 13 1 ||| gl σ 13 2) ||| gl σ 13 3) = cnt (fun u => (mu u).isSome) (w * h) := by
  obtain ⟨K, a1, a2, a3, -⟩ := hJ
  have z2 : ZC w U D (w * h) mu (fun u => S u ∧ u < w * h ∧ U u = true) := ⟨fun u q => q.2, fun u q1 q2 q3 => ⟨hL.2.2.2.2 u q1 q2 q3, q1, q2⟩, fun u d q1 q2 => by
    obtain ⟨u', p1, p2⟩ := hL.2.2.2.1 u d q1.1 q2
    have ha := hL.2.1.1 u' d p1
    exact ⟨u', p1, p2, ha.1, ha.2.1⟩⟩
  have b1 := (bare_le a2.2 hL.2.1 a3).1
  have b2 := (bare_le hL.2.1 a2.2 z2).1
  have j1 := joined_eq a2.2
  have j2 := joined_eq hL.2.1
  have e1 : pc ((gl σ 13 1 ||| gl σ 13 2) ||| gl σ 13 3) = sm (fun u => c1 (mk w K u ≠ none)) (w * h) := by
    rw [pc_cut har (fun i hi hn => by rw [tb_joined a1 a2 hi]; exact decide_eq_false (fun z => z (KW_64 a2 hn))), cnt_sm]
    refine sm_congr (fun u hu => c1_congr ?_)
    rw [tb_joined a1 a2 (by omega), decide_eq_true_iff]
    exact not_congr (mk_none (a2.1 u).1).symm
  have e2 : cnt (fun u => (mu u).isSome) (w * h) = sm (fun u => c1 (mu u ≠ none)) (w * h) := by
    rw [cnt_sm]
    refine sm_congr (fun u hu => c1_congr ?_)
    cases mu u with
    | none => exact ⟨fun q => (by cases q), fun q => absurd rfl q⟩
    | some d => exact ⟨fun _ => (fun z => by cases z), fun _ => rfl⟩
  rw [e1, e2]
  omega
theorem s_joined (σ : St) : f_X0_joined σ = some (nI (pc ((gl σ 13 1 ||| gl σ 13 2) ||| gl σ 13 3)), σ) := by
  unfold f_X0_joined
  rw [bd_at (s_bitCount _ σ)]
theorem P4_scr {p : Nat} (hp : P4044 p) : SCR p := by
  unfold P4044 at hp
  unfold SCR
  omega
theorem m_most {σ : St} {w h : Nat} {U D : Nat → Bool} {wt : Nat → Nat → Int} (h0 : RZ σ w h U D wt) : Both f_X5_most f_X6_most σ := by
  have har := area_le h0.1.1.2.1 h0.1.1.2.2.2.1
  obtain ⟨σ1, e1, e2, e3⟩ := s_makeJoining h0
  obtain ⟨σ2, mu, S, d1, d2, d3⟩ := s_layMost e2.1.2.2.1
  have g2 := MG4 e2.1.2.2.1 d3
  unfold Both f_X5_most f_X6_most f_X6_mostNow
  rw [bd_at e1, bd_at (s_joined σ1), most_same har e3 d2]
  refine ⟨_, σ1, σ2, rfl, ?_, (e2.scr' d3 (fun p hp => P4_scr hp)).rel⟩
  have hm := s_mostNow4 g2 d2.1 d2.2.1 FU 0 (Nat.zero_le _) (by unfold FU; omega)
  have hm' : f_X6_mostNow_4 FU (0 : Int32) (0 : Int32) σ2 = some (nI (cnt (fun u => (mu u).isSome) (w * h)), σ2) := hm
  rw [bd_at d1, bd_at hm']
/-- how many UP, or DOWN, of the ground, in the reference -/
theorem s_count4 {σ : St} {w h : Nat} {U D : Nat → Bool} (g : MG σ w h U D) (up : Bool) {F : Nat → Bool} (hF : F = if up = true then U else D) : ∀ (n c : Nat), c ≤ w * h → w * h - c < n → f_X6_count_4 n (bI up) (nI (cnt F c)) (nI c) σ = some (nI (cnt F (w * h)), σ) := by
  have har := area_le g.2.1 g.2.2.2.1
  intro n
  induction n with
  | zero => intro c h1 h2; omega
  | succ n ih =>
    intro c h1 h2
    rw [f_X6_count_4, bd_at (s_cells g)]
    by_cases hc : w * h ≤ c
    · have e : c = w * h := by omega
      rw [if_pos (nI_le hc (by omega)), e]
    · rw [if_neg (nI_ge (by omega) (by omega))]
      have key := ih (c + 1) (by omega) (by omega)
      have hs1 : cnt F (c + 1) = cnt F c + (if F c = true then 1 else 0) := rfl
      rw [hs1] at key
      have fin : (if bI (F c) = 0 then f_X6_count_39 (f_X6_count_4 n) (bI up) (nI c) (nI (cnt F c)) (0 : Int32) σ else f_X6_count_39 (f_X6_count_4 n) (bI up) (nI c) (nI (cnt F c)) (1 : Int32) σ) = some (nI (cnt F (w * h)), σ) := by
        unfold f_X6_count_39
        cases hm : F c with
        | false =>
          rw [if_pos bI_f, nI_1, show nI (cnt F c) + 0 = nI (cnt F c + 0) from nI_add _ 0]
          rw [hm, if_neg (by decide)] at key
          exact key
        | true =>
          rw [if_neg bIt, nI_1, nI_1]
          rw [hm, if_pos rfl] at key
          exact key
      have hg := g.2.2.2.2.2.2 c (by omega)
      unfold f_X6_count_29
      cases up with
      | false =>
        rw [if_pos bI_f, show (2 : Int32) * nI c + 1 = nI (2 * c + 1) from by rw [show (2 : Int32) = nI 2 from rfl, nI_mul, nI_1], rdI_at _ _ (show 2 * c + 1 < len 27 by show _ < 128; omega) (by decide), hg.2]
        rw [if_neg (by decide)] at hF
        rw [hF] at fin ⊢
        exact fin
      | true =>
        rw [if_neg bIt, show (2 : Int32) * nI c + 0 = nI (2 * c) from by rw [show (2 : Int32) = nI 2 from rfl, nI_mul]; exact nI_add _ 0, rdI_at _ _ (show 2 * c < len 27 by show _ < 128; omega) (by decide), hg.1]
        rw [if_pos rfl] at hF
        rw [hF] at fin ⊢
        exact fin
theorem s_countU {σ : St} {w h : Nat} {U D : Nat → Bool} (g : MG σ w h U D) : f_X6_count (1 : Int32) σ = some (nI (cnt U (w * h)), σ) := s_count4 g true rfl FU 0 (Nat.zero_le _) (by have := area_le g.2.1 g.2.2.2.1; unfold FU; omega)
theorem s_countD {σ : St} {w h : Nat} {U D : Nat → Bool} (g : MG σ w h U D) : f_X6_count (0 : Int32) σ = some (nI (cnt D (w * h)), σ) := s_count4 g false rfl FU 0 (Nat.zero_le _) (by have := area_le g.2.1 g.2.2.2.1; unfold FU; omega)
theorem pc_UD {σ : St} {w h : Nat} {U D : Nat → Bool} (g : CG σ w h U D) (hB : ZB U D (w * h)) : pc (gl σ 1 3) = cnt U (w * h) ∧ pc (gl σ 1 4) = cnt D (w * h) := by
  have har := area_le g.2.1 g.2.2.2.1
  refine ⟨?_, ?_⟩
  · rw [pc_cut har (fun i hi hn => by rw [g.2.2.2.2.2.2.2.1 i hi]; exact (hB i hn).1)]
    exact cnt_congr (fun i hi => g.2.2.2.2.2.2.2.1 i (by omega))
  · rw [pc_cut har (fun i hi hn => by rw [g.2.2.2.2.2.2.2.2.1 i hi]; exact (hB i hn).2)]
    exact cnt_congr (fun i hi => g.2.2.2.2.2.2.2.2.1 i (by omega))
theorem m_lack {σ : St} {w h : Nat} {U D : Nat → Bool} {wt : Nat → Nat → Int} (h0 : RZ σ w h U D wt) : Both f_X5_lack f_X6_lack σ := by
  have har := area_le h0.1.1.2.1 h0.1.1.2.2.2.1
  obtain ⟨σ1, e1, e2, e3⟩ := s_makeJoining h0
  obtain ⟨σ2, mu, S, d1, d2, d3⟩ := s_layMost e2.1.2.2.1
  have g2 := MG4 e2.1.2.2.1 d3
  have hp := pc_UD e2.1.1 e2.1.2.2.2.1
  unfold Both f_X5_lack f_X6_lack f_X6_mostNow
  rw [bd_at e1, bd_at (s_bitCount _ σ1), bd_at (s_bitCount _ σ1), bd_at (s_joined σ1), most_same har e3 d2, hp.1, hp.2]
  refine ⟨_, σ1, σ2, rfl, ?_, (e2.scr' d3 (fun p hp => P4_scr hp)).rel⟩
  have hm := s_mostNow4 g2 d2.1 d2.2.1 FU 0 (Nat.zero_le _) (by unfold FU; omega)
  have hm' : f_X6_mostNow_4 FU (0 : Int32) (0 : Int32) σ2 = some (nI (cnt (fun u => (mu u).isSome) (w * h)), σ2) := hm
  rw [bd_at d1, bd_at (s_countU g2), bd_at (s_countD g2), bd_at hm']
/-- the same BAR -/
theorem bar_same {σ τ : St} {w h : Nat} {U D : Nat → Bool} {mt : Nat → Bool} (hJ : JS σ w h U D) (hB : BR τ w h U D mt) : (fun u => tb (gl σ 3 2) u) = mt ∧ (∀ u, w * h ≤ u → mt u = false) ∧ ∀ u, u < 64 → gi τ 42 u = bI (mt u) := by
  obtain ⟨K, a1, a2, a3, a4⟩ := hJ
  obtain ⟨mu, b1, b2, b3, b4⟩ := hB
  have hs := (match_same a2.2 b1 a3 b2 a4 b3).2
  refine ⟨funext (fun u => Bool.eq_iff_iff.mpr (hs u)), fun u hu => ?_, b4⟩
  cases q : mt u with
  | false => rfl
  | true => have := (b2.1 u q).1; omega
theorem pc_mt {σ : St} {w h : Nat} {mt : Nat → Bool} (har : w * h ≤ 64) (h1 : (fun u => tb (gl σ 3 2) u) = mt) (h2 : ∀ u, w * h ≤ u → mt u = false) : pc (gl σ 3 2) = cnt mt (w * h) := by
  have ht : ∀ u, tb (gl σ 3 2) u = mt u := fun u => congrFun h1 u
  rw [pc_cut har (fun i _ hn => by rw [ht]; exact h2 i hn)]
  exact cnt_congr (fun i _ => ht i)
theorem m_bar {σ : St} {w h : Nat} {U D : Nat → Bool} {wt : Nat → Nat → Int} (h0 : RZ σ w h U D wt) : Both f_X5_bar f_X6_bar σ := by
  have har := area_le h0.1.1.2.1 h0.1.1.2.2.2.1
  obtain ⟨σ1, e1, e2, e3⟩ := s_makeJoining h0
  obtain ⟨σ2, mt, d1, d2, d3⟩ := s_layBar e2.1.2.2.1
  obtain ⟨c1', c2, c3⟩ := bar_same e3 d2
  have hp := pc_mt har c1' c2
  have hle := cnt_le mt (w * h)
  have hz : nI (cnt mt (w * h)) = 0 ↔ cnt mt (w * h) = 0 := nI_eq (b := 0) (by omega) (by decide)
  unfold Both f_X5_bar f_X5_bar_31 f_X6_bar f_X6_bar_15
  rw [bd_at e1, bd_at (s_bitCount _ σ1), hp]
  by_cases q : gl σ1 3 2 = 0
  · have hc : cnt mt (w * h) = 0 := by
      rw [← hp, q]
      exact cnt_false (fun i _ => tb_0 i)
    rw [if_pos q]
    refine ⟨_, σ1, σ2, rfl, ?_, (e2.scr' d3 (fun p hp => P4_scr hp)).rel⟩
    rw [bd_at d1, if_pos (hz.mpr hc)]
  · have hc := pc_pos q
    rw [if_neg q]
    refine ⟨_, σ1, σ2, rfl, ?_, (e2.scr' d3 (fun p hp => P4_scr hp)).rel⟩
    rw [bd_at d1, if_neg (fun z => by have := hz.mp z; omega)]
/-- the UP of the BAR with a's number -/
def BRD (mt : Nat → Bool) (N : Nat) (a r : Int32) : Prop := (∃ c, c < N ∧ mt c = true ∧ nI (cnt mt c) = a ∧ r = nI c) ∨ ((∀ c, c < N → mt c = true → nI (cnt mt c) ≠ a) ∧ r = -900009)
theorem cnt_mono (f : Nat → Bool) {a b : Nat} (h : a ≤ b) : cnt f a ≤ cnt f b := by
  obtain ⟨d, rfl⟩ : ∃ d, b = a + d := ⟨b - a, by omega⟩
  rw [cnt_add]
  omega
theorem cnt_lt {f : Nat → Bool} {a b : Nat} (h : a < b) (hf : f a = true) : cnt f a < cnt f b := by
  have h1 : cnt f (a + 1) = cnt f a + (if f a = true then 1 else 0) := rfl
  rw [if_pos hf] at h1
  have := cnt_mono f (show a + 1 ≤ b by omega)
  omega
theorem BRD_fun {mt : Nat → Bool} {N : Nat} (hN : N ≤ 64) {a r r' : Int32} (h : BRD mt N a r) (h' : BRD mt N a r') : r = r' := by
  rcases h with ⟨c, p1, p2, p3, p4⟩ | ⟨p1, p2⟩
  · rcases h' with ⟨c', q1, q2, q3, q4⟩ | ⟨q1, q2⟩
    · have l1 := cnt_le mt c
      have l2 := cnt_le mt c'
      have e : cnt mt c = cnt mt c' := (nI_eq (by omega) (by omega)).mp (p3.trans q3.symm)
      rcases Nat.lt_trichotomy c c' with z | z | z
      · have := cnt_lt z p2; omega
      · rw [p4, q4, z]
      · have := cnt_lt z q2; omega
    · exact absurd p3 (q1 c p1 p2)
  · rcases h' with ⟨c', q1, q2, q3, q4⟩ | ⟨q1, q2⟩
    · exact absurd q3 (p1 c' q1 q2)
    · rw [p2, q2]
theorem s_barred5 {σ : St} {w h : Nat} {U D : Nat → Bool} (g : CG σ w h U D) {mt : Nat → Bool} (hmt : (fun u => tb (gl σ 3 2) u) = mt) (a : Int32) : ∀ (n c : Nat), c ≤ w * h → w * h - c < n → (∀ c', c' < c → mt c' = true → nI (cnt mt c') ≠ a) → ∃ r, f_X5_barred_8 n a (nI (cnt mt c)) (nI c) σ = some (r, σ) ∧ BRD mt (w * h) a r := by
  have har := area_le g.2.1 g.2.2.2.1
  have ht : ∀ u, tb (gl σ 3 2) u = mt u := fun u => congrFun hmt u
  intro n
  induction n with
  | zero => intro c h1 h2; omega
  | succ n ih =>
    intro c h1 h2 hno
    rw [f_X5_barred_8, g.2.2.2.2.2.2.1]
    by_cases hc : w * h ≤ c
    · have e : c = w * h := by omega
      rw [if_pos (nI_le hc (by omega))]
      exact ⟨_, rfl, Or.inr ⟨fun c' hc' => hno c' (by omega), rfl⟩⟩
    · rw [if_neg (nI_ge (by omega) (by omega))]
      have key := ih (c + 1) (by omega) (by omega)
      have hs1 : cnt mt (c + 1) = cnt mt c + (if mt c = true then 1 else 0) := rfl
      rw [hs1] at key
      unfold f_X5_barred_45
      cases hm : mt c with
      | false =>
        rw [if_pos ((tb_read _ (by omega)).mpr ((ht c).trans hm)), nI_1]
        rw [hm, if_neg (by decide)] at key
        refine key (fun c' hc' q => ?_)
        by_cases e : c' = c
        · rw [e, hm] at q; cases q
        · exact hno c' (by omega) q
      | true =>
        rw [if_neg (fun z => by have := (tb_read _ (by omega)).mp z; rw [ht, hm] at this; cases this)]
        by_cases q : nI (cnt mt c) = a
        · rw [if_pos q]
          exact ⟨_, rfl, Or.inl ⟨c, by omega, hm, q, rfl⟩⟩
        · rw [if_neg q, nI_1, nI_1]
          rw [hm, if_pos rfl] at key
          refine key (fun c' hc' q' => ?_)
          by_cases e : c' = c
          · rw [e]; exact q
          · exact hno c' (by omega) q'
theorem i32_back (x y : Int32) : x + -1 + (y + 1) = x + y := by
  rw [Int32.add_comm y 1, Int32.add_assoc x (-1) (1 + y), ← Int32.add_assoc (-1) 1 y, show (-1 : Int32) + 1 = 0 from rfl, Int32.zero_add]
theorem i32_zero {x y a : Int32} (h : x + y = a) : x = 0 ↔ y = a := by
  refine ⟨fun q => ?_, fun q => ?_⟩
  · rw [← h, q, Int32.zero_add]
  · have h1 : x + y - y = y - y := by rw [h, q]
    rw [Int32.add_sub_cancel, Int32.sub_self] at h1
    exact h1
theorem s_barred6 {σ : St} {w h : Nat} {U D : Nat → Bool} (g : MG σ w h U D) {mt : Nat → Bool} (h42 : ∀ u, u < 64 → gi σ 42 u = bI (mt u)) {a v : Int32} (ha : ¬ a < 0) (hv : ¬ v ≤ 0) : ∀ (n c : Nat) (x : Int32), c ≤ w * h → w * h - c < n → x + nI (cnt mt c) = a → (∀ c', c' < c → mt c' = true → nI (cnt mt c') ≠ a) → ∃ r, f_X6_barred_10 n a v x (nI c) σ = some (r, σ) ∧ BRD mt (w * h) a r := by
  have har := area_le g.2.1 g.2.2.2.1
  intro n
  induction n with
  | zero => intro c x h1 h2; omega
  | succ n ih =>
    intro c x h1 h2 hx hno
    rw [f_X6_barred_10, bd_at (s_cells g)]
    unfold f_X6_barred_53
    by_cases hc : w * h ≤ c
    · have e : c = w * h := by omega
      rw [if_pos (nI_le hc (by omega))]
      exact ⟨_, rfl, Or.inr ⟨fun c' hc' => hno c' (by omega), rfl⟩⟩
    · rw [if_neg (nI_ge (by omega) (by omega)), if_neg hv, if_neg ha, rdI_at _ _ (show c < len 42 by show _ < 64; omega) (by decide), h42 c (by omega)]
      have key := ih (c + 1)
      have hs1 : cnt mt (c + 1) = cnt mt c + (if mt c = true then 1 else 0) := rfl
      rw [hs1] at key
      unfold f_X6_barred_47
      cases hm : mt c with
      | false =>
        rw [if_pos bI_f, nI_1]
        rw [hm, if_neg (by decide)] at key
        refine key x (by omega) (by omega) hx (fun c' hc' q => ?_)
        by_cases e : c' = c
        · rw [e, hm] at q; cases q
        · exact hno c' (by omega) q
      | true =>
        rw [if_neg bIt]
        by_cases q : x = 0
        · rw [if_pos q]
          exact ⟨_, rfl, Or.inl ⟨c, by omega, hm, (i32_zero hx).mp q, rfl⟩⟩
        · rw [if_neg q, nI_1]
          rw [hm, if_pos rfl] at key
          refine key (x + -1) (by omega) (by omega) (by rw [← nI_1, i32_back]; exact hx) (fun c' hc' q' => ?_)
          by_cases e : c' = c
          · rw [e]; exact fun z => q ((i32_zero hx).mpr z)
          · exact hno c' (by omega) q'
theorem m_barred {σ : St} {w h : Nat} {U D : Nat → Bool} {wt : Nat → Nat → Int} (h0 : RZ σ w h U D wt) (a : Int32) : Both (f_X5_barred a) (f_X6_barred a) σ := by
  have har := area_le h0.1.1.2.1 h0.1.1.2.2.2.1
  have h1 := area_1 h0.1.1.1 h0.1.1.2.2.1
  obtain ⟨σ1, e1, e2, e3⟩ := s_makeJoining h0
  obtain ⟨σ2, mt, d1, d2, d3⟩ := s_layBar e2.1.2.2.1
  obtain ⟨c1', c2, c3⟩ := bar_same e3 d2
  have g2 := MG4 e2.1.2.2.1 d3
  have hle := cnt_le mt (w * h)
  have hz : nI (cnt mt (w * h)) = 0 ↔ cnt mt (w * h) = 0 := nI_eq (b := 0) (by omega) (by decide)
  obtain ⟨r, r1, r2⟩ := s_barred5 e2.1.1 c1' a FU 0 (Nat.zero_le _) (by unfold FU; omega) (fun c' hc' => by omega)
  have r1' : f_X5_barred_8 FU a (0 : Int32) (0 : Int32) σ1 = some (r, σ1) := r1
  unfold Both f_X5_barred f_X6_barred
  rw [bd_at e1]
  refine ⟨r, σ1, σ2, r1', ?_, (e2.scr' d3 (fun p hp => P4_scr hp)).rel⟩
  rw [bd_at d1]
  have stop : BRD mt (w * h) a (-900009) → (nI (cnt mt (w * h)) ≤ 0 ∨ (¬ nI (cnt mt (w * h)) ≤ 0 ∧ a < 0)) → f_X6_barred_10 FU a (nI (cnt mt (w * h))) a (0 : Int32) σ2 = some (r, σ2) := by
    intro hb hs
    rw [BRD_fun har r2 hb, show FU = (FU - 1) + 1 from rfl, f_X6_barred_10, bd_at (s_cells g2), if_neg (show ¬ nI (w * h) ≤ (0 : Int32) from nI_ge (a := 0) (by omega) (by omega))]
    unfold f_X6_barred_53
    rcases hs with q | ⟨q1, q2⟩
    · rw [if_pos q]
    · rw [if_neg q1, if_pos q2]
  by_cases hv : nI (cnt mt (w * h)) ≤ 0
  · have hc : cnt mt (w * h) = 0 := by
      apply Classical.byContradiction
      intro q
      exact nI_ge (a := 0) (b := cnt mt (w * h)) (by omega) (by omega) hv
    exact stop (Or.inr ⟨fun c hc' q => absurd (cnt_pos hc' q) (by omega), rfl⟩) (Or.inl hv)
  · by_cases ha : a < 0
    · refine stop (Or.inr ⟨fun c hc' q z => ?_, rfl⟩) (Or.inr ⟨hv, ha⟩)
      rw [← z] at ha
      exact nI_pos (by have := cnt_le mt c; omega) ha
    · obtain ⟨r', p1, p2⟩ := s_barred6 g2 c3 ha hv FU 0 a (Nat.zero_le _) (by unfold FU; omega) (by show a + nI 0 = a; exact Int32.add_zero a) (fun c' hc' => by omega)
      rw [BRD_fun har r2 p2]
      exact p1
