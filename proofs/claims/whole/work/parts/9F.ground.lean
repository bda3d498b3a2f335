/-! ===== HALF 2: ground, set, isIn, ups, size, weight ===== -/
theorem fresh {τ : St} {w h : Nat} {U D : Nat → Bool} {wt : Nat → Nat → Int} (c : CG τ w h U D) (i : CI6 τ w h U D) (m : MG τ w h U D) (z : ZB U D (w * h)) (t : WT τ wt) (s5 : ∀ s, s < 4 → gi τ (5 + s) 0 = 0) (s29 : ∀ s, s < 4 → gi τ 29 s = 0) (k : gi τ 12 0 = 0) (a : gi τ 0 8 = 0) (b : gi τ 0 9 = 0) : RZ τ w h U D wt := ⟨⟨c, i, m, z, t, fun s hs => Or.inl ⟨s5 s hs, s29 s hs⟩, Or.inl k⟩, Or.inl a, Or.inl b⟩
def PF : Nat → Prop := fun p => p = 0 ∨ (5 ≤ p ∧ p ≤ 8) ∨ p = 12
theorem clrL_x {P : Nat → Prop} {σ τ : St} {p : Nat} (h : eqx P σ τ) (hp : P p) : eqx P σ (clrL τ p) := eqx.sl (eqx.sl (eqx.sl (eqx.si h hp) hp) hp) hp
theorem clrG_x (σ : St) : eqx PF σ (clrG σ) := eqx.si (eqx.si (clrL_x (clrL_x (clrL_x (clrL_x (clrL_x eqx.rf (by unfold PF; omega)) (by unfold PF; omega)) (by unfold PF; omega)) (by unfold PF; omega)) (by unfold PF; omega)) (by unfold PF; omega)) (by unfold PF; omega)
theorem clrG_5 (σ : St) : ∀ s, s < 4 → gi (clrG σ) (5 + s) 0 = 0 := fun s hs => by
  rcases (show s = 0 ∨ s = 1 ∨ s = 2 ∨ s = 3 by omega) with e | e | e | e <;> subst e <;> rfl
theorem clrG_12 (σ : St) : gi (clrG σ) 12 0 = 0 ∧ gi (clrG σ) 0 8 = 0 ∧ gi (clrG σ) 0 9 = 0 := ⟨rfl, rfl, rfl⟩
/-! the whole ground -/
theorem WT_zero {σ : St} (h1 : ∀ j, j < 192 → gi σ 15 j = 0) (h2 : ∀ j, j < 192 → gi σ 28 j = 0) : WT σ (fun _ _ => 0) := ⟨fun _ _ => ⟨(by decide : (-99 : Int) ≤ 0), (by decide : (0 : Int) ≤ 99)⟩, fun _ => rfl, fun c hc k hk => ⟨h1 _ (by omega), h2 _ (by omega)⟩⟩
/-- after the class's half -/
def Half (τ : St) (w h : Nat) (U D : Nat → Bool) : Prop := CG τ w h U D ∧ CI6 τ w h U D ∧ (∀ j, j < 192 → gi τ 15 j = 0) ∧ (∀ s, s < 4 → gi τ (5 + s) 0 = 0) ∧ gi τ 12 0 = 0 ∧ gi τ 0 8 = 0 ∧ gi τ 0 9 = 0
theorem half_of {σ : St} {w h : Nat} {U D : Nat → Bool} (c : CG σ w h U D) (i : CI6 σ w h U D) : Half (clrG (fill σ 15 0 192 (fun _ => 0))) w h U D := by
  have h1 : eqx (fun p => p = 15) σ (fill σ 15 0 192 (fun _ => 0)) := fun p hp k => ⟨by rw [gi_fill, if_neg (fun z => hp z.1)], rfl⟩
  have hx : eqx (fun p => p = 15 ∨ PF p) σ (clrG (fill σ 15 0 192 (fun _ => 0))) := eqx.tr (h1.mono (fun p hp => Or.inl hp)) ((clrG_x _).mono (fun p hp => Or.inr hp))
  refine ⟨c.keep hx (by unfold PF; omega), i.keep hx (by unfold PF; omega), fun j hj => ?_, clrG_5 _, (clrG_12 _).1, (clrG_12 _).2.1, (clrG_12 _).2.2⟩
  rw [(clrG_x _ 15 (by unfold PF; omega) j).1, gi_fill, if_pos ⟨rfl, by omega, hj⟩]
theorem half_RZ {τ υ : St} {w h : Nat} {U D : Nat → Bool} (hh : Half τ w h U D) (he : eqx (fun p => 26 ≤ p) τ υ) (m : MG υ w h U D) (z : ZB U D (w * h)) (h28 : ∀ j, j < 192 → gi υ 28 j = 0) (h29 : ∀ s, s < 4 → gi υ 29 s = 0) : RZ υ w h U D (fun _ _ => 0) := by
  obtain ⟨a1, a2, a3, a4, a5, a6, a7⟩ := hh
  exact fresh (a1.keep he (by omega)) (a2.keep he (by omega)) m z (WT_zero (fun j hj => by rw [(he 15 (by omega) j).1]; exact a3 j hj) h28) (fun s hs => by rw [(he (5 + s) (by omega) 0).1]; exact a4 s hs) h29 (by rw [(he 12 (by omega) 0).1]; exact a5) (by rw [(he 0 (by omega) 8).1]; exact a6) (by rw [(he 0 (by omega) 9).1]; exact a7)
theorem layS_x (σ : St) (w h : Nat) : eqx (fun p => 26 ≤ p) σ (layS σ w h) := fun p hp k => by
  have hp' : p < 26 := by omega
  refine ⟨?_, rfl⟩
  unfold layS
  rw [gi_fill, if_neg (by omega), gi_fill, if_neg (by omega), gi_fill, if_neg (by omega), gi_si_ne _ _ _ _ (by omega), gi_si_ne _ _ _ _ (by omega)]
theorem layS_26 (σ : St) (w h : Nat) : gi (layS σ w h) 26 0 = nI w ∧ gi (layS σ w h) 26 1 = nI h := by
  unfold layS
  refine ⟨?_, ?_⟩
  · rw [gi_fill, if_neg (by omega), gi_fill, if_neg (by omega), gi_fill, if_neg (by omega), gi_si_ne _ _ _ _ (by omega), gi_si_same]
  · rw [gi_fill, if_neg (by omega), gi_fill, if_neg (by omega), gi_fill, if_neg (by omega), gi_si_same]
theorem layS_27 (σ : St) (w h : Nat) {t : Nat} (ht : t < 128) : gi (layS σ w h) 27 t = inF (w * h) t := by
  unfold layS
  rw [gi_fill, if_neg (by omega), gi_fill, if_neg (by omega), gi_fill, if_pos (by omega)]
theorem layS_28 (σ : St) (w h : Nat) {t : Nat} (ht : t < 192) : gi (layS σ w h) 28 t = 0 := by
  unfold layS
  rw [gi_fill, if_neg (by omega), gi_fill, if_pos (by omega)]
theorem layS_29 (σ : St) (w h : Nat) {t : Nat} (ht : t < 4) : gi (layS σ w h) 29 t = 0 := by
  unfold layS
  rw [gi_fill, if_pos (by omega)]
def allB (N c : Nat) : Bool := decide (c < N)
/-- shape, as what it leaves -/
theorem s_shapeAll {w h : Nat} (hw0 : 1 ≤ w) (hw8 : w ≤ 8) (hh0 : 1 ≤ h) (hh8 : h ≤ 8) (σ : St) : ∃ σ', f_X1_shape (nI w) (nI h) σ = some ((), σ') ∧ CG σ' w h (allB (w * h)) (allB (w * h)) ∧ CI6 σ' w h (allB (w * h)) (allB (w * h)) ∧ eqx (fun p => p = 1) σ σ' := by
  have har := area_le hw8 hh8
  have ha1 := area_1 hw0 hh0
  obtain ⟨E, e1, e2⟩ := s_shape hw0 hw8 hh8 σ
  refine ⟨_, e2, ?_⟩
  generalize hσ' : sl (sl (sl (si (si (si σ 1 0 (nI w)) 1 1 (nI h)) 1 2 (nI (w * h))) 1 5 E) 1 3 (lushr (-1) (nI (64 - w * h)))) 1 4 (lushr (-1) (nI (64 - w * h))) = τ
  have hx : eqx (fun p => p = 1) σ τ := by
    rw [← hσ']
    exact eqx.sl (eqx.sl (eqx.sl (eqx.si (eqx.si (eqx.si eqx.rf rfl) rfl) rfl) rfl) rfl) rfl
  have hcg : CG τ w h (allB (w * h)) (allB (w * h)) := by
    rw [← hσ']
    refine ⟨hw0, hw8, hh0, hh8, rfl, rfl, rfl, fun c hc => ?_, fun c hc => ?_, fun c hc => ?_⟩
    · exact tb_ones ha1 har hc
    · exact tb_ones ha1 har hc
    · exact e1 c hc
  have hi : innerL (lushr (-1) (nI (64 - w * h))) (lushr (-1) (nI (64 - w * h))) E (nI w) = innerL (gl τ 1 3) (gl τ 1 4) (gl τ 1 5) (gi τ 1 0) := by
    rw [← hσ']
    rfl
  rw [hi]
  exact ⟨hcg, fun c hc => by rw [gl_sl_same]; exact tb_inner hcg hc, eqx.sl hx rfl⟩
/-- layGround, as what it leaves -/
theorem MG_lay {w h : Nat} (hw0 : 1 ≤ w) (hw8 : w ≤ 8) (hh0 : 1 ≤ h) (hh8 : h ≤ 8) (σ : St) : MG (layS σ w h) w h (allB (w * h)) (allB (w * h)) := by
  have har := area_le hw8 hh8
  refine ⟨hw0, hw8, hh0, hh8, (layS_26 σ w h).1, (layS_26 σ w h).2, fun c hc => ⟨?_, ?_⟩⟩
  · rw [layS_27 _ _ _ (by omega)]
    unfold inF allB
    rw [decide_eq_true hc, decide_eq_true (by omega)]
  · rw [layS_27 _ _ _ (by omega)]
    unfold inF allB
    rw [decide_eq_true hc, decide_eq_true (by omega)]
theorem allB_ZB (N : Nat) : ZB (allB N) (allB N) N := fun c hc => ⟨decide_eq_false (by omega), decide_eq_false (by omega)⟩
/-- the ground of w by h, all IN, laid in both -/
theorem start_RZ {w h : Nat} (hw0 : 1 ≤ w) (hw8 : w ≤ 8) (hh0 : 1 ≤ h) (hh8 : h ≤ 8) {τ : St} (hh : Half τ w h (allB (w * h)) (allB (w * h))) : RZ (layS τ w h) w h (allB (w * h)) (allB (w * h)) (fun _ _ => 0) := half_RZ hh (layS_x τ w h) (MG_lay hw0 hw8 hh0 hh8 τ) (allB_ZB _) (fun j hj => layS_28 _ _ _ hj) (fun s hs => layS_29 _ _ _ hs)
theorem nin_or {a : Int32} {lo hi : Nat} (h : ¬ (nI lo ≤ a ∧ a ≤ nI hi)) : a < nI lo ∨ (¬ a < nI lo ∧ nI hi < a) := by
  by_cases q : a < nI lo
  · exact Or.inl q
  · exact Or.inr ⟨q, nle_lt (fun z => h ⟨nlt_le q, z⟩)⟩
theorem m_ground {σ : St} {w h : Nat} {U D : Nat → Bool} {wt : Nat → Nat → Int} (h0 : RZ σ w h U D wt) (a b : Int32) : Both (f_X5_ground a b) (f_X6_ground a b) σ := by
  unfold Both f_X5_ground f_X5_ground_22 f_X6_ground f_X6_ground_24
  have i1 : ∀ (x : Int32) (τ : St), f_X6_in x.toInt64 (1 : Int64) (8 : Int64) τ = some (bI (decide (nI 1 ≤ x ∧ x ≤ nI 8)), τ) := fun x τ => s_in x (nI 1) (nI 8) τ
  rcases rng a 1 8 (by decide) (by decide) with ⟨w', hw1, hw2, rfl⟩ | ha
  · have n1 : ¬ nI w' < (1 : Int32) := nI_nlt (b := 1) hw1 (by omega)
    have n2 : ¬ (8 : Int32) < nI w' := nI_nlt (a := 8) hw2 (by decide)
    rw [if_neg n1, if_neg n2]
    rcases rng b 1 8 (by decide) (by decide) with ⟨h', hh1, hh2, rfl⟩ | hb
    · rw [if_neg (show ¬ nI h' < (1 : Int32) from nI_nlt (b := 1) hh1 (by omega)), if_pos (show nI h' ≤ (8 : Int32) from nI_le (b := 8) hh2 (by decide))]
      obtain ⟨σ1, e1, e2, e3, -⟩ := s_shapeAll hw1 hw2 hh1 hh2 σ
      have hH := half_of e2 e3
      rw [bd_at e1, bd_at (s_forgetWeights σ1), bd_at (s_forgetGround _)]
      refine ⟨_, _, layS (clrG (fill σ1 15 0 192 (fun _ => 0))) w' h', rfl, ?_, (start_RZ hw1 hw2 hh1 hh2 hH).rel⟩
      rw [bd_at (i1 _ _), decide_eq_true (rng_in hw1 hw2 (by decide)), if_neg bIt, bd_at (i1 _ _), decide_eq_true (rng_in hh1 hh2 (by decide)), if_neg bIt, bd_at (s_layGround hw2 hh2 _), hH.1.2.2.2.2.2.2.1, nI_mul]
    · have hc : (if b < (1 : Int32) then some ((-900002 : Int32), σ) else if b ≤ (8 : Int32) then (bd (f_X1_shape (nI w') b σ) fun _ σ2 => bd (f_X5_forgetWeights σ2) fun _ σ4 => bd (f_X5_forgetGround σ4) fun _ σ6 => some (gi σ6 1 2, σ6)) else some ((-900002 : Int32), σ)) = some ((-900002 : Int32), σ) := by
        rcases nin_or hb with q | ⟨q1, q2⟩
        · rw [if_pos (show b < (1 : Int32) from q)]
        · rw [if_neg (show ¬ b < (1 : Int32) from q1), if_neg (show ¬ b ≤ (8 : Int32) from lt_nle q2)]
      refine ⟨_, σ, σ, hc, ?_, h0.rel⟩
      rw [bd_at (i1 _ _), decide_eq_true (rng_in hw1 hw2 (by decide)), if_neg bIt, bd_at (i1 _ _), decide_eq_false hb, if_pos bI_f]
  · refine ⟨(-900002 : Int32), σ, σ, ?_, ?_, h0.rel⟩
    · rcases nin_or ha with q | ⟨q1, q2⟩
      · rw [if_pos (show a < (1 : Int32) from q)]
      · rw [if_neg (show ¬ a < (1 : Int32) from q1), if_pos (show (8 : Int32) < a from q2)]
    · rw [bd_at (i1 _ _), decide_eq_false ha, if_pos bI_f]
/-! the simple ones -/
theorem m_size {σ : St} {w h : Nat} {U D : Nat → Bool} {wt : Nat → Nat → Int} (h0 : RZ σ w h U D wt) (a : Int32) : Both (f_X5_size a) (f_X6_size a) σ := by
  have g := h0.1.1
  have m := h0.1.2.2.1
  unfold Both f_X5_size f_X5_size_33 f_X5_size_9 f_X6_size f_X6_size_25
  rw [g.2.2.2.2.1, g.2.2.2.2.2.1]
  rcases gate a (show 2 < 2 ^ 31 by decide) with ha | ⟨k, hk, rfl⟩
  · refine ⟨(-900002 : Int32), σ, σ, ?_, ?_, h0.rel⟩
    · rcases ha with q | ⟨q1, q2⟩
      · rw [if_pos q]
      · rw [if_neg q1, if_neg (show ¬ a ≤ (1 : Int32) from fun z => nI_ge (a := 1) (b := 2) (by decide) (by decide) (le_tr q2 z))]
    · rw [if_neg (fun z => ?_), if_neg (fun z => ?_)]
      · rcases ha with q | ⟨q1, q2⟩
        · rw [z] at q; exact absurd q (by decide)
        · rw [z] at q2; exact absurd q2 (by decide)
      · rcases ha with q | ⟨q1, q2⟩
        · rw [z] at q; exact absurd q (by decide)
        · rw [z] at q2; exact absurd q2 (by decide)
  · rcases (show k = 0 ∨ k = 1 by omega) with e | e <;> subst e
    · refine ⟨nI w, σ, σ, ?_, ?_, h0.rel⟩
      · rw [if_neg (by decide), if_pos (by decide), if_pos (by decide)]
      · rw [if_pos (by decide), m.2.2.2.2.1]
    · refine ⟨nI h, σ, σ, ?_, ?_, h0.rel⟩
      · rw [if_neg (by decide), if_pos (by decide), if_neg (by decide)]
      · rw [if_neg (by decide), if_pos (by decide), m.2.2.2.2.2.1]
theorem m_ups {σ : St} {w h : Nat} {U D : Nat → Bool} {wt : Nat → Nat → Int} (h0 : RZ σ w h U D wt) (up : Bool) : Both (f_X5_ups (bI up)) (f_X6_ups (bI up)) σ := by
  have hp := pc_UD h0.1.1 h0.1.2.2.2.1
  unfold Both f_X5_ups f_X5_ups_21 f_X6_ups
  cases up with
  | false =>
    refine ⟨nI (cnt D (w * h)), σ, σ, ?_, ?_, h0.rel⟩
    · rw [if_pos bI_f, bd_at (s_bitCount _ σ), hp.2]
    · rw [bI_f, bd_at (s_countD h0.1.2.2.1)]
  | true =>
    refine ⟨nI (cnt U (w * h)), σ, σ, ?_, ?_, h0.rel⟩
    · rw [if_neg bIt, bd_at (s_bitCount _ σ), hp.1]
    · rw [bI_t, bd_at (s_countU h0.1.2.2.1)]
/-! TRIANGLES -/
def triB (U D : Nat → Bool) (t : Nat) : Bool := if t % 2 = 0 then U (t / 2) else D (t / 2)
theorem tri_a1 : ∀ t, t < 128 → ((nI t &&& 1) = 0 ↔ t % 2 = 0) := by decide +kernel
theorem tri_sh : ∀ t, t < 128 → jshr (nI t) 1 = nI (t / 2) := by decide +kernel
theorem g5_tri {σ : St} {w h : Nat} {U D : Nat → Bool} (g : CG σ w h U D) {t : Nat} (ht : t < 2 * (w * h)) : f_X1_hasTriangle (nI t) σ = some (1, σ) := by
  have har := area_le g.2.1 g.2.2.2.1
  unfold f_X1_hasTriangle f_X1_hasTriangle_19
  rw [if_neg (nI_pos (by omega)), g.2.2.2.2.2.2.1, show (2 : Int32) * nI (w * h) = nI (2 * (w * h)) from nI_mul 2 _, if_neg (nI_ge ht (by omega)), gz_1]
theorem g5_notri {σ : St} {w h : Nat} {U D : Nat → Bool} (g : CG σ w h U D) {a : Int32} (ha : outB a (2 * (w * h))) : f_X1_hasTriangle a σ = some (0, σ) := by
  unfold f_X1_hasTriangle f_X1_hasTriangle_18 f_X1_hasTriangle_19
  rcases ha with z | ⟨z1, z2⟩
  · rw [if_pos z, gz_0]
  · rw [if_neg z1, g.2.2.2.2.2.2.1, show (2 : Int32) * nI (w * h) = nI (2 * (w * h)) from nI_mul 2 _, if_pos z2, gz_0]
theorem g6_tri {σ : St} {w h : Nat} {U D : Nat → Bool} (g : MG σ w h U D) (a : Int32) : f_X6_in a.toInt64 (0 : Int64) (((2 : Int32) * nI (w * h) - 1).toInt64) σ = some (bI (decide ((0 : Int32) ≤ a ∧ a ≤ nI (2 * (w * h) - 1))), σ) := by
  have h1 := area_1 g.1 g.2.2.1
  rw [show (2 : Int32) * nI (w * h) - 1 = nI (2 * (w * h) - 1) from by rw [show (2 : Int32) * nI (w * h) = nI (2 * (w * h)) from nI_mul 2 _]; exact nI_sub (b := 1) (by omega)]
  exact s_in0 a _ σ
theorem s_holds {σ : St} {w h : Nat} {U D : Nat → Bool} (g : CG σ w h U D) {t : Nat} (ht : t < 2 * (w * h)) : f_X1_holds (nI t) σ = some (bI (triB U D t), σ) := by
  have har := area_le g.2.1 g.2.2.2.1
  unfold f_X1_holds f_X1_holds_17 f_X1_holds_35 triB
  rw [tri_sh t (by omega)]
  have hr : ∀ (X : Int64) (b : Bool), tb X (t / 2) = b → (if (lushr X (nI (t / 2)) &&& 1) = 0 then gz (0 : Int32) (some ((0 : Int32), σ)) else gz (1 : Int32) (some ((1 : Int32), σ))) = some (bI b, σ) := by
    intro X b hb
    cases b with
    | false => rw [if_pos ((tb_read X (by omega)).mpr hb), gz_0, bI_f]
    | true => rw [if_neg (fun z => by rw [(tb_read X (by omega)).mp z] at hb; cases hb), gz_1, bI_t]
  by_cases q : t % 2 = 0
  · rw [if_pos ((tri_a1 t (by omega)).mpr q), if_pos q]
    exact hr _ _ (g.2.2.2.2.2.2.2.1 _ (by omega))
  · rw [if_neg (fun z => q ((tri_a1 t (by omega)).mp z)), if_neg q]
    exact hr _ _ (g.2.2.2.2.2.2.2.2.1 _ (by omega))
theorem rd27 {σ : St} {w h : Nat} {U D : Nat → Bool} (g : MG σ w h U D) {t : Nat} (ht : t < 2 * (w * h)) : gi σ 27 t = bI (triB U D t) := by
  have hg := g.2.2.2.2.2.2 (t / 2) (by omega)
  unfold triB
  by_cases q : t % 2 = 0
  · rw [if_pos q, ← hg.1, show 2 * (t / 2) = t by omega]
  · rw [if_neg q, ← hg.2, show 2 * (t / 2) + 1 = t by omega]
theorem if_bI {α : Type} (b : Bool) (f : Int32 → α) : (if bI b = 0 then f 0 else f 1) = f (bI b) := by
  cases b with
  | false => rw [if_pos bI_f, bI_f]
  | true => rw [if_neg bIt, bI_t]
theorem m_isIn {σ : St} {w h : Nat} {U D : Nat → Bool} {wt : Nat → Nat → Int} (h0 : RZ σ w h U D wt) (a : Int32) : Both (f_X5_isIn a) (f_X6_isIn a) σ := by
  have har := area_le h0.1.1.2.1 h0.1.1.2.2.2.1
  have ha1 := area_1 h0.1.1.1 h0.1.1.2.2.1
  have m := h0.1.2.2.1
  unfold Both f_X5_isIn f_X5_isIn_30 f_X6_isIn f_X6_isIn_37
  rcases gate a (show 2 * (w * h) < 2 ^ 31 by omega) with ha | ⟨t, ht, rfl⟩
  · rw [bd_at (g5_notri h0.1.1 ha), if_pos rfl]
    refine ⟨_, σ, σ, rfl, ?_, h0.rel⟩
    rw [bd_at (s_cells m), bd_at (g6_tri m a), out_in (by omega) (by omega) ha, if_pos bI_f]
  · rw [bd_at (g5_tri h0.1.1 ht), if_neg (by decide), bd_at (s_holds h0.1.1 ht)]
    refine ⟨bI (triB U D t), σ, σ, ?_, ?_, h0.rel⟩
    · exact if_bI (triB U D t) (fun v => some (v, σ))
    · rw [bd_at (s_cells m), bd_at (g6_tri m _), in_in ht (by omega), if_neg bIt, rdI_at _ _ (show t < len 27 by show _ < 128; omega) (by decide), rd27 m ht]
      exact if_bI (triB U D t) (fun v => some (v, σ))
def chU (U : Nat → Bool) (t : Nat) : Nat → Bool := if t % 2 = 0 then upB U (t / 2) (!U (t / 2)) else U
def chD (D : Nat → Bool) (t : Nat) : Nat → Bool := if t % 2 = 0 then D else upB D (t / 2) (!D (t / 2))
theorem tb_flip {X : Int64} {F : Nat → Bool} {k : Nat} (hk : k < 64) (hF : ∀ c, c < 64 → tb X c = F c) : ∀ c, c < 64 → tb (X ^^^ lshl 1 (nI k)) c = upB F k (!F k) c := fun c hc => by
  rw [tb_xor, tb_bit hk, hF c hc]
  unfold upB
  by_cases q : c = k
  · rw [if_pos q, q, decide_eq_true rfl, Bool.xor_true]
  · rw [if_neg q, decide_eq_false q, Bool.xor_false]
theorem s_change {σ : St} {w h : Nat} {U D : Nat → Bool} (g : CG σ w h U D) {t : Nat} (ht : t < 2 * (w * h)) : ∃ σ', f_X1_change (nI t) σ = some ((), σ') ∧ CG σ' w h (chU U t) (chD D t) ∧ CI6 σ' w h (chU U t) (chD D t) ∧ eqx (fun p => p = 1) σ σ' := by
  have har := area_le g.2.1 g.2.2.2.1
  obtain ⟨a1, a2, a3, a4, a5, a6, a7, a8, a9, a10⟩ := g
  unfold f_X1_change f_X1_change_35
  rw [tri_sh t (by omega)]
  by_cases q : t % 2 = 0
  · rw [if_pos ((tri_a1 t (by omega)).mpr q), fL_at, bd_at (s_findInner _)]
    have e1 : chU U t = upB U (t / 2) (!U (t / 2)) := if_pos q
    have e2 : chD D t = D := if_pos q
    rw [e1, e2]
    have hc : CG (sl σ 1 3 (gl σ 1 3 ^^^ lshl 1 (nI (t / 2)))) w h (upB U (t / 2) (!U (t / 2))) D := ⟨a1, a2, a3, a4, a5, a6, a7, tb_flip (by omega) a8, a9, a10⟩
    exact ⟨_, rfl, hc, fun c hcc => by rw [gl_sl_same]; exact tb_inner hc hcc, eqx.sl (eqx.sl eqx.rf rfl) rfl⟩
  · rw [if_neg (fun z => q ((tri_a1 t (by omega)).mp z)), fL_at, bd_at (s_findInner _)]
    have e1 : chU U t = U := if_neg q
    have e2 : chD D t = upB D (t / 2) (!D (t / 2)) := if_neg q
    rw [e1, e2]
    have hc : CG (sl σ 1 4 (gl σ 1 4 ^^^ lshl 1 (nI (t / 2)))) w h U (upB D (t / 2) (!D (t / 2))) := ⟨a1, a2, a3, a4, a5, a6, a7, a8, tb_flip (by omega) a9, a10⟩
    exact ⟨_, rfl, hc, fun c hcc => by rw [gl_sl_same]; exact tb_inner hc hcc, eqx.sl (eqx.sl eqx.rf rfl) rfl⟩
theorem MG_set {σ : St} {w h : Nat} {U D : Nat → Bool} (g : MG σ w h U D) {t : Nat} (ht : t < 2 * (w * h)) : MG (fill (si σ 27 t (bI (!triB U D t))) 29 0 4 (fun _ => 0)) w h (chU U t) (chD D t) := by
  obtain ⟨a1, a2, a3, a4, a5, a6, a7⟩ := g
  have e : ∀ j, gi (fill (si σ 27 t (bI (!triB U D t))) 29 0 4 (fun _ => 0)) 27 j = if j = t then bI (!triB U D t) else gi σ 27 j := fun j => by
    rw [gi_fill, if_neg (by omega), gi_si]
    by_cases q : j = t
    · rw [if_pos ⟨rfl, q⟩, if_pos q]
    · rw [if_neg (fun z => q z.2), if_neg q]
  refine ⟨a1, a2, a3, a4, ?_, ?_, fun c hc => ?_⟩
  · rw [gi_fill, if_neg (by omega), gi_si_ne _ _ _ _ (by omega)]; exact a5
  · rw [gi_fill, if_neg (by omega), gi_si_ne _ _ _ _ (by omega)]; exact a6
  · rw [e, e, (a7 c hc).1, (a7 c hc).2]
    unfold chU chD triB
    by_cases q : t % 2 = 0
    · rw [if_pos q, if_pos q, if_pos q, if_neg (show ¬ 2 * c + 1 = t by omega)]
      refine ⟨?_, rfl⟩
      unfold upB
      by_cases z : 2 * c = t
      · rw [if_pos z, if_pos (show c = t / 2 by omega)]
      · rw [if_neg z, if_neg (show ¬ c = t / 2 by omega)]
    · rw [if_neg q, if_neg q, if_neg q, if_neg (show ¬ 2 * c = t by omega)]
      refine ⟨rfl, ?_⟩
      unfold upB
      by_cases z : 2 * c + 1 = t
      · rw [if_pos z, if_pos (show c = t / 2 by omega)]
      · rw [if_neg z, if_neg (show ¬ c = t / 2 by omega)]
theorem ZB_set {U D : Nat → Bool} {N t : Nat} (ht : t < 2 * N) (hB : ZB U D N) : ZB (chU U t) (chD D t) N := fun c hc => by
  have h1 := hB c hc
  unfold chU chD upB
  by_cases q : t % 2 = 0
  · rw [if_pos q, if_pos q]
    exact ⟨(if_neg (by omega)).trans h1.1, h1.2⟩
  · rw [if_neg q, if_neg q]
    exact ⟨h1.1, (if_neg (by omega)).trans h1.2⟩
theorem m_set {σ : St} {w h : Nat} {U D : Nat → Bool} {wt : Nat → Nat → Int} (h0 : RZ σ w h U D wt) (a : Int32) (v : Bool) : Both (f_X5_set a (bI v)) (f_X6_set a (bI v)) σ := by
  have har := area_le h0.1.1.2.1 h0.1.1.2.2.2.1
  have ha1 := area_1 h0.1.1.1 h0.1.1.2.2.1
  have m := h0.1.2.2.1
  unfold Both f_X5_set f_X5_set_40 f_X5_set_49 f_X6_set f_X6_set_35 f_X6_set_57
  rcases gate a (show 2 * (w * h) < 2 ^ 31 by omega) with ha | ⟨t, ht, rfl⟩
  · rw [bd_at (g5_notri h0.1.1 ha), if_pos rfl]
    refine ⟨_, σ, σ, rfl, ?_, h0.rel⟩
    rw [bd_at (s_cells m), bd_at (g6_tri m a), out_in (by omega) (by omega) ha, if_pos bI_f]
  · rw [bd_at (g5_tri h0.1.1 ht), if_neg (by decide), bd_at (s_holds h0.1.1 ht)]
    have r27 : ∀ (τ : St) (f : Int32 → Option (Int32 × St)), rdI τ 27 (nI t) f = f (gi τ 27 t) := fun τ f => rdI_at _ _ (show t < len 27 by show _ < 128; omega) (by decide)
    by_cases q : bI (triB U D t) = bI v
    · refine ⟨bI (triB U D t), σ, σ, ?_, ?_, h0.rel⟩
      · rw [if_pos q]
        exact if_bI (triB U D t) (fun v => some (v, σ))
      · rw [bd_at (s_cells m), bd_at (g6_tri m _), in_in ht (by omega), if_neg bIt, r27, r27, r27, rd27 m ht, if_pos q, if_pos q]
        exact if_bI (triB U D t) (fun v => some (v, σ))
    · obtain ⟨σ1, e1, e2, e3, e4⟩ := s_change h0.1.1 ht
      have hx : eqx (fun p => p = 1 ∨ PF p) σ (clrG σ1) := eqx.tr (e4.mono (fun p hp => Or.inl hp)) ((clrG_x σ1).mono (fun p hp => Or.inr hp))
      have m1 : MG (clrG σ1) w h U D := m.keep hx (by unfold PF; omega) (by unfold PF; omega)
      have hv : v = !triB U D t := by
        cases v <;> cases htb : triB U D t <;> first | rfl | exact absurd (by rw [htb]) q
      have hx2 : eqx (fun p => p = 27 ∨ p = 29) (clrG σ1) (fill (si (clrG σ1) 27 t (bI (!triB U D t))) 29 0 4 (fun _ => 0)) := fun p hp k => ⟨by rw [gi_fill, if_neg (by omega), gi_si_ne _ _ _ _ (by omega)], rfl⟩
      refine ⟨bI (triB U D t), clrG σ1, fill (si (clrG σ1) 27 t (bI (!triB U D t))) 29 0 4 (fun _ => 0), ?_, ?_, ?_⟩
      · rw [if_neg q, bd_at e1, bd_at (s_forgetGround σ1)]
        exact if_bI (triB U D t) (fun v => some (v, clrG σ1))
      · rw [bd_at (s_cells m1), bd_at (g6_tri m1 _), in_in ht (by omega), if_neg bIt, r27, r27, r27, rd27 m1 ht, if_neg q, if_neg q, wrZ_at _ _ _ (show t < len 27 by show _ < 128; omega) (by decide), wrZ_at _ _ _ (show t < len 27 by show _ < 128; omega) (by decide), zn_bI, hv, bd_at (s_empty _), bd_at (s_empty _)]
        exact if_bI (triB U D t) (fun v => some (v, fill (si (clrG σ1) 27 t (bI (!triB U D t))) 29 0 4 (fun _ => 0)))
      · have hT : WT (clrG σ1) wt := h0.1.2.2.2.2.1.keep hx (by unfold PF; omega) (by unfold PF; omega)
        have c1' := e2.keep (clrG_x σ1) (by unfold PF; omega)
        have c2' := e3.keep (clrG_x σ1) (by unfold PF; omega)
        exact (fresh (c1'.keep hx2 (by omega)) (c2'.keep hx2 (by omega)) (MG_set m1 ht) (ZB_set ht h0.1.2.2.2.1) (hT.keep hx2 (by omega) (by omega)) (fun s hs => by rw [(hx2 (5 + s) (by omega) 0).1]; exact clrG_5 σ1 s hs) (fun s hs => by rw [gi_fill, if_pos ⟨rfl, by omega, hs⟩]) (by rw [(hx2 12 (by omega) 0).1]; exact (clrG_12 σ1).1) (by rw [(hx2 0 (by omega) 8).1]; exact (clrG_12 σ1).2.1) (by rw [(hx2 0 (by omega) 9).1]; exact (clrG_12 σ1).2.2)).rel
/-! weights -/
def upW (wt : Nat → Nat → Int) (c k : Nat) (z : Int) (c' k' : Nat) : Int := if c' = c ∧ k' = k then z else wt c' k'
theorem RZ.wts {σ τ : St} {w h : Nat} {U D : Nat → Bool} {wt wt' : Nat → Nat → Int} (h0 : RZ σ w h U D wt) (he : eqx (fun p => p = 15 ∨ p = 28) σ τ) (hT : WT τ wt') : RZ τ w h U D wt' := by
  obtain ⟨⟨a1, a2, a3, a4, a5, a6, a7⟩, b1, b2⟩ := h0
  exact ⟨⟨a1.keep he (by omega), a2.keep he (by omega), a3.keep he (by omega) (by omega), a4, hT, fun s hs => (a6 s hs).keep hs he (by omega) (by omega) (by omega), a7.keep he (by omega) (by omega)⟩, b1.keep he (by omega) (by omega), b2.keep he (by omega) (by omega) (by omega)⟩
theorem m_weight {σ : St} {w h : Nat} {U D : Nat → Bool} {wt : Nat → Nat → Int} (h0 : RZ σ w h U D wt) (a b v : Int32) : Both (f_X5_weight a b v) (f_X6_weight a b v) σ := by
  have har := area_le h0.1.1.2.1 h0.1.1.2.2.2.1
  have m := h0.1.2.2.1
  have hT := h0.1.2.2.2.2.1
  unfold Both f_X5_weight f_X5_weight_33 f_X5_weight_18 f_X6_weight f_X6_weight_20
  rcases gate a (show w * h < 2 ^ 31 by omega) with ha | ⟨c, hc, rfl⟩
  · rw [bd_at (g5_nocell h0.1.1 ha), if_pos rfl]
    refine ⟨_, σ, σ, rfl, ?_, h0.rel⟩
    rw [bd_at (g6_nocell m ha), if_pos rfl]
  · rw [bd_at (g5_cell h0.1.1 hc), if_neg (by decide)]
    rcases gate b (show 3 < 2 ^ 31 by decide) with hb | ⟨k, hk, rfl⟩
    · rw [bd_at (g5_nokind hb), if_pos rfl]
      refine ⟨_, σ, σ, rfl, ?_, h0.rel⟩
      rw [bd_at (g6_cell m hc), if_neg (by decide), bd_at (g6_nokind hb), if_pos rfl]
    · have i1 : f_X6_in v.toInt64 (-99 : Int64) (99 : Int64) σ = some (bI (decide ((-99 : Int32) ≤ v ∧ v ≤ (99 : Int32))), σ) := s_in v (-99) 99 σ
      rw [bd_at (g5_kind hk), if_neg (by decide)]
      have i2 : ∀ τ : St, f_X6_in v.toInt64 (-99 : Int64) (99 : Int64) τ = some (bI (decide ((-99 : Int32) ≤ v ∧ v ≤ (99 : Int32))), τ) := fun τ => s_in v (-99) 99 τ
      by_cases q1 : v < (-99 : Int32)
      · rw [if_pos q1]
        refine ⟨_, σ, σ, rfl, ?_, h0.rel⟩
        rw [bd_at (g6_cell m hc), if_neg (by decide), bd_at (g6_kind hk), if_neg (by decide), bd_at i1, decide_eq_false (fun z => lt_nle q1 z.1), if_pos bI_f]
      · rw [if_neg q1]
        by_cases q2 : v ≤ (99 : Int32)
        · have e1 : nI c * (3 : Int32) + nI k = nI (3 * c + k) := by rw [show nI c * (3 : Int32) = nI (c * 3) from nI_mul c 3, nI_add, Nat.mul_comm]
          have e2 : (3 : Int32) * nI c + nI k = nI (3 * c + k) := by rw [show (3 : Int32) * nI c = nI (3 * c) from nI_mul 3 c, nI_add]
          have hw := hT.2.2 c (by omega) k hk
          rw [if_pos q2, e1, e2, rdI_at _ _ (show 3 * c + k < len 15 by show _ < 192; omega) (by decide), wrI_at _ _ _ (show 3 * c + k < len 15 by show _ < 192; omega) (by decide), hw.1]
          have hx1 : eqx (fun p => p = 15 ∨ p = 28) σ (si σ 15 (3 * c + k) v) := eqx.si eqx.rf (Or.inl rfl)
          have m1 : MG (si σ 15 (3 * c + k) v) w h U D := m.keep hx1 (by omega) (by omega)
          have hx2 : eqx (fun p => p = 15 ∨ p = 28) σ (si (si σ 15 (3 * c + k) v) 28 (3 * c + k) v) := eqx.si hx1 (Or.inr rfl)
          refine ⟨_, si σ 15 (3 * c + k) v, si (si σ 15 (3 * c + k) v) 28 (3 * c + k) v, rfl, ?_, (h0.wts (wt' := upW wt c k v.toInt) hx2 ?_).rel⟩
          · rw [bd_at (g6_cell m1 hc), if_neg (by decide), bd_at (g6_kind hk), if_neg (by decide), bd_at (i2 _), decide_eq_true ⟨nlt_le q1, q2⟩, if_neg bIt, rdI_at _ _ (show 3 * c + k < len 28 by show _ < 192; omega) (by decide), wrI_at _ _ _ (show 3 * c + k < len 28 by show _ < 192; omega) (by decide), gi_si_ne _ _ _ _ (by omega), hw.2]
          · have hv1 : -99 ≤ v.toInt := by
              have := nlt_le q1
              rw [Int32.le_iff_toInt_le] at this
              exact this
            have hv2 : v.toInt ≤ 99 := by
              rw [Int32.le_iff_toInt_le] at q2
              exact q2
            have hiz : iZ v.toInt = v := Int32.ofInt_toInt v
            refine ⟨fun c' k' => ?_, fun c' => ?_, fun c' hc' k' hk' => ?_⟩
            · unfold upW
              by_cases q : c' = c ∧ k' = k
              · rw [if_pos q]; exact ⟨hv1, hv2⟩
              · rw [if_neg q]; exact hT.1 c' k'
            · unfold upW
              rw [if_neg (by omega)]
              exact hT.2.1 c'
            · unfold upW
              have ho := hT.2.2 c' hc' k' hk'
              by_cases q : c' = c ∧ k' = k
              · rw [if_pos q, q.1, q.2, hiz, gi_si_same, gi_si_ne _ _ _ _ (by omega), gi_si_same]
                exact ⟨rfl, rfl⟩
              · have q' : ¬ 3 * c' + k' = 3 * c + k := by omega
                rw [if_neg q, gi_si_ne _ _ _ _ (by omega), gi_si_ne _ _ _ _ (by omega), gi_si_ne _ _ _ _ (by omega), gi_si_ne _ _ _ _ (by omega)]
                exact ho
        · rw [if_neg q2]
          refine ⟨_, σ, σ, rfl, ?_, h0.rel⟩
          rw [bd_at (g6_cell m hc), if_neg (by decide), bd_at (g6_kind hk), if_neg (by decide), bd_at i1, decide_eq_false (fun z => q2 z.2), if_pos bI_f]
