/-! ===== HALF 2: the slots' methods ===== -/
theorem RZ.slot {σ τ : St} {w h s : Nat} {U D : Nat → Bool} {wt : Nat → Nat → Int} (h0 : RZ σ w h U D wt) (hs : s < 4) (he1 : ∀ p k, p ≠ 5 + s → ¬ SCR p → ¬ (p = 29 ∧ k = s) → ¬ (p = 30 ∧ 64 * s ≤ k ∧ k < 64 * s + 64) → gi τ p k = gi σ p k) (he2 : ∀ p k, p ≠ 5 + s → ¬ SCR p → gl τ p k = gl σ p k) (hS : SLT τ w h U D s) : RZ τ w h U D wt := by
  obtain ⟨⟨a1, a2, a3, a4, a5, a6, a7⟩, b, c⟩ := h0
  have har := area_le a1.2.1 a1.2.2.2.1
  have he : eqx (fun p => p = 5 + s ∨ SCR p ∨ p = 29 ∨ p = 30) σ τ := fun p hp k => ⟨he1 p k (by omega) (fun z => hp (Or.inr (Or.inl z))) (fun z => hp (Or.inr (Or.inr (Or.inl z.1)))) (fun z => hp (Or.inr (Or.inr (Or.inr z.1)))), he2 p k (by omega) (fun z => hp (Or.inr (Or.inl z)))⟩
  refine ⟨⟨a1.keep he (by unfold SCR; omega), a2.keep he (by unfold SCR; omega), a3.keep he (by unfold SCR; omega) (by unfold SCR; omega), a4, a5.keep he (by unfold SCR; omega) (by unfold SCR; omega), fun s' hs' => ?_, a7.keep he (by unfold SCR; omega) (by unfold SCR; omega)⟩, b.keep he (by unfold SCR; omega) (by unfold SCR; omega), c.keep he (by unfold SCR; omega) (by unfold SCR; omega) (by unfold SCR; omega)⟩
  by_cases e : s' = s
  · rw [e]; exact hS
  · rcases a6 s' hs' with ⟨q1, q2⟩ | ⟨q1, q2, K, k1, k2, k3⟩
    · exact Or.inl ⟨by rw [he1 _ _ (by omega) (by unfold SCR; omega) (by omega) (by omega)]; exact q1, by rw [he1 _ _ (by omega) (by unfold SCR; omega) (by omega) (by omega)]; exact q2⟩
    · exact Or.inr ⟨by rw [he1 _ _ (by omega) (by unfold SCR; omega) (by omega) (by omega)]; exact q1, by rw [he1 _ _ (by omega) (by unfold SCR; omega) (by omega) (by omega)]; exact q2, K, k1, fun c hc k hk => by rw [he2 _ _ (by omega) (by unfold SCR; omega)]; exact k2 c hc k hk, fun c hc => by rw [he1 _ _ (by omega) (by unfold SCR; omega) (by omega) (by omega)]; exact k3 c hc⟩
theorem LC_nrm {σ : St} {p N : Nat} {U : Nat → Bool} {K : Nat → Nat} (h : LC σ p N U K) : LC σ p N U (nrm N K) := fun c hc k hk => by
  rw [h c hc k hk]
  refine decide_eq_decide.mpr ?_
  by_cases q : c < N
  · rw [show nrm N K c = K c from if_pos q]
  · exact ⟨fun z => absurd z.1 q, fun z => absurd z.1 q⟩
theorem LM_nrm {σ : St} {s N : Nat} {K : Nat → Nat} (h : LM σ s N K) : LM σ s N (nrm N K) := fun c hc => by
  rw [show nrm N K c = K c from if_pos hc]
  exact h c hc
theorem slot_rd {s : Nat} (hs : s < 4) {α : Type} (f : Nat → Option α) : rdR (nI s) f = f (5 + s) := rdR_at f hs
theorem m_lay {σ : St} {w h : Nat} {U D : Nat → Bool} {wt : Nat → Nat → Int} (h0 : RZ σ w h U D wt) (a : Int32) (b : Int64) : Both (f_X5_lay a b) (f_X6_lay a b) σ := by
  have har := area_le h0.1.1.2.1 h0.1.1.2.2.2.1
  unfold Both f_X5_lay f_X5_lay_32 f_X6_lay f_X6_lay_31
  rcases gate a (show 4 < 2 ^ 31 by decide) with ha | ⟨s, hs, rfl⟩
  · rw [bd_at (g5_noslot ha), if_pos rfl]
    refine ⟨_, σ, σ, rfl, ?_, h0.rel⟩
    rw [bd_at (g6_noslot ha), if_pos rfl]
  · obtain ⟨σ1, e1, e2, e3, -⟩ := s_makeSteps h0
    have hWb := Wr_56 (U := U) (D := D) h0.1.1.2.1 h0.1.1.2.2.2.1 (show 0 + w * h = w * h by omega) 0
    rw [bd_at (g5_slot hs), if_neg (by decide), bd_at e1]
    have ways0 : ∀ τ : St, WaysOK τ w h U D → ∀ f : Int64 → Option (Int32 × St), rdL τ 31 (0 : Int32) f = f (lN (Wr w U D (w * h) 0 0)) := fun τ hW f => by
      have := rdL_at τ f (p := 31) (k := 0) (by decide) (by decide)
      have h2 := hW 0 (Nat.zero_le _) 0 (Nat.pow_pos (by decide))
      rw [Nat.sub_zero] at h2
      have h3 : gl τ 31 0 = lN (Wr w U D (w * h) 0 0) := h2
      rw [h3] at this
      exact this
    by_cases hb : b < 0
    · rw [if_pos hb]
      obtain ⟨σ2, d1, d2, d3, d4⟩ := s_layWays e2.1.2.2.1
      refine ⟨_, σ1, σ2, rfl, ?_, (e2.scr' d4 (fun p hp => by unfold SCR; omega)).rel⟩
      rw [bd_at (g6_slot hs), if_neg (by decide), bd_at d1, if_pos hb]
    · obtain ⟨i, hi, rfl⟩ := pk_lOf hb
      rw [if_neg hb, bd_at (s_total e3)]
      by_cases hlt : i < Wr w U D (w * h) 0 0
      · rw [if_pos ((pk_lLT hi (by omega)).mpr hlt), slot_rd hs]
        obtain ⟨σ2, c1, c2, c3, c4⟩ := s_walkTo (q := 5 + s) (by omega) hlt e2.1.1 e3
        rw [bd_at c1]
        have g2 := e2.1.2.2.1.keep c4 (by omega) (by omega)
        obtain ⟨σ3, d1, d2, d3, d4⟩ := s_layWays g2
        have g3 := g2.keep d4 (by omega) (by omega)
        obtain ⟨σ4, f1, f2, f3, f4, f5⟩ := s_lay43 hlt hs FU 0 σ3 (Nat.zero_le _) (by unfold FU; omega) g3 d2 (fun c hc => by omega)
        refine ⟨1, σ2, σ4, rfl, ?_, ?_⟩
        · rw [bd_at (g6_slot hs), if_neg (by decide), bd_at d1, if_neg hb, ways0 σ3 d2, if_pos ((pk_lLT hi (by omega)).mpr hlt)]
          exact f1
        · refine (e2.slot hs (fun p k q1 q2 q3 q4 => ?_) (fun p k q1 q2 => ?_) ?_).rel
          · rw [f5 p k q3 q4, (d4 p (by unfold SCR at q2; omega) k).1, (c4 p q1 k).1]
          · have : gl σ4 p k = gl σ3 p k := by unfold gl; rw [f4]
            rw [this, (d4 p (by unfold SCR at q2; omega) k).2, (c4 p q1 k).2]
          · refine Or.inr ⟨?_, f3, nrm (w * h) (NK w U D (w * h) i), IsL_nrm h0.1.1.1 (NK_IsL h0.1.1.1 hlt), LC_nrm ?_, LM_nrm f2⟩
            · rw [f5 _ _ (by omega) (by omega), (d4 _ (by omega) _).1]; exact c2
            · intro c hc k hk
              have : gl σ4 (5 + s) (k + 1) = gl σ3 (5 + s) (k + 1) := by unfold gl; rw [f4]
              rw [this, (d4 _ (by omega) _).2]
              exact c3 c hc k hk
      · rw [if_neg (fun z => hlt ((pk_lLT hi (by omega)).mp z))]
        obtain ⟨σ2, d1, d2, d3, d4⟩ := s_layWays e2.1.2.2.1
        refine ⟨_, σ1, σ2, rfl, ?_, (e2.scr' d4 (fun p hp => by unfold SCR; omega)).rel⟩
        rw [bd_at (g6_slot hs), if_neg (by decide), bd_at d1, if_neg hb, ways0 σ2 d2, if_neg (fun z => hlt ((pk_lLT hi (by omega)).mp z))]
theorem m_layDearest {σ : St} {w h : Nat} {U D : Nat → Bool} {wt : Nat → Nat → Int} (h0 : RZ σ w h U D wt) (a : Int32) : Both (f_X5_layDearest a) (f_X6_layDearest a) σ := by
  have har := area_le h0.1.1.2.1 h0.1.1.2.2.2.1
  unfold Both f_X5_layDearest f_X6_layDearest
  rcases gate a (show 4 < 2 ^ 31 by decide) with ha | ⟨s, hs, rfl⟩
  · rw [bd_at (g5_noslot ha), if_pos rfl]
    refine ⟨_, σ, σ, rfl, ?_, h0.rel⟩
    rw [bd_at (g6_noslot ha), if_pos rfl]
  · obtain ⟨σ1, e1, e2, e3, -⟩ := s_makeSteps h0
    have hT := e2.1.2.2.2.2.1
    rw [bd_at (g5_slot hs), if_neg (by decide), bd_at e1, bd_at (s_total e3)]
    have best0 : ∀ τ : St, BestOK τ w h U D wt → ∀ f : Int32 → Option (Int32 × St), rdI τ 33 (0 : Int32) f = f (oZ (Bs w U D wt (w * h) 0 0)) := fun τ hW f => by
      have := rdI_at τ f (p := 33) (k := 0) (by decide) (by decide)
      have h2 := hW 0 (Nat.zero_le _) 0 (Nat.pow_pos (by decide))
      rw [Nat.sub_zero] at h2
      have h3 : gi τ 33 0 = oZ (Bs w U D wt (w * h) 0 0) := h2
      rw [h3] at this
      exact this
    by_cases hW0 : Wr w U D (w * h) 0 0 = 0
    · rw [if_pos ((Wr_0 e2.1.1).mpr hW0)]
      obtain ⟨σ2, d1, d2, d3, d4⟩ := s_layBest (WT_R har hT) e2.1.2.2.1 (fun _ => rfl)
      refine ⟨_, σ1, σ2, rfl, ?_, (e2.scr' d4 (fun p hp => by unfold SCR; omega)).rel⟩
      rw [bd_at (g6_slot hs), if_neg (by decide), bd_at d1, best0 σ2 d2, Bs_none.mpr hW0, if_pos (show oZ none = -900009 from rfl)]
    · rw [if_neg (fun q => hW0 ((Wr_0 e2.1.1).mp q))]
      obtain ⟨z, hz⟩ : ∃ z, Bs w U D wt (w * h) 0 0 = some z := by
        cases hb : Bs w U D wt (w * h) 0 0 with
        | none => exact absurd (Bs_none.mp hb) hW0
        | some z => exact ⟨z, rfl⟩
      obtain ⟨σ2, c1, c2, c3⟩ := s_rank (Or.inl rfl) hT.2.1 hT.1 e2.1.1 e3 (WT_C har hT)
      rw [RK_0 c2 hz] at c1
      have hR2 := e2.scr' c3 (fun p hp => by unfold SCR; omega)
      obtain ⟨σ3, b1', b2', b3', b4'⟩ := s_walkDearest (q := 15) (r := 5 + s) (by omega) (Or.inl rfl) hT.2.1 hT.1 hz hR2.1.1 (e3.keep c3 (by decide)) (WT_C har hR2.1.2.2.2.2.1) c2
      rw [bd_at c1, slot_rd hs, bd_at b1']
      have g3 := hR2.1.2.2.1.keep b4' (by omega) (by omega)
      have hT3 : WT σ3 wt := hR2.1.2.2.2.2.1.keep b4' (by omega) (by omega)
      obtain ⟨σ4, d1, d2, d3, d4⟩ := s_layBest (WT_R har hT3) g3 (fun _ => rfl)
      have g4 := g3.keep d4 (by omega) (by omega)
      have hB := oB_le (B_800 h0.1.1.2.1 h0.1.1.2.2.2.1 (U := U) (D := D) hT.1 (Nat.le_refl (w * h)) 0 0) (show (10000 : Int) ≤ 800000 by decide)
      rw [hz] at hB
      obtain ⟨σ5, f1, f2, f3, f4, f5⟩ := s_ld34 (WT_R har hT3) hs hz FU 0 σ4 (Nat.zero_le _) (by unfold FU; omega) g4 (fun j => (d4 28 (by omega) j).1) d2 (fun c hc => by omega)
      refine ⟨_, σ3, σ5, rfl, ?_, ?_⟩
      · rw [bd_at (g6_slot hs), if_neg (by decide), bd_at d1, best0 σ4 d2, hz, if_neg (fun q => by have := (oZ_none hB).mp q; cases this)]
        exact f1
      · refine (hR2.slot hs (fun p k q1 q2 q3 q4 => ?_) (fun p k q1 q2 => ?_) ?_).rel
        · rw [f5 p k q3 q4, (d4 p (by unfold SCR at q2; omega) k).1, (b4' p q1 k).1]
        · have : gl σ5 p k = gl σ4 p k := by unfold gl; rw [f4]
          rw [this, (d4 p (by unfold SCR at q2; omega) k).2, (b4' p q1 k).2]
        · refine Or.inr ⟨?_, f3, nrm (w * h) (DK w U D wt (w * h)), IsL_nrm h0.1.1.1 (DK_IsL hz), LC_nrm ?_, LM_nrm f2⟩
          · rw [f5 _ _ (by omega) (by omega), (d4 _ (by omega) _).1]; exact b2'
          · intro c hc k hk
            have : gl σ5 (5 + s) (k + 1) = gl σ4 (5 + s) (k + 1) := by unfold gl; rw [f4]
            rw [this, (d4 _ (by omega) _).2]
            exact b3' c hc k hk
/-- a slot that holds none, or one -/
theorem RZ.sl {σ : St} {w h s : Nat} {U D : Nat → Bool} {wt : Nat → Nat → Int} (h0 : RZ σ w h U D wt) (hs : s < 4) : SLT σ w h U D s := h0.1.2.2.2.2.2.1 s hs
theorem rd29 {σ : St} {s : Nat} (hs : s < 4) {α : Type} (f : Int32 → Option α) : rdI σ 29 (nI s) f = f (gi σ 29 s) := rdI_at σ f (show s < len 29 from hs) (by decide)
theorem s_copy31 {f t : Nat} (hf : f < 4) (ht : t < 4) {F : Nat → Int32} : ∀ (n x : Nat) (σ : St), x ≤ 64 → 64 - x < n → (∀ c, c < 64 → x ≤ c → gi σ 30 (64 * f + c) = F c) →
    ∃ σ', f_X6_copy_31 n (nI f) (nI t) (nI x) σ = some (1, σ') ∧ gi σ' 29 t = 1 ∧ σ'.2 = σ.2 ∧ (∀ c, c < 64 → x ≤ c → gi σ' 30 (64 * t + c) = F c) ∧ ∀ p j, ¬ (p = 29 ∧ j = t) → ¬ (p = 30 ∧ 64 * t + x ≤ j ∧ j < 64 * t + 64) → gi σ' p j = gi σ p j := by
  intro n
  induction n with
  | zero => intro x σ h1 h2; omega
  | succ n ih =>
    intro x σ h1 h2 hF
    rw [f_X6_copy_31]
    by_cases hx : 64 ≤ x
    · rw [if_pos (show (64 : Int32) ≤ nI x from nI_le (a := 64) hx (by omega)), wrZ_at _ _ _ (show t < len 29 from ht) (by decide), zn_1]
      exact ⟨_, rfl, gi_si_same _ _ _ _, rfl, fun c h3 h4 => by omega, fun p j h3 h4 => gi_si_ne _ _ _ _ h3⟩
    · rw [if_neg (show ¬ (64 : Int32) ≤ nI x from nI_ge (a := x) (b := 64) (by omega) (by decide)), show (64 : Int32) = nI 64 from rfl, nI_mul, nI_add, nI_mul, nI_add, rdI_at _ _ (show 64 * f + x < len 30 by show _ < 256; omega) (by decide), hF x (by omega) (Nat.le_refl _), wrI_at _ _ _ (show 64 * t + x < len 30 by show _ < 256; omega) (by decide), nI_1]
      obtain ⟨σ', d1, d2, d3, d4, d5⟩ := ih (x + 1) (si σ 30 (64 * t + x) (F x)) (by omega) (by omega) (fun c h3 h4 => by rw [gi_si_ne _ _ _ _ (by omega)]; exact hF c h3 (by omega))
      refine ⟨σ', d1, d2, d3, fun c h3 h4 => ?_, fun p j h3 h4 => ?_⟩
      · by_cases e : c = x
        · rw [e, d5 30 _ (by omega) (by omega), gi_si_same]
        · exact d4 c h3 (by omega)
      · rw [d5 p j h3 (by omega), gi_si_ne _ _ _ _ (by omega)]
theorem m_copy {σ : St} {w h : Nat} {U D : Nat → Bool} {wt : Nat → Nat → Int} (h0 : RZ σ w h U D wt) (a b : Int32) : Both (f_X5_copy a b) (f_X6_copy a b) σ := by
  have har := area_le h0.1.1.2.1 h0.1.1.2.2.2.1
  unfold Both f_X5_copy f_X5_copy_14 f_X6_copy f_X6_copy_14
  rcases gate a (show 4 < 2 ^ 31 by decide) with ha | ⟨s, hs, rfl⟩
  · rw [bd_at (g5_noslot ha), if_pos rfl]
    refine ⟨_, σ, σ, rfl, ?_, h0.rel⟩
    rw [bd_at (g6_noslot ha), if_pos rfl]
  · rw [bd_at (g5_slot hs), if_neg (by decide)]
    rcases gate b (show 4 < 2 ^ 31 by decide) with hb | ⟨t, ht, rfl⟩
    · rw [bd_at (g5_noslot hb), if_pos rfl]
      refine ⟨_, σ, σ, rfl, ?_, h0.rel⟩
      rw [bd_at (g6_slot hs), if_neg (by decide), bd_at (g6_noslot hb), if_pos rfl]
    · rw [bd_at (g5_slot ht), if_neg (by decide), slot_rd hs]
      rcases h0.sl hs with ⟨q1, q2⟩ | ⟨q1, q2, K, k1, k2, k3⟩
      · rw [if_pos q1]
        refine ⟨_, σ, σ, rfl, ?_, h0.rel⟩
        rw [bd_at (g6_slot hs), if_neg (by decide), bd_at (g6_slot ht), if_neg (by decide), rd29 hs, if_pos q2]
      · rw [if_neg (by rw [q1]; decide), slot_rd ht, slot_rd hs, bd_at (s_take (5 + t) (5 + s) (Or.inr q1))]
        have x1 := takeS_eqx σ (5 + t) (5 + s)
        obtain ⟨σ2, d1, d2, d3, d4, d5⟩ := s_copy31 hs ht (F := fun c => gi σ 30 (64 * s + c)) FU 0 (takeS σ (5 + t) (5 + s)) (Nat.zero_le _) (by decide) (fun c hc _ => (x1 30 (by omega) _).1)
        refine ⟨1, takeS σ (5 + t) (5 + s), σ2, rfl, ?_, ?_⟩
        · rw [bd_at (g6_slot hs), if_neg (by decide), bd_at (g6_slot ht), if_neg (by decide), rd29 hs, (x1 29 (by omega) s).1, if_neg (by rw [q2]; decide)]
          exact d1
        · refine (h0.slot ht (fun p k h1 h2 h3 h4 => ?_) (fun p k h1 h2 => ?_) ?_).rel
          · rw [d5 p k h3 (by omega), (x1 p h1 k).1]
          · have : gl σ2 p k = gl (takeS σ (5 + t) (5 + s)) p k := by unfold gl; rw [d3]
            rw [this, (x1 p h1 k).2]
          · refine Or.inr ⟨?_, d2, K, k1, ?_, fun c hc => ?_⟩
            · rw [d5 _ _ (by omega) (by omega), takeS_0]; exact q1
            · intro c hc k hk
              have : gl σ2 (5 + t) (k + 1) = gl (takeS σ (5 + t) (5 + s)) (5 + t) (k + 1) := by unfold gl; rw [d3]
              rw [this]
              exact LC_take k2 c hc k hk
            · rw [d4 c (by omega) (Nat.zero_le _)]; exact k3 c hc
theorem m_place {σ : St} {w h : Nat} {U D : Nat → Bool} {wt : Nat → Nat → Int} (h0 : RZ σ w h U D wt) (a : Int32) : Both (f_X5_place a) (f_X6_place a) σ := by
  have har := area_le h0.1.1.2.1 h0.1.1.2.2.2.1
  unfold Both f_X5_place f_X6_place
  rcases gate a (show 4 < 2 ^ 31 by decide) with ha | ⟨s, hs, rfl⟩
  · rw [bd_at (g5_noslot ha), if_pos rfl]
    refine ⟨_, σ, σ, rfl, ?_, h0.rel⟩
    rw [bd_at (g6_noslot ha), if_pos rfl]
  · rw [bd_at (g5_slot hs), if_neg (by decide), slot_rd hs]
    rcases h0.sl hs with ⟨q1, q2⟩ | ⟨q1, q2, -⟩
    · rw [if_pos q1]
      refine ⟨_, σ, σ, rfl, ?_, h0.rel⟩
      rw [bd_at (g6_slot hs), if_neg (by decide), rd29 hs, if_pos q2]
    · obtain ⟨σ1, e1, e2, e3, e4⟩ := s_makeSteps h0
      rcases e2.sl hs with ⟨z1, -⟩ | ⟨z1, z2, K, k1, k2, k3⟩
      · exfalso
        have : gi σ1 (5 + s) 0 = gi σ (5 + s) 0 := (e4 (5 + s) (by unfold P6; omega) 0).1
        rw [z1, q1] at this
        exact absurd this (by decide)
      · have hI := LL_IsL h0.1.1.1 k1
        rw [if_neg (by rw [q1]; decide), bd_at e1, slot_rd hs, bd_at (s_waysAhead e2.1.1 e3 hI k2)]
        obtain ⟨σ2, d1, d2, d3, d4⟩ := s_layWays e2.1.2.2.1
        have g2 := e2.1.2.2.1.keep d4 (by omega) (by omega)
        refine ⟨_, σ1, σ2, rfl, ?_, (e2.scr' d4 (fun p hp => by unfold SCR; omega)).rel⟩
        rw [bd_at (g6_slot hs), if_neg (by decide), rd29 hs, if_neg (by rw [z2]; decide), bd_at d1]
        exact s_place36 g2 d2 hs hI (fun c hc => by rw [(d4 30 (by omega) _).1]; exact k3 c hc) FU 0 (Nat.zero_le _) (by unfold FU; omega)
