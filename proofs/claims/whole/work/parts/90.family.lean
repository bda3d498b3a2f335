/-! ===== HALF 2: the tree walked; family of the class ===== -/
theorem kd_skip (w : Nat) (U D : Nat → Bool) (N : Nat) (n : Nat) (K : Nat → Nat) {p : Nat} : ∀ (d j : Nat), j + d = p → p ≤ 64 → (∀ q, j ≤ q → q < p → ¬ chB w U D N K q = true) → kd' w U D N n K j = kd' w U D N n K p
  | 0, j, h1, _, _ => by rw [← h1, Nat.add_zero]
  | d + 1, j, h1, h2, h3 => by
    rw [← kd_skip w U D N n K d (j + 1) (by omega) h2 (fun q hq1 hq2 => h3 q (by omega) hq2)]
    cases n with
    | zero => rfl
    | succ n => rw [kd_s w U D N n K (show j < 64 by omega), if_neg (h3 j (Nat.le_refl _) (by omega)), List.nil_append]
theorem MK_m1 : MK (-1) 0 := fun i hi => by rw [tb_m1 i hi]; rfl
theorem MK_0 : MK 0 64 := fun i hi => by rw [tb_0, decide_eq_false (by omega)]
theorem lp_walk {w h : Nat} {U D : Nat → Bool} : ∀ (d : Nat) (K : Nat → Nat), mea w (w * h) true K ≤ d → ∀ (r j : Nat), j ≤ 64 → 64 - j ≤ r → ∀ (σ : St) (m : Int64) (f mv n : Nat), CG σ w h U D → CI6 σ w h U D → LC σ 10 (w * h) U K → MK m j → f ≤ 2000 → mv ≤ 2 * f → n + mv = FU →
    (f + (kd' w U D (w * h) d K j).length ≤ 2000 → ∃ σ', lp n f m mv σ = lp (n - 2 * (kd' w U D (w * h) d K j).length) (f + (kd' w U D (w * h) d K j).length) 0 (mv + 2 * (kd' w U D (w * h) d K j).length) σ' ∧ LC σ' 10 (w * h) U K ∧ σ'.1 = σ.1 ∧ eqx (fun p => p = 10) σ σ') ∧ (2000 < f + (kd' w U D (w * h) d K j).length → ∃ σ', lp n f m mv σ = some (nI 2001, σ') ∧ σ'.1 = σ.1 ∧ eqx (fun p => p = 10) σ σ') := by
  intro d
  induction d with
  | zero =>
    intro K hK r j hj hr σ m f mv n g g6 hL hm hf hmv hn
    have har := area_le g.2.1 g.2.2.2.1
    have hno : ∀ p, j ≤ p → ¬ chB w U D (w * h) K p = true := fun p _ hc => by
      have := UpN_mea g.1 g.2.1 har (show UpN w U D (w * h) true 1 K (tu w true K p) from ⟨p, (chB_iff.mp hc).1, rfl⟩)
      omega
    have e : (kd' w U D (w * h) 0 K j).length = 0 := rfl
    rw [e]
    refine ⟨fun _ => ⟨σ, ?_, hL, rfl, eqx.rf⟩, fun q => by omega⟩
    rw [Nat.mul_zero, Nat.sub_zero, Nat.add_zero, Nat.add_zero]
    obtain ⟨n, rfl⟩ : ∃ n', n = n' + 1 := ⟨n - 1, by unfold FU at hn; omega⟩
    by_cases hB : NoP w U D (w * h) false K
    · rw [lp_b g g6 hL hm hf (by omega) hno hB, lp_b g g6 hL MK_0 hf (by omega) (fun p hp hc => by have := (inn_of (chB_iff.mp hc).1.1).1; omega) hB]
    · have hex : ∃ c, atP w U D (w * h) false K c := by
        apply Classical.byContradiction
        intro q
        exact hB (fun c hc => q ⟨c, hc⟩)
      obtain ⟨q, hq, hmin⟩ := pk_least (fun c => atP w U D (w * h) false K c) hex
      obtain ⟨m', -, hstep⟩ := lp_c g g6 hL hq hmin
      rw [hstep hm hf (by omega) hno, hstep MK_0 hf (by omega) (fun p hp hc => by have := (inn_of (chB_iff.mp hc).1.1).1; omega)]
  | succ d ihd =>
    intro K hK r
    induction r with
    | zero =>
      intro j hj hr σ m f mv n g g6 hL hm hf hmv hn
      have har := area_le g.2.1 g.2.2.2.1
      have ej : j = 64 := by omega
      subst ej
      have e : (kd' w U D (w * h) (d + 1) K 64).length = 0 := by rw [kd_64]; rfl
      rw [e]
      refine ⟨fun _ => ⟨σ, ?_, hL, rfl, eqx.rf⟩, fun q => by omega⟩
      rw [Nat.mul_zero, Nat.sub_zero, Nat.add_zero, Nat.add_zero]
      have hno : ∀ p, 64 ≤ p → ¬ chB w U D (w * h) K p = true := fun p hp hc => by have := (inn_of (chB_iff.mp hc).1.1).1; omega
      obtain ⟨n, rfl⟩ : ∃ n', n = n' + 1 := ⟨n - 1, by unfold FU at hn; omega⟩
      by_cases hB : NoP w U D (w * h) false K
      · rw [lp_b g g6 hL hm hf (by omega) hno hB, lp_b g g6 hL MK_0 hf (by omega) hno hB]
      · have hex : ∃ c, atP w U D (w * h) false K c := by
          apply Classical.byContradiction
          intro q
          exact hB (fun c hc => q ⟨c, hc⟩)
        obtain ⟨q, hq, hmin⟩ := pk_least (fun c => atP w U D (w * h) false K c) hex
        obtain ⟨m', -, hstep⟩ := lp_c g g6 hL hq hmin
        rw [hstep hm hf (by omega) hno, hstep MK_0 hf (by omega) hno]
    | succ r ihr =>
      intro j hj hr σ m f mv n g g6 hL hm hf hmv hn
      have har := area_le g.2.1 g.2.2.2.1
      by_cases hex : ∃ p, j ≤ p ∧ chB w U D (w * h) K p = true
      · obtain ⟨p, ⟨hp, hc⟩, hmin⟩ := pk_least (fun p => j ≤ p ∧ chB w U D (w * h) K p = true) hex
        have hat := (chB_iff.mp hc).1
        have hp64 : p < 64 := by
          have := (inn_of hat.1).1
          omega
        have hmin' : ∀ q, j ≤ q → q < p → ¬ chB w U D (w * h) K q = true := fun q h1 h2 h3 => hmin q h2 ⟨h1, h3⟩
        have hm1 := UpN_mea g.1 g.2.1 har (show UpN w U D (w * h) true 1 K (tu w true K p) from ⟨p, hat, rfl⟩)
        rw [kd_skip w U D (w * h) (d + 1) K (p - j) j (by omega) (by omega) hmin', kd_s w U D (w * h) d K hp64, if_pos hc, sub_kd, List.length_append, List.length_cons]
        generalize hs1 : (kd' w U D (w * h) d (tu w true K p) 0).length = s1
        generalize hs2 : (kd' w U D (w * h) (d + 1) K (p + 1)).length = s2
        obtain ⟨n, rfl⟩ : ∃ n', n = n' + 1 := ⟨n - 1, by unfold FU at hn; omega⟩
        rw [lp_a g g6 hL hm hf (by omega) hp hc hmin']
        have hx1 := flipS_eqx σ 10 w (lshl 1 (nI p))
        have hL1 : LC (flipS σ 10 w (lshl 1 (nI p))) 10 (w * h) U (tu w true K p) := LC_flip g.1 g.2.1 har hL hat
        have g1 := g.keep hx1 (by decide)
        have g61 := g6.keep hx1 (by decide)
        by_cases hf1 : f + 1 ≤ 2000
        · have hE := ihd (tu w true K p) (by omega) 64 0 (by omega) (by omega) (flipS σ 10 w (lshl 1 (nI p))) (-1) (f + 1) (mv + 1) n g1 g61 hL1 MK_m1 hf1 (by omega) (by omega)
          rw [hs1] at hE
          by_cases hf2 : f + 1 + s1 ≤ 2000
          · obtain ⟨σ2, e1, e2, e3, e4⟩ := hE.1 hf2
            obtain ⟨t1, t2⟩ := tu_tu g.1 hat
            have t1' : atP w U D (w * h) false (tu w true K p) p := t1
            have t2' : tu w false (tu w true K p) p = K := t2
            have g2 := g1.keep e4 (by decide)
            have g62 := g61.keep e4 (by decide)
            obtain ⟨m', hm', hstep⟩ := lp_c g2 g62 e2 t1' (chB_iff.mp hc).2
            have hL3 : LC (flipS σ2 10 w (lshl 1 (nI p))) 10 (w * h) U K := by
              have := LC_flip g.1 g.2.1 har e2 t1'
              rw [t2'] at this
              exact this
            have hx3 := flipS_eqx σ2 10 w (lshl 1 (nI p))
            have hn2 : n - 2 * s1 = (n - 2 * s1 - 1) + 1 := by unfold FU at hn; omega
            have hbk : lp (n - 2 * s1) (f + 1 + s1) 0 (mv + 1 + 2 * s1) σ2 = lp (n - 2 * s1 - 1) (f + 1 + s1) m' (mv + 1 + 2 * s1 + 1) (flipS σ2 10 w (lshl 1 (nI p))) := by
              rw [hn2]
              exact hstep MK_0 hf2 (by omega) (fun p hp hc => by have := (inn_of (chB_iff.mp hc).1.1).1; omega)
            have hR := ihr (p + 1) (by omega) (by omega) (flipS σ2 10 w (lshl 1 (nI p))) m' (f + 1 + s1) (mv + 1 + 2 * s1 + 1) (n - 2 * s1 - 1) (g2.keep hx3 (by decide)) (g62.keep hx3 (by decide)) hL3 hm' hf2 (by omega) (by unfold FU at hn ⊢; omega)
            rw [hs2] at hR
            rw [e1, hbk]
            refine ⟨fun hq => ?_, fun hq => ?_⟩
            · obtain ⟨σ4, d1, d2, d3, d4⟩ := hR.1 (by omega)
              refine ⟨σ4, ?_, d2, d3.trans e3, eqx.tr hx1 (eqx.tr e4 (eqx.tr hx3 d4))⟩
              rw [d1]
              congr 1 <;> omega
            · obtain ⟨σ4, d1, d3, d4⟩ := hR.2 (by omega)
              exact ⟨σ4, d1, d3.trans e3, eqx.tr hx1 (eqx.tr e4 (eqx.tr hx3 d4))⟩
          · obtain ⟨σ2, e1, e3, e4⟩ := hE.2 (by omega)
            refine ⟨fun hq => by omega, fun _ => ⟨σ2, e1, e3, eqx.tr hx1 e4⟩⟩
        · have e : f + 1 = 2001 := by omega
          refine ⟨fun hq => by omega, fun _ => ⟨flipS σ 10 w (lshl 1 (nI p)), ?_, flipS_1 _ _ _ _, hx1⟩⟩
          obtain ⟨n, rfl⟩ : ∃ n', n = n' + 1 := ⟨n - 1, by unfold FU at hn; omega⟩
          rw [e]
          exact lp_x (show mv + 1 < 10000 by omega) _
      · have hno : ∀ p, j ≤ p → ¬ chB w U D (w * h) K p = true := fun p hp hc => hex ⟨p, hp, hc⟩
        rw [kd_skip w U D (w * h) (d + 1) K (64 - j) j (by omega) (Nat.le_refl _) (fun q h1 _ => hno q h1)]
        have e : (kd' w U D (w * h) (d + 1) K 64).length = 0 := by rw [kd_64]; rfl
        rw [e]
        refine ⟨fun _ => ⟨σ, ?_, hL, rfl, eqx.rf⟩, fun q => by omega⟩
        rw [Nat.mul_zero, Nat.sub_zero, Nat.add_zero, Nat.add_zero]
        have hno2 : ∀ p, 64 ≤ p → ¬ chB w U D (w * h) K p = true := fun p hp hc => by have := (inn_of (chB_iff.mp hc).1.1).1; omega
        obtain ⟨n, rfl⟩ : ∃ n', n = n' + 1 := ⟨n - 1, by unfold FU at hn; omega⟩
        by_cases hB : NoP w U D (w * h) false K
        · rw [lp_b g g6 hL hm hf (by omega) hno hB, lp_b g g6 hL MK_0 hf (by omega) hno2 hB]
        · have hex : ∃ c, atP w U D (w * h) false K c := by
            apply Classical.byContradiction
            intro q
            exact hB (fun c hc => q ⟨c, hc⟩)
          obtain ⟨q, hq, hmin⟩ := pk_least (fun c => atP w U D (w * h) false K c) hex
          obtain ⟨m', -, hstep⟩ := lp_c g g6 hL hq hmin
          rw [hstep hm hf (by omega) hno, hstep MK_0 hf (by omega) hno2]
/-- how many the class counts from a BOTTOM -/
def cf (w : Nat) (U D : Nat → Bool) (N : Nat) (B : Nat → Nat) : Nat := if (sub w U D N 512 B).length ≤ 2000 then (sub w U D N 512 B).length else 2001
theorem s_countFrom {σ : St} {w h : Nat} {U D : Nat → Bool} {B : Nat → Nat} (g : CG σ w h U D) (g6 : CI6 σ w h U D) (hL : LC σ 10 (w * h) U B) (hB : NoP w U D (w * h) false B) : ∃ σ', f_X4_countFrom (2000 : Int32) σ = some (nI (cf w U D (w * h) B), σ') ∧ σ'.1 = σ.1 ∧ eqx (fun p => p = 10) σ σ' := by
  have har := area_le g.2.1 g.2.2.2.1
  have hW := lp_walk 512 B (mea_le g.2.1 har B) 64 0 (by omega) (by omega) σ (-1) 1 0 FU g g6 hL MK_m1 (by omega) (by omega) rfl
  have e0 : f_X4_countFrom (2000 : Int32) σ = lp FU 1 (-1) 0 σ := rfl
  rw [e0]
  have es : (sub w U D (w * h) 512 B).length = 1 + (kd' w U D (w * h) 512 B 0).length := by rw [sub_kd, List.length_cons, Nat.add_comm]
  unfold cf
  rw [es]
  by_cases hq : 1 + (kd' w U D (w * h) 512 B 0).length ≤ 2000
  · rw [if_pos hq]
    obtain ⟨σ', e1, e2, e3, e4⟩ := hW.1 hq
    rw [e1]
    have hn2 : FU - 2 * (kd' w U D (w * h) 512 B 0).length = (FU - 2 * (kd' w U D (w * h) 512 B 0).length - 1) + 1 := by unfold FU; omega
    rw [hn2, lp_b (g.keep e4 (by decide)) (g6.keep e4 (by decide)) e2 MK_0 hq (by omega) (fun p hp hc => by have := (inn_of (chB_iff.mp hc).1.1).1; omega) hB]
    exact ⟨σ', rfl, e3, e4⟩
  · rw [if_neg hq]
    obtain ⟨σ', e1, e3, e4⟩ := hW.2 (by omega)
    exact ⟨σ', e1, e3, e4⟩
/-- what the class knows of a BOTTOM -/
def KB (σ : St) (w h : Nat) (U D : Nat → Bool) : Prop := gi σ 12 0 = 0 ∨ (gi σ 12 0 = 1 ∧ ∃ B, LL w U D (w * h) B ∧ NoP w U D (w * h) false B ∧ LC σ 12 (w * h) U B ∧ gi σ 4 4 = nI (cf w U D (w * h) B))
theorem KB.keep {P : Nat → Prop} {σ τ : St} {w h : Nat} {U D : Nat → Bool} (h0 : KB σ w h U D) (he : eqx P σ τ) (h1 : ¬ P 12) (h2 : ¬ P 4) : KB τ w h U D := by
  rcases h0 with h0 | ⟨h0, B, b1, b2, b3, b4⟩
  · exact Or.inl (by rw [(he 12 h1 0).1]; exact h0)
  · exact Or.inr ⟨by rw [(he 12 h1 0).1]; exact h0, B, b1, b2, b3.keep he h1, by rw [(he 4 h2 4).1]; exact b4⟩
def P1012 : Nat → Prop := fun p => p = 10 ∨ p = 12 ∨ p = 4
theorem s_family {σ : St} {w h q : Nat} {U D : Nat → Bool} {K : Nat → Nat} (hq : 5 ≤ q ∧ q ≤ 8) (g : CG σ w h U D) (g6 : CI6 σ w h U D) (hL : LC σ q (w * h) U K) (hK : LL w U D (w * h) K) (h1 : gi σ q 0 = 1) (hkb : KB σ w h U D) :
    ∃ σ' B n, f_X4_family q (2000 : Int32) σ = some (nI (cf w U D (w * h) B), σ') ∧ UpN w U D (w * h) false n K B ∧ NoP w U D (w * h) false B ∧ KB σ' w h U D ∧ eqx P1012 σ σ' := by
  have har := area_le g.2.1 g.2.2.2.1
  unfold f_X4_family f_X4_family_43 f_X4_family_64
  rw [bd_at (s_take 10 q (Or.inr h1))]
  have x1 := takeS_eqx σ 10 q
  have L1 := LC_take (a := 10) hL
  have g1 := g.keep x1 (by decide)
  have g61 := g6.keep x1 (by decide)
  have t0 := takeS_0 σ 10 q
  rw [h1] at t0
  have kb1 := hkb.keep x1 (by decide) (by decide)
  generalize takeS σ 10 q = σ1 at *
  obtain ⟨σ2, B, n, e1, e2, e3, e4, e5, e6⟩ := s_toEnd (by decide) false g1 g61 L1
  rw [bI_f] at e1
  rw [bd_at e1]
  have g2 := g1.keep e6 (by decide)
  have g62 := g61.keep e6 (by decide)
  have kb2 := kb1.keep e6 (by decide) (by decide)
  have h10 : gi σ2 10 0 = 1 := by unfold gi; rw [e5]; exact t0
  have hex2 : eqx P1012 σ σ2 := eqx.tr (x1.mono (fun p hp => Or.inl hp)) (e6.mono (fun p hp => Or.inl hp))
  have hBL := UpN_LL g.1 e2 hK
  -- counting anew
  have anew : ∃ σ', (bd (f_X2_take 12 10 σ2) fun _ σ2 => bd (f_X4_countFrom (2000 : Int32) σ2) fun v3 σ4 => fI σ4 4 4 v3 fun σ5 => some ((gi σ5 4 4), σ5)) = some (nI (cf w U D (w * h) B), σ') ∧ KB σ' w h U D ∧ eqx P1012 σ2 σ' := by
    rw [bd_at (s_take 12 10 (Or.inr h10))]
    have x3 := takeS_eqx σ2 12 10
    have L3 := LC_take (a := 12) e4
    have t3 := takeS_0 σ2 12 10
    rw [h10] at t3
    have L10 : LC (takeS σ2 12 10) 10 (w * h) U B := e4.keep x3 (by decide)
    have g3 := g2.keep x3 (by decide)
    have g63 := g62.keep x3 (by decide)
    generalize takeS σ2 12 10 = σ3 at *
    obtain ⟨σ4, d1, d2, d3⟩ := s_countFrom g3 g63 L10 e3
    rw [bd_at d1, fI_at, gi_si_same]
    refine ⟨_, rfl, Or.inr ⟨?_, B, hBL, e3, ?_, gi_si_same _ _ _ _⟩, ?_⟩
    · rw [gi_si_ne _ _ _ _ (by omega), (d3 12 (by decide) 0).1]; exact t3
    · exact (L3.keep d3 (by decide)).keep (P := fun p => p = 4) (eqx.si eqx.rf rfl) (by decide)
    · exact eqx.si (eqx.tr (x3.mono (fun p hp => Or.inr (Or.inl hp))) (d3.mono (fun p hp => Or.inl hp))) (Or.inr (Or.inr rfl))
  obtain ⟨σ', a1, a2, a3⟩ := anew
  rcases kb2 with kb | ⟨kb, B', b1, b2, b3, b4⟩
  · rw [if_pos kb]
    exact ⟨σ', B, n, a1, e2, e3, a2, eqx.tr hex2 a3⟩
  · rw [if_neg (by rw [kb]; decide)]
    have hlike := LC_same (D := D) har b3 e4 b1 hBL
    by_cases hBB : B' = B
    · rw [bd_at ((s_isLike 12 10 σ2).1 (hlike.mpr hBB)), if_neg (by decide), b4, hBB]
      exact ⟨σ2, B, n, rfl, e2, e3, Or.inr ⟨kb, B', b1, b2, b3, b4⟩, hex2⟩
    · rw [bd_at ((s_isLike 12 10 σ2).2 (fun z => hBB (hlike.mp z))), if_pos rfl]
      exact ⟨σ', B, n, a1, e2, e3, a2, eqx.tr hex2 a3⟩
