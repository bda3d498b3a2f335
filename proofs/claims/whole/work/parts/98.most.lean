/-! ===== HALF 2: join, layMost, layBar of the reference ===== -/
def P4041 : Nat → Prop := fun p => p = 40 ∨ p = 41
theorem s_join2 {w h : Nat} {U D : Nat → Bool} {mu : Nat → Option Nat} {Q : Nat → Nat} {n : Nat} {F : Nat → Int32} {S : Nat → Prop} (hQ : ∀ j, j < n → Q j < w * h ∧ U (Q j) = true) (hinj : ∀ i j, i < n → j < n → Q i = Q j → i = j) (hF : ∀ j, 1 ≤ j → j < n → ∃ j' k' d, j' < j ∧ k' < 3 ∧ dkO w D (Q j') k' = some d ∧ mu (Q j) = some d ∧ F (Q j) = nI (4 * Q j' + k')) (hF0 : F (Q 0) = -900009) (h0 : mu (Q 0) = none) :
    ∀ (i : Nat), i < n → ∀ (f k d : Nat) (σ : St) (mc : Nat → Option Nat), i < f → k < 3 → MG σ w h U D → (∀ u, u < 64 → gi σ 44 u = F u) → dkO w D (Q i) k = some d → (∀ u, mc u ≠ some d) → RMx σ mc (fun e => e = d) → MT w U D (w * h) mc → (∀ j, j ≤ i → mc (Q j) = mu (Q j)) → (∀ u d, S u → Ad w U D (w * h) u d → ∃ u', mc u' = some d ∧ S u') → ¬ S (Q i) →
    ∃ σ' mu', f_X6_join_2 (f + 1) (nI (4 * Q i + k)) σ = some ((), σ') ∧ RMr σ' mu' ∧ MT w U D (w * h) mu' ∧ eqx P4041 σ σ' ∧ (∀ u, S u → mu' u = mc u) ∧ mu' (Q 0) ≠ none ∧ (∀ u, (∀ j, j ≤ i → Q j ≠ u) → mu' u = mc u) ∧ ∀ u, mc u ≠ none → mu' u ≠ none := by
  intro i
  induction i using Nat.strongRecOn with
  | ind i ih =>
    intro hi f k d σ mc hf hk g hF44 hdk hfree hR hM hsame hS hnS
    have har := area_le g.2.1 g.2.2.2.1
    obtain ⟨q1, q2⟩ := hQ i hi
    have had := dkO_Ad g.1 q1 q2 hdk
    have hdl : d < 64 := by have := had.2.2.1; omega
    have hql : Q i < 64 := by omega
    rw [f_X6_join_2, if_neg (nI_none (by omega)), show (4 : Int32) = nI 4 from rfl, dvI_at _ (by omega) (by decide) (by decide), rmI_at _ (by omega) (by decide) (by decide), show (4 * Q i + k) / 4 = Q i by omega, show (4 * Q i + k) % 4 = k by omega, bd_at (s_downOf g q1 hk), hdk, oI_some, wrI_at _ _ _ (show Q i < len 40 from hql) (by decide), wrI_at _ _ _ (show d < len 41 from hdl) (by decide), rdI_at _ _ (show Q i < len 44 from hql) (by decide), gi_si_ne _ _ _ _ (by omega), gi_si_ne _ _ _ _ (by omega), hF44 (Q i) hql]
    have hex : eqx P4041 σ (si (si σ 40 (Q i) (nI d)) 41 d (nI (Q i))) := eqx.si (eqx.si eqx.rf (Or.inl rfl)) (Or.inr rfl)
    obtain ⟨M1, M2⟩ := MT_set hM had hfree
    have eS : (fun u => if u = Q i then some d else mc u) (Q i) = some d := if_pos rfl
    have eN : ∀ u, u ≠ Q i → (fun u => if u = Q i then some d else mc u) u = mc u := fun u hu => if_neg hu
    generalize (fun u => if u = Q i then some d else mc u) = m1 at *
    have hR1 : ∀ ho : Nat → Prop, (∀ d', mc (Q i) = some d' → ho d') → RMx (si (si σ 40 (Q i) (nI d)) 41 d (nI (Q i))) m1 ho := by
      intro ho hho
      refine ⟨fun u hu => ?_, fun e he hne => ⟨fun u hu => ?_, fun hn => ?_⟩⟩
      · rw [gi_si_ne _ _ _ _ (by omega), gi_si]
        by_cases z : u = Q i
        · rw [if_pos ⟨rfl, z⟩, z, eS]; rfl
        · rw [if_neg (by omega), eN u z]; exact hR.1 u hu
      · rw [gi_si]
        by_cases z : u = Q i
        · rw [z, eS] at hu
          rw [if_pos ⟨rfl, (Option.some.inj hu).symm⟩, z]
        · rw [eN u z] at hu
          have hed : e ≠ d := fun r => by rw [r] at hu; exact hfree u hu
          rw [if_neg (fun r => hed r.2), gi_si_ne _ _ _ _ (by omega)]
          exact (hR.2 e he hed).1 u hu
      · have hed : e ≠ d := fun r => by
          have := hn (Q i)
          rw [eS, r] at this
          exact this rfl
        rw [gi_si_ne _ _ _ _ (fun r => hed r.2), gi_si_ne _ _ _ _ (by omega)]
        refine (hR.2 e he hed).2 (fun u hu => ?_)
        by_cases z : u = Q i
        · rw [z] at hu; exact hne (hho e hu)
        · have := hn u
          rw [eN u z] at this
          exact this hu
    have hkeep : ∀ u, S u → m1 u = mc u := fun u hu => eN u (fun z => hnS (by rw [← z]; exact hu))
    by_cases hi0 : i = 0
    · subst hi0
      have hm0 : mc (Q 0) = none := by rw [hsame 0 (Nat.le_refl _)]; exact h0
      obtain ⟨f, rfl⟩ : ∃ f', f = f' + 1 := ⟨f - 1, by omega⟩
      rw [hF0, f_X6_join_2, if_pos rfl]
      refine ⟨_, _, rfl, hR1 (fun _ => False) (fun d' hd' => by rw [hm0] at hd'; cases hd'), M1, hex, hkeep, ?_, fun u hu => ?_, fun u hu => ?_⟩
      · rw [eS]; intro z; cases z
      · exact eN u (fun z => hu 0 (Nat.le_refl _) z.symm)
      · by_cases z : u = Q 0
        · rw [z, eS]; intro r; cases r
        · rw [eN u z]; exact hu
    · obtain ⟨j', k', d', p1, p2, p3, p4, p5⟩ := hF i (by omega) hi
      have hmi : mc (Q i) = some d' := by rw [hsame i (Nat.le_refl _)]; exact p4
      obtain ⟨f, rfl⟩ : ∃ f', f = f' + 1 := ⟨f - 1, by omega⟩
      rw [p5]
      have hnS' : ¬ S (Q j') := fun z => by
        obtain ⟨r1, r2⟩ := hQ j' (by omega)
        obtain ⟨u', s1, s2⟩ := hS (Q j') d' z (dkO_Ad g.1 r1 r2 p3)
        rw [hM.2 u' (Q i) d' s1 hmi] at s2
        exact hnS s2
      obtain ⟨σ', mu', c1, c2, c3, c4, c5, c6, c7, c8⟩ := ih j' p1 (by omega) f k' d' (si (si σ 40 (Q i) (nI d)) 41 d (nI (Q i))) m1 (by omega) p2 (g.keep hex (by unfold P4041; omega) (by unfold P4041; omega)) (fun u hu => by rw [gi_si_ne _ _ _ _ (by omega), gi_si_ne _ _ _ _ (by omega)]; exact hF44 u hu) p3 (M2 d' hmi) (hR1 (fun e => e = d') (fun e he => by rw [hmi] at he; exact (Option.some.inj he).symm)) M1 (fun j hj => by
        have hne : Q j ≠ Q i := fun z => by have := hinj j i (by omega) hi z; omega
        rw [eN _ hne]
        exact hsame j (by omega)) (fun u e hu he => by
        obtain ⟨u', s1, s2⟩ := hS u e hu he
        exact ⟨u', by rw [hkeep u' s2]; exact s1, s2⟩) hnS'
      refine ⟨σ', mu', c1, c2, c3, eqx.tr hex c4, fun u hu => by rw [c5 u hu, hkeep u hu], c6, fun u hu => ?_, fun u hu => c8 u ?_⟩
      · rw [c7 u (fun j hj => hu j (by omega))]
        exact eN u (fun z => hu i (Nat.le_refl _) z.symm)
      · by_cases z : u = Q i
        · rw [z, eS]; intro r; cases r
        · rw [eN u z]; exact hu
/-- after the UP below c -/
def LMs (σ : St) (w h : Nat) (U D : Nat → Bool) (c : Nat) (mu : Nat → Option Nat) (S : Nat → Prop) : Prop := RMr σ mu ∧ MT w U D (w * h) mu ∧ (∀ u, c ≤ u → mu u = none) ∧ (∀ u d, S u → Ad w U D (w * h) u d → ∃ u', mu u' = some d ∧ S u') ∧ ∀ u, u < c → U u = true → mu u = none → S u
def P4044 : Nat → Prop := fun p => 40 ≤ p ∧ p ≤ 44
theorem MG4 {σ τ : St} {w h : Nat} {U D : Nat → Bool} (g : MG σ w h U D) (he : eqx P4044 σ τ) : MG τ w h U D := g.keep he (by unfold P4044; omega) (by unfold P4044; omega)
theorem s_lm50 {w h : Nat} {U D : Nat → Bool} {mu : Nat → Option Nat} {S : Nat → Prop} {c : Nat} (hc : c < w * h) (hU : U c = true) (k32 : Int32 → St → Option (Unit × St)) : ∀ (n x : Nat) (σ : St), x ≤ 64 → 64 - x < n → MG σ w h U D → LMs σ w h U D c mu S → (∀ u, u < x → gi σ 42 u = bI (decide (u = c))) →
    ∃ σ' mu' S', f_X6_layMost_50 k32 n (nI c) (nI x) σ = k32 (nI (c + 1)) σ' ∧ LMs σ' w h U D (c + 1) mu' S' ∧ eqx P4044 σ σ' := by
  intro n
  induction n with
  | zero => intro x σ h1 h2; omega
  | succ n ih =>
    intro x σ h1 h2 g hL hmt
    have har := area_le g.2.1 g.2.2.2.1
    rw [f_X6_layMost_50]
    by_cases hx : 64 ≤ x
    · rw [if_pos (show (64 : Int32) ≤ nI x from nI_le (a := 64) hx (by omega)), show (0 : Int32) = nI 0 from rfl, wrI_at _ _ _ (show 0 < len 43 by decide) (by decide), wrI_at _ _ _ (show c < len 44 by show _ < 64; omega) (by decide)]
      have hex : eqx PQ σ (si (si σ 43 0 (nI c)) 44 c (-900009)) := eqx.si (eqx.si eqx.rf (Or.inr (Or.inl rfl))) (Or.inr (Or.inr rfl))
      have hPQ : ∀ p, PQ p → P4044 p := fun p hp => by unfold PQ at hp; unfold P4044; omega
      have hP41 : ∀ p, P4041 p → P4044 p := fun p hp => by unfold P4041 at hp; unfold P4044; omega
      obtain ⟨l1, l2, l3, l4, l5⟩ := hL
      have hR1 : RMr (si (si σ 43 0 (nI c)) 44 c (-900009)) mu := RMx.keep l1 hex (by unfold PQ; omega) (by unfold PQ; omega)
      have g1 := g.keep hex (by unfold PQ; omega) (by unfold PQ; omega)
      have hq0 : LQ (si (si σ 43 0 (nI c)) 44 c (-900009)) w h U D mu (fun _ => c) 1 (fun u => decide (u = c)) 1 := by
        refine ⟨fun j hj => ⟨?_, hc, hU⟩, fun u hu => ?_, fun u hu => ?_, fun i j hi hj _ => by omega, fun j hj1 hj2 => by omega⟩
        · rw [show j = 0 by omega, gi_si_ne _ _ _ _ (by omega), gi_si_same]
        · rw [gi_si_ne _ _ _ _ (by omega), gi_si_ne _ _ _ _ (by omega)]; exact hmt u (by omega)
        · rw [decide_eq_true_eq]; exact ⟨fun z => ⟨0, by omega, z.symm⟩, fun ⟨j, _, z⟩ => z.symm⟩
      unfold f_X6_look
      obtain ⟨σ1, Q1, n1, mt1, c1, c2⟩ := s_look4 l2 FU 0 _ (fun _ => c) 1 (fun u => decide (u = c)) (by omega) (by decide) g1 hR1 (Nat.le_refl _) hq0 (fun j hj => by omega)
      obtain ⟨b1', b2', b3', b4', b5', b6'⟩ := id c1
      have hQ0 : Q1 0 = c := (b3' 0 (by omega)).1
      have hcmt : mt1 c = true := (b1'.2.2.1 c (by omega)).mpr ⟨0, by omega, hQ0⟩
      have g2 := g1.keep b5' (by unfold PQ; omega) (by unfold PQ; omega)
      have hR2 : RMr σ1 mu := RMx.keep hR1 b5' (by unfold PQ; omega) (by unfold PQ; omega)
      rcases c2 with ⟨j, k', d, p1, p2, p3, p4, p5⟩ | ⟨p1, p2⟩
      · have p5' : f_X6_look_4 FU (1 : Int32) (0 : Int32) (si (si σ 43 0 (nI c)) 44 c (-900009)) = some (nI (4 * Q1 j + k'), σ1) := p5
        rw [bd_at p5']
        unfold f_X6_join f_X6_layMost_102
        have hnS : ¬ S (Q1 j) := fun z => by
          obtain ⟨r1, r2, r3⟩ := b1'.1 j p1
          obtain ⟨u', s1, -⟩ := l4 (Q1 j) d z (dkO_Ad g.1 r2 r3 p3)
          exact p4 u' s1
        have h44 : gi σ1 44 c = -900009 := by
          rw [(b3' 0 (by omega)).2]
          exact gi_si_same _ _ _ _
        obtain ⟨σ2, mu2, d1, d2, d3, d4, d5, d6, d7, d8⟩ := s_join2 (mu := mu) (Q := Q1) (n := n1) (F := fun u => gi σ1 44 u) (S := S) (fun j hj => (b1'.1 j hj).2) b1'.2.2.2.1 b1'.2.2.2.2 (by rw [hQ0]; exact h44) (by rw [hQ0]; exact l3 c (Nat.le_refl _)) j p1 (FU - 1) k' d σ1 mu (by have := LQ_n b1'; unfold FU; omega) p2 g2 (fun u _ => rfl) p3 p4 ⟨hR2.1, fun e he _ => hR2.2 e he (fun z => z)⟩ l2 (fun _ _ => rfl) l4 hnS
        have d1' : f_X6_join_2 FU (nI (4 * Q1 j + k')) σ1 = some ((), σ2) := d1
        rw [bd_at d1', nI_1]
        refine ⟨σ2, mu2, S, rfl, ⟨d2, d3, fun u hu => ?_, fun u e hu he => ?_, fun u hu h1 h2 => ?_⟩, eqx.tr (hex.mono hPQ) (eqx.tr (b5'.mono hPQ) (d4.mono hP41))⟩
        · rw [d7 u (fun i hi z => ?_)]
          · exact l3 u (by omega)
          · by_cases i0 : i = 0
            · rw [i0, hQ0] at z; omega
            · obtain ⟨-, -, dd, -, -, -, r4, -⟩ := b1'.2.2.2.2 i (by omega) (by omega)
              rw [z, l3 u (by omega)] at r4
              cases r4
        · obtain ⟨u', s1, s2⟩ := l4 u e hu he
          exact ⟨u', by rw [d5 u' s2]; exact s1, s2⟩
        · by_cases e : u = c
          · rw [e, ← hQ0] at h2; exact absurd h2 d6
          · refine l5 u (by omega) h1 ?_
            apply Classical.byContradiction
            intro z
            exact d8 u z h2
      · have p2' : f_X6_look_4 FU (1 : Int32) (0 : Int32) (si (si σ 43 0 (nI c)) 44 c (-900009)) = some (-900009, σ1) := p2
        rw [bd_at p2']
        have hj : f_X6_join (-900009) σ1 = some ((), σ1) := by
          show f_X6_join_2 (999999 + 1) (-900009) σ1 = _
          rw [f_X6_join_2, if_pos rfl]
        rw [bd_at hj]
        unfold f_X6_layMost_102
        rw [nI_1]
        refine ⟨σ1, mu, fun u => S u ∨ mt1 u = true, rfl, ⟨hR2, l2, fun u hu => l3 u (by omega), fun u e hu he => ?_, fun u hu h1 h2 => ?_⟩, eqx.tr (hex.mono hPQ) (b5'.mono hPQ)⟩
        · rcases hu with hu | hu
          · obtain ⟨u', s1, s2⟩ := l4 u e hu he
            exact ⟨u', s1, Or.inl s2⟩
          · obtain ⟨j, j1, j2⟩ := (b1'.2.2.1 u (by have := he.1; omega)).mp hu
            obtain ⟨k, k1, k2⟩ := Ad_dkO he
            rw [← j2] at k2
            obtain ⟨u', s1, s2⟩ := p1 j j1 k k1 e k2
            exact ⟨u', s1, Or.inr s2⟩
        · by_cases e : u = c
          · rw [e]; exact Or.inr hcmt
          · exact Or.inl (l5 u (by omega) h1 h2)
    · rw [if_neg (show ¬ (64 : Int32) ≤ nI x from nI_ge (a := x) (b := 64) (by omega) (by decide))]
      unfold f_X6_layMost_71
      have go : ∃ σ' mu' S', (wrZ σ 42 (nI x) (bI (decide (x = c))) fun σ1 => f_X6_layMost_50 k32 n (nI c) (nI x + 1) σ1) = k32 (nI (c + 1)) σ' ∧ LMs σ' w h U D (c + 1) mu' S' ∧ eqx P4044 σ σ' := by
        rw [wrZ_at _ _ _ (show x < len 42 by show _ < 64; omega) (by decide), zn_bI, nI_1]
        have hex : eqx (fun p => p = 42) σ (si σ 42 x (bI (decide (x = c)))) := eqx.si eqx.rf rfl
        have hex4 : eqx P4044 σ (si σ 42 x (bI (decide (x = c)))) := hex.mono (fun p hp => by unfold P4044; omega)
        obtain ⟨l1, l2, l3, l4, l5⟩ := hL
        obtain ⟨σ', mu', S', e1, e2, e3⟩ := ih (x + 1) (si σ 42 x (bI (decide (x = c)))) (by omega) (by omega) (MG4 g hex4) ⟨RMx.keep l1 hex (by omega) (by omega), l2, l3, l4, l5⟩ (fun u hu => by
          rw [gi_si]
          by_cases e : u = x
          · rw [if_pos ⟨rfl, e⟩, e]
          · rw [if_neg (by omega)]; exact hmt u (by omega))
        exact ⟨σ', mu', S', e1, e2, eqx.tr hex4 e3⟩
      by_cases e : x = c
      · rw [if_pos (by rw [e])]
        rw [decide_eq_true e, bI_t] at go
        exact go
      · rw [if_neg (fun z => e ((nI_eq (by omega) (by omega)).mp z))]
        rw [decide_eq_false e, bI_f] at go
        exact go
theorem s_lm32 {w h : Nat} {U D : Nat → Bool} : ∀ (n c : Nat) (σ : St) (mu : Nat → Option Nat) (S : Nat → Prop), c ≤ w * h → w * h - c < n → MG σ w h U D → LMs σ w h U D c mu S →
    ∃ σ' mu' S', f_X6_layMost_32 n (nI c) σ = some ((), σ') ∧ LMs σ' w h U D (w * h) mu' S' ∧ eqx P4044 σ σ' := by
  intro n
  induction n with
  | zero => intro c σ mu S h1 h2; omega
  | succ n ih =>
    intro c σ mu S h1 h2 g hL
    have har := area_le g.2.1 g.2.2.2.1
    rw [f_X6_layMost_32, bd_at (s_cells g)]
    by_cases hc : w * h ≤ c
    · have e : c = w * h := by omega
      rw [if_pos (nI_le hc (by omega))]
      rw [e] at hL
      exact ⟨σ, mu, S, rfl, hL, eqx.rf⟩
    · have hc' : c < w * h := by omega
      rw [if_neg (nI_ge hc' (by omega)), bd_at (s_isUp g hc')]
      cases hU : U c with
      | false =>
        rw [if_pos bI_f]
        unfold f_X6_layMost_102
        rw [nI_1]
        obtain ⟨l1, l2, l3, l4, l5⟩ := hL
        refine ih (c + 1) σ mu S (by omega) (by omega) g ⟨l1, l2, fun u hu => l3 u (by omega), l4, fun u hu q1 q2 => ?_⟩
        by_cases e : u = c
        · rw [e, hU] at q1; cases q1
        · exact l5 u (by omega) q1 q2
      | true =>
        rw [if_neg bIt]
        obtain ⟨σ1, mu1, S1, e1, e2, e3⟩ := s_lm50 hc' hU (f_X6_layMost_32 n) FU 0 σ (Nat.zero_le _) (by decide) g hL (fun u hu => by omega)
        rw [show nI 0 = 0 from rfl] at e1
        rw [e1]
        obtain ⟨σ2, mu2, S2, d1, d2, d3⟩ := ih (c + 1) σ1 mu1 S1 (by omega) (by omega) (MG4 g e3) e2
        exact ⟨σ2, mu2, S2, d1, d2, eqx.tr e3 d3⟩
theorem s_lm2 {w h : Nat} {U D : Nat → Bool} : ∀ (n x : Nat) (σ : St), x ≤ 64 → 64 - x < n → MG σ w h U D → (∀ u, u < x → gi σ 40 u = -900009 ∧ gi σ 41 u = -900009) →
    ∃ σ' mu' S', f_X6_layMost_2 n (nI x) σ = some ((), σ') ∧ LMs σ' w h U D (w * h) mu' S' ∧ eqx P4044 σ σ' := by
  intro n
  induction n with
  | zero => intro x σ h1 h2; omega
  | succ n ih =>
    intro x σ h1 h2 g h0
    have har := area_le g.2.1 g.2.2.2.1
    rw [f_X6_layMost_2]
    by_cases hx : 64 ≤ x
    · rw [if_pos (show (64 : Int32) ≤ nI x from nI_le (a := 64) hx (by omega))]
      refine s_lm32 FU 0 σ (fun _ => none) (fun _ => False) (Nat.zero_le _) (by unfold FU; omega) g ⟨⟨fun u hu => by rw [(h0 u (by omega)).1]; rfl, fun d hd _ => ⟨fun u hu => (by cases hu), fun _ => (h0 d (by omega)).2⟩⟩, ⟨fun u d hu => (by cases hu), fun u u' d hu => (by cases hu)⟩, fun _ _ => rfl, fun u d hu => hu.elim, fun u hu => by omega⟩
    · rw [if_neg (show ¬ (64 : Int32) ≤ nI x from nI_ge (a := x) (b := 64) (by omega) (by decide)), wrI_at _ _ _ (show x < len 40 by show _ < 64; omega) (by decide), wrI_at _ _ _ (show x < len 41 by show _ < 64; omega) (by decide), nI_1]
      have hex : eqx P4044 σ (si (si σ 40 x (-900009)) 41 x (-900009)) := eqx.si (eqx.si eqx.rf (by unfold P4044; omega)) (by unfold P4044; omega)
      obtain ⟨σ2, mu2, S2, d1, d2, d3⟩ := ih (x + 1) _ (by omega) (by omega) (MG4 g hex) (fun u hu => by
        rw [gi_si_ne _ _ _ _ (show ¬ (40 = 41 ∧ u = x) by omega), gi_si, gi_si]
        by_cases e : u = x
        · rw [if_pos ⟨rfl, e⟩, if_pos ⟨rfl, e⟩]; exact ⟨rfl, rfl⟩
        · rw [if_neg (by omega), if_neg (by omega), gi_si_ne _ _ _ _ (by omega)]; exact h0 u (by omega))
      exact ⟨σ2, mu2, S2, d1, d2, eqx.tr hex d3⟩
theorem s_layMost {σ : St} {w h : Nat} {U D : Nat → Bool} (g : MG σ w h U D) : ∃ σ' mu' S', f_X6_layMost σ = some ((), σ') ∧ LMs σ' w h U D (w * h) mu' S' ∧ eqx P4044 σ σ' := s_lm2 FU 0 σ (Nat.zero_le _) (by decide) g (fun u hu => by omega)
theorem oI_no {w h : Nat} {U D : Nat → Bool} {mu : Nat → Option Nat} (har : w * h ≤ 64) (hM : MT w U D (w * h) mu) (u : Nat) : oI (mu u) = -900009 ↔ mu u = none := by
  cases hm : mu u with
  | none => exact ⟨fun _ => rfl, fun _ => rfl⟩
  | some d =>
    have := (hM.1 u d hm).2.2.1
    exact ⟨fun q => absurd q (nI_none (by omega)), fun q => by cases q⟩
theorem s_mostNow4 {σ : St} {w h : Nat} {U D : Nat → Bool} {mu : Nat → Option Nat} (g : MG σ w h U D) (hR : RMr σ mu) (hM : MT w U D (w * h) mu) : ∀ (n c : Nat), c ≤ w * h → w * h - c < n → f_X6_mostNow_4 n (nI (cnt (fun u => (mu u).isSome) c)) (nI c) σ = some (nI (cnt (fun u => (mu u).isSome) (w * h)), σ) := by
  have har := area_le g.2.1 g.2.2.2.1
  intro n
  induction n with
  | zero => intro c h1 h2; omega
  | succ n ih =>
    intro c h1 h2
    rw [f_X6_mostNow_4, bd_at (s_cells g)]
    by_cases hc : w * h ≤ c
    · have e : c = w * h := by omega
      rw [if_pos (nI_le hc (by omega)), e]
    · rw [if_neg (nI_ge (by omega) (by omega)), rdI_at _ _ (show c < len 40 by show _ < 64; omega) (by decide), hR.1 c (by omega)]
      unfold f_X6_mostNow_29
      have key := ih (c + 1) (by omega) (by omega)
      have hs1 : cnt (fun u => (mu u).isSome) (c + 1) = cnt (fun u => (mu u).isSome) c + (if (mu c).isSome = true then 1 else 0) := rfl
      rw [hs1] at key
      by_cases hm : mu c = none
      · rw [if_pos ((oI_no har hM c).mpr hm), nI_1, show nI (cnt (fun u => (mu u).isSome) c) + 0 = nI (cnt (fun u => (mu u).isSome) c + 0) from nI_add _ 0]
        rw [hm, if_neg (by decide)] at key
        exact key
      · rw [if_neg (fun z => hm ((oI_no har hM c).mp z)), nI_1, nI_1]
        rw [if_pos (by cases z : mu c with
          | none => exact absurd z hm
          | some d => rfl)] at key
        exact key
def brB (U : Nat → Bool) (N : Nat) (mu : Nat → Option Nat) (u : Nat) : Bool := decide (u < N) && (U u && (mu u).isNone)
theorem brB_iff {U : Nat → Bool} {N : Nat} {mu : Nat → Option Nat} {u : Nat} : brB U N mu u = true ↔ u < N ∧ U u = true ∧ mu u = none := by
  unfold brB
  simp only [Bool.and_eq_true, decide_eq_true_eq, Option.isNone_iff_eq_none]
theorem s_lb97 {σ : St} {w h : Nat} {U D : Nat → Bool} {mt : Nat → Bool} (g : MG σ w h U D) (h42 : ∀ u, u < 64 → gi σ 42 u = bI (mt u)) : ∀ (n c : Nat), c ≤ w * h → w * h - c < n → f_X6_layBar_97 n (nI (cnt mt c)) (nI c) σ = some (nI (cnt mt (w * h)), σ) := by
  have har := area_le g.2.1 g.2.2.2.1
  intro n
  induction n with
  | zero => intro c h1 h2; omega
  | succ n ih =>
    intro c h1 h2
    rw [f_X6_layBar_97, bd_at (s_cells g)]
    by_cases hc : w * h ≤ c
    · have e : c = w * h := by omega
      rw [if_pos (nI_le hc (by omega)), e]
    · rw [if_neg (nI_ge (by omega) (by omega)), rdI_at _ _ (show c < len 42 by show _ < 64; omega) (by decide), h42 c (by omega)]
      unfold f_X6_layBar_122
      have key := ih (c + 1) (by omega) (by omega)
      have hs1 : cnt mt (c + 1) = cnt mt c + (if mt c = true then 1 else 0) := rfl
      rw [hs1] at key
      cases hm : mt c with
      | false =>
        rw [if_pos bI_f, nI_1, show nI (cnt mt c) + 0 = nI (cnt mt c + 0) from nI_add _ 0]
        rw [hm, if_neg (by decide)] at key
        exact key
      | true =>
        rw [if_neg bIt, nI_1, nI_1]
        rw [hm, if_pos rfl] at key
        exact key
/-- THE BAR, in the reference -/
def BR (σ : St) (w h : Nat) (U D : Nat → Bool) (mt : Nat → Bool) : Prop := ∃ mu, MT w U D (w * h) mu ∧ ZC w U D (w * h) mu (fun u => mt u = true) ∧ ZM w U D (w * h) mu (fun u => mt u = true) ∧ ∀ u, u < 64 → gi σ 42 u = bI (mt u)
theorem s_lb8 {w h : Nat} {U D : Nat → Bool} {mu : Nat → Option Nat} {S : Nat → Prop} : ∀ (n c m : Nat) (σ : St) (Q : Nat → Nat), c ≤ 64 → 64 - c < n → m ≤ c → MG σ w h U D → LMs σ w h U D (w * h) mu S → (∀ j, j < m → gi σ 43 j = nI (Q j) ∧ Q j < c) → (∀ u, u < c → gi σ 42 u = bI (brB U (w * h) mu u)) → (∀ u, u < c → (brB U (w * h) mu u = true ↔ ∃ j, j < m ∧ Q j = u)) → (∀ i j, i < m → j < m → Q i = Q j → i = j) →
    ∃ σ' mt, f_X6_layBar_8 n (nI m) (nI c) σ = some (nI (cnt mt (w * h)), σ') ∧ BR σ' w h U D mt ∧ eqx P4044 σ σ' := by
  intro n
  induction n with
  | zero => intro c m σ Q h1 h2; omega
  | succ n ih =>
    intro c m σ Q h1 h2 hmc g hL q1 q2 q3 q4
    have har := area_le g.2.1 g.2.2.2.1
    obtain ⟨l1, l2, l3, l4, l5⟩ := id hL
    rw [f_X6_layBar_8]
    by_cases hc : 64 ≤ c
    · rw [if_pos (show (64 : Int32) ≤ nI c from nI_le (a := 64) hc (by omega))]
      unfold f_X6_layBar_91
      have hbr : ∀ j, j < m → Q j < w * h ∧ U (Q j) = true ∧ mu (Q j) = none := fun j hj => brB_iff.mp ((q3 (Q j) (q1 j hj).2).mpr ⟨j, hj, rfl⟩)
      have hq : LQ σ w h U D mu Q m (brB U (w * h) mu) m := ⟨fun j hj => ⟨(q1 j hj).1, (hbr j hj).1, (hbr j hj).2.1⟩, fun u hu => q2 u (by omega), fun u hu => q3 u (by omega), q4, fun j h3 h4 => by omega⟩
      have fin : ∀ (τ : St) (mt : Nat → Bool) (Q' : Nat → Nat) (n' : Nat), LR σ τ w h U D mu m Q Q' m n' (brB U (w * h) mu) mt → (∀ j, j < n' → Dn w D mu (Q' j) 3 mt) → ∃ σ' mt, f_X6_layBar_97 FU (0 : Int32) (0 : Int32) τ = some (nI (cnt mt (w * h)), σ') ∧ BR σ' w h U D mt ∧ eqx P4044 σ σ' := by
        intro τ mt Q' n' hLR hDn
        obtain ⟨b1', b2', b3', b4', b5', b6'⟩ := id hLR
        have hout : ∀ u, mt u = true → u < 64 → u < w * h ∧ U u = true ∧ ∃ j, j < n' ∧ Q' j = u := fun u hu hu64 => by
          obtain ⟨j, j1, j2⟩ := (b1'.2.2.1 u hu64).mp hu
          have := b1'.1 j j1
          rw [j2] at this
          exact ⟨this.2.1, this.2.2, j, j1, j2⟩
        let mt2 : Nat → Bool := fun u => decide (u < 64) && mt u
        have m2 : ∀ u, mt2 u = true ↔ u < 64 ∧ mt u = true := fun u => by
          show (decide (u < 64) && mt u) = true ↔ _
          rw [Bool.and_eq_true, decide_eq_true_eq]
        have h42 : ∀ u, u < 64 → gi τ 42 u = bI (mt2 u) := fun u hu => by
          rw [b1'.2.1 u hu]
          show bI (mt u) = bI (decide (u < 64) && mt u)
          rw [decide_eq_true hu, Bool.true_and]
        have g' := g.keep b5' (by unfold PQ; omega) (by unfold PQ; omega)
        have h97 := s_lb97 g' h42 FU 0 (Nat.zero_le _) (by unfold FU; omega)
        refine ⟨τ, mt2, h97, ⟨mu, l2, ⟨fun u hu => ?_, fun u hu h3 h4 => ?_, fun u d hu had => ?_⟩, fun T t1 t2 u hu => ?_, h42⟩, b5'.mono (fun p hp => by unfold PQ at hp; unfold P4044; omega)⟩
        · obtain ⟨z1, z2⟩ := (m2 u).mp hu
          have := hout u z2 z1
          exact ⟨this.1, this.2.1⟩
        · exact (m2 u).mpr ⟨by omega, b4' u (brB_iff.mpr ⟨hu, h3, h4⟩)⟩
        · obtain ⟨z1, z2⟩ := (m2 u).mp hu
          obtain ⟨-, -, j, j1, j2⟩ := hout u z2 z1
          obtain ⟨k, k1, k2⟩ := Ad_dkO had
          rw [← j2] at k2
          obtain ⟨u', s1, s2⟩ := hDn j j1 k k1 d k2
          exact ⟨u', s1, (m2 u').mpr ⟨by have := (l2.1 u' d s1).1; omega, s2⟩⟩
        · obtain ⟨z1, z2⟩ := (m2 u).mp hu
          obtain ⟨-, -, j, j1, j2⟩ := hout u z2 z1
          rw [← j2]
          exact b6' T t2 (fun j hj => t1 (Q j) (hbr j hj).1 (hbr j hj).2.1 (hbr j hj).2.2) j j1
      by_cases hm0 : m = 0
      · rw [if_pos (by rw [hm0]; rfl)]
        exact fin σ (brB U (w * h) mu) Q m (LR.rf hq) (fun j hj => by omega)
      · rw [if_neg (nI_ne0 (by omega) (by omega))]
        unfold f_X6_look
        obtain ⟨σ1, Q1, n1, mt1, c1, c2⟩ := s_look4 l2 FU 0 σ Q m (brB U (w * h) mu) (by omega) (by decide) g l1 (Nat.le_refl _) hq (fun j hj => by omega)
        rcases c2 with ⟨j, k', d, p1, p2, p3, p4, p5⟩ | ⟨p1, p2⟩
        · exfalso
          obtain ⟨b1', b2', b3', b4', b5', b6'⟩ := id c1
          have hSj : S (Q1 j) := b6' S (fun u d u' hu had hmu => by
            obtain ⟨u2, s1, s2⟩ := l4 u d hu had
            rw [l2.2 u' u2 d hmu s1]
            exact s2) (fun j hj => l5 (Q j) (hbr j hj).1 (hbr j hj).2.1 (hbr j hj).2.2) j p1
          obtain ⟨r1, r2, r3⟩ := b1'.1 j p1
          obtain ⟨u', s1, -⟩ := l4 (Q1 j) d hSj (dkO_Ad g.1 r2 r3 p3)
          exact p4 u' s1
        · have p2' : f_X6_look_4 FU (nI m) (0 : Int32) σ = some (-900009, σ1) := p2
          rw [bd_at p2']
          exact fin σ1 mt1 Q1 n1 c1 p1
    · rw [if_neg (show ¬ (64 : Int32) ≤ nI c from nI_ge (a := c) (b := 64) (by omega) (by decide)), bd_at (s_cells g)]
      have go : ∃ σ' mt, f_X6_layBar_51 (f_X6_layBar_8 n) (nI m) (nI c) (nI c) (bI (brB U (w * h) mu c)) σ = some (nI (cnt mt (w * h)), σ') ∧ BR σ' w h U D mt ∧ eqx P4044 σ σ' := by
        unfold f_X6_layBar_51 f_X6_layBar_71
        rw [wrZ_at _ _ _ (show c < len 42 by show _ < 64; omega) (by decide), zn_bI, rdI_at _ _ (show c < len 42 by show _ < 64; omega) (by decide), gi_si_same]
        have hex : eqx P4044 σ (si σ 42 c (bI (brB U (w * h) mu c))) := eqx.si eqx.rf (by unfold P4044; omega)
        have hex2 : eqx (fun p => p = 42) σ (si σ 42 c (bI (brB U (w * h) mu c))) := eqx.si eqx.rf rfl
        have hL1 : LMs (si σ 42 c (bI (brB U (w * h) mu c))) w h U D (w * h) mu S := ⟨RMx.keep l1 hex2 (by omega) (by omega), l2, l3, l4, l5⟩
        cases hb : brB U (w * h) mu c with
        | false =>
          rw [hb] at hex hL1
          rw [if_pos bI_f, nI_1]
          obtain ⟨σ', mt, e1, e2, e3⟩ := ih (c + 1) m (si σ 42 c (bI false)) Q (by omega) (by omega) (by omega) (MG4 g hex) hL1 (fun j hj => ⟨by rw [gi_si_ne _ _ _ _ (by omega)]; exact (q1 j hj).1, by have := (q1 j hj).2; omega⟩) (fun u hu => by
            rw [gi_si]
            by_cases e : u = c
            · rw [if_pos ⟨rfl, e⟩, e, hb]
            · rw [if_neg (by omega)]; exact q2 u (by omega)) (fun u hu => by
            by_cases e : u = c
            · rw [e, hb]
              refine ⟨fun z => (by cases z), fun ⟨j, j1, j2⟩ => ?_⟩
              have := (q1 j j1).2
              omega
            · exact q3 u (by omega)) q4
          exact ⟨σ', mt, e1, e2, eqx.tr hex e3⟩
        | true =>
          rw [hb] at hex hL1
          rw [if_neg bIt, wrI_at _ _ _ (show m < len 43 by show _ < 64; omega) (by decide), nI_1, nI_1]
          have hex3 : eqx (fun p => p = 43) (si σ 42 c (bI true)) (si (si σ 42 c (bI true)) 43 m (nI c)) := eqx.si eqx.rf rfl
          have hex4 : eqx P4044 σ (si (si σ 42 c (bI true)) 43 m (nI c)) := eqx.si hex (by unfold P4044; omega)
          obtain ⟨k1, k2, k3, k4, k5⟩ := hL1
          have hold : ∀ j, j < m → (if j = m then c else Q j) = Q j := fun j hj => if_neg (by omega)
          obtain ⟨σ', mt, e1, e2, e3⟩ := ih (c + 1) (m + 1) (si (si σ 42 c (bI true)) 43 m (nI c)) (fun j => if j = m then c else Q j) (by omega) (by omega) (by omega) (MG4 g hex4) ⟨RMx.keep k1 hex3 (by omega) (by omega), k2, k3, k4, k5⟩ (fun j hj => by
            rw [gi_si]
            by_cases e : j = m
            · rw [if_pos ⟨rfl, e⟩]
              simp only [if_pos e]
              exact ⟨trivial, by omega⟩
            · rw [if_neg (by omega), gi_si_ne _ _ _ _ (by omega)]
              simp only [if_neg e]
              exact ⟨(q1 j (by omega)).1, by have := (q1 j (by omega)).2; omega⟩) (fun u hu => by
            rw [gi_si_ne _ _ _ _ (by omega), gi_si]
            by_cases e : u = c
            · rw [if_pos ⟨rfl, e⟩, e, hb]
            · rw [if_neg (by omega)]; exact q2 u (by omega)) (fun u hu => by
            by_cases e : u = c
            · rw [e, hb]
              exact ⟨fun _ => ⟨m, by omega, by simp⟩, fun _ => rfl⟩
            · rw [q3 u (by omega)]
              constructor
              · rintro ⟨j, j1, j2⟩; exact ⟨j, by omega, by simp only [hold j j1]; exact j2⟩
              · rintro ⟨j, j1, j2⟩
                by_cases ej : j = m
                · simp only [if_pos ej] at j2; exact absurd j2.symm e
                · simp only [if_neg ej] at j2; exact ⟨j, by omega, j2⟩) (fun a b ha hb' z => by
            by_cases ea : a = m
            · by_cases eb : b = m
              · omega
              · simp only [if_pos ea, if_neg eb] at z
                have := (q1 b (by omega)).2
                omega
            · by_cases eb : b = m
              · simp only [if_neg ea, if_pos eb] at z
                have := (q1 a (by omega)).2
                omega
              · simp only [if_neg ea, if_neg eb] at z
                exact q4 a b (by omega) (by omega) z)
          exact ⟨σ', mt, e1, e2, eqx.tr hex4 e3⟩
      have goF : brB U (w * h) mu c = false → ∃ σ' mt, f_X6_layBar_50 (f_X6_layBar_8 n) (nI m) (nI c) (nI c) σ = some (nI (cnt mt (w * h)), σ') ∧ BR σ' w h U D mt ∧ eqx P4044 σ σ' := fun hb => by
        rw [hb] at go
        exact go
      by_cases hcN : w * h ≤ c
      · rw [if_pos (nI_le hcN (by omega))]
        refine goF ?_
        cases hb : brB U (w * h) mu c with
        | false => rfl
        | true => have := (brB_iff.mp hb).1; omega
      · rw [if_neg (nI_ge (by omega) (by omega)), bd_at (s_isUp g (by omega))]
        cases hU : U c with
        | false =>
          rw [if_pos bI_f]
          refine goF ?_
          cases hb : brB U (w * h) mu c with
          | false => rfl
          | true => have := (brB_iff.mp hb).2.1; rw [hU] at this; cases this
        | true =>
          rw [if_neg bIt, rdI_at _ _ (show c < len 40 by show _ < 64; omega) (by decide), l1.1 c (by omega)]
          by_cases hm : mu c = none
          · rw [if_pos ((oI_no har l2 c).mpr hm)]
            rw [brB_iff.mpr ⟨by omega, hU, hm⟩] at go
            exact go
          · rw [if_neg (fun z => hm ((oI_no har l2 c).mp z))]
            refine goF ?_
            cases hb : brB U (w * h) mu c with
            | false => rfl
            | true => exact absurd (brB_iff.mp hb).2.2 hm
theorem s_layBar {σ : St} {w h : Nat} {U D : Nat → Bool} (g : MG σ w h U D) : ∃ σ' mt, f_X6_layBar σ = some (nI (cnt mt (w * h)), σ') ∧ BR σ' w h U D mt ∧ eqx P4044 σ σ' := by
  obtain ⟨σ1, mu, S, e1, e2, e3⟩ := s_layMost g
  unfold f_X6_layBar
  rw [bd_at e1]
  obtain ⟨σ2, mt, d1, d2, d3⟩ := s_lb8 FU 0 0 σ1 (fun _ => 0) (Nat.zero_le _) (by decide) (Nat.le_refl _) (MG4 g e3) e2 (fun j hj => by omega) (fun u hu => by omega) (fun u hu => by omega) (fun i j hi => by omega)
  exact ⟨σ2, mt, d1, d2, eqx.tr e3 d3⟩
