/-! ===== HALF 2: meet, meetAll, reach of the reference ===== -/
/-- those met so far -/
def BF (σ : St) (w h : Nat) (U D : Nat → Bool) (K0 : Nat → Nat) (n : Nat) (Kf : Nat → Nat → Nat) : Prop := (∃ t La Lb, HT σ n t La Lb ∧ ∀ i, i < n → PKv (La i) (w * h) (Kf i) 0 ∧ PKv (Lb i) (w * h) (Kf i) 32) ∧ (∀ i, i < n → LL w U D (w * h) (Kf i) ∧ Rc w U D (w * h) K0 (Kf i)) ∧ ∀ i j, i < n → j < n → Kf i = Kf j → i = j
def upK (f : Nat → Nat → Nat) (a : Nat) (v : Nat → Nat) (p : Nat) : Nat → Nat := if p = a then v else f p
theorem LL_ext {w : Nat} {U D : Nat → Bool} {N : Nat} {K M : Nat → Nat} (h1 : LL w U D N K) (h2 : LL w U D N M) (h : ∀ c, c < N → K c = M c) : K = M := by
  funext c
  rcases Nat.lt_or_ge c N with q | q
  · exact h c q
  · rw [h1.2.1 c q, h2.2.1 c q]
theorem eqh.MG {σ τ : St} {w h : Nat} {U D : Nat → Bool} (he : eqh σ τ) (g : MG σ w h U D) : MG τ w h U D := by
  obtain ⟨a1, a2, a3, a4, a5, a6, a7⟩ := g
  refine ⟨a1, a2, a3, a4, ?_, ?_, fun c hc => ⟨?_, ?_⟩⟩
  · rw [he.1 26 0 (by omega) (by omega)]; exact a5
  · rw [he.1 26 1 (by omega) (by omega)]; exact a6
  · rw [he.1 27 _ (by omega) (by omega)]; exact (a7 c hc).1
  · rw [he.1 27 _ (by omega) (by omega)]; exact (a7 c hc).2
theorem eqh.LM {σ τ : St} {s n : Nat} {K : Nat → Nat} (he : eqh σ τ) (hM : LM σ s n K) : LM τ s n K := fun c hc => by
  rw [he.1 30 _ (by omega) (by omega)]
  exact hM c hc
theorem s_meet {σ : St} {w h s n : Nat} {U D : Nat → Bool} {K0 K : Nat → Nat} {Kf : Nat → Nat → Nat} (g : MG σ w h U D) (hs : s < 4) (hM : LM σ s (w * h) K) (hK : LL w U D (w * h) K) (hR : Rc w U D (w * h) K0 K) (hB : BF σ w h U D K0 n Kf) :
    ((∃ i, i < n ∧ Kf i = K) ∧ f_X6_meet (nI s) σ = some (1, σ)) ∨ ((∀ i, i < n → Kf i ≠ K) ∧ n = 2000 ∧ f_X6_meet (nI s) σ = some (0, σ)) ∨ ((∀ i, i < n → Kf i ≠ K) ∧ n < 2000 ∧ ∃ σ', f_X6_meet (nI s) σ = some (1, σ') ∧ BF σ' w h U D K0 (n + 1) (upK Kf n K) ∧ eqh σ σ') := by
  have har := area_le g.2.1 g.2.2.2.1
  obtain ⟨⟨t, La, Lb, hH, hP⟩, hF, hD⟩ := hB
  obtain ⟨a, ea, pa⟩ := s_packed g hs hM (LL_4 hK) (fr := 0) (by decide)
  obtain ⟨b, eb, pb⟩ := s_packed g hs hM (LL_4 hK) (fr := 32) (by decide)
  have ea' : f_X6_packed (nI s) (0 : Int32) σ = some (a, σ) := ea
  have eb' : f_X6_packed (nI s) (32 : Int32) σ = some (b, σ) := eb
  unfold f_X6_meet
  rw [bd_at ea', bd_at eb', hsh_eq]
  have e0 : (un ((((((a * (31 : Int64)) + (b * (17 : Int64))) + (lshr a (29 : Int32))) + (lshr b (23 : Int32))) + (lshr a (11 : Int32)))) % 4096) = (hsh a b + 0) % 4096 := by
    show hsh a b = (hsh a b + 0) % 4096
    have : hsh a b < 4096 := Nat.mod_lt _ (by decide)
    omega
  rw [e0]
  have same : ∀ i, i < n → ((La i = a ∧ Lb i = b) ↔ Kf i = K) := fun i hi => by
    constructor
    · rintro ⟨q1, q2⟩
      have p := hP i hi
      rw [q1, q2] at p
      exact LL_ext (hF i hi).1 hK (PKv_inj har (LL_4 (hF i hi).1) (LL_4 hK) p.1 p.2 pa pb)
    · intro q
      have p := hP i hi
      rw [q] at p
      exact ⟨PKv_same p.1 pa, PKv_same p.2 pb⟩
  rcases s_meet55 hH a b FU 0 (Nat.zero_le _) (by decide) (fun d' hd' => by omega) with ⟨⟨i, q1, q2⟩, q3⟩ | ⟨q1, q2, q3⟩ | ⟨q1, q2, σ', t', q3, q4, q5⟩
  · exact Or.inl ⟨⟨i, q1, (same i q1).mp q2⟩, q3⟩
  · exact Or.inr (Or.inl ⟨fun i hi z => q1 i hi ((same i hi).mpr z), q2, q3⟩)
  · refine Or.inr (Or.inr ⟨fun i hi z => q1 i hi ((same i hi).mpr z), q2, σ', q3, ⟨⟨t', _, _, q4, fun i hi => ?_⟩, fun i hi => ?_, fun i j hi hj z => ?_⟩, q5⟩)
    · unfold upL upK
      by_cases e : i = n
      · rw [if_pos e, if_pos e, if_pos e]; exact ⟨pa, pb⟩
      · rw [if_neg e, if_neg e, if_neg e]; exact hP i (by omega)
    · unfold upK
      by_cases e : i = n
      · rw [if_pos e]; exact ⟨hK, hR⟩
      · rw [if_neg e]; exact hF i (by omega)
    · unfold upK at z
      by_cases e : i = n
      · by_cases e' : j = n
        · omega
        · rw [if_pos e, if_neg e'] at z
          exact absurd ((same j (by omega)).mpr z.symm) (q1 j (by omega))
      · by_cases e' : j = n
        · rw [if_neg e, if_pos e'] at z
          exact absurd ((same i (by omega)).mpr z) (q1 i (by omega))
        · rw [if_neg e, if_neg e'] at z
          exact hD i j (by omega) (by omega) z
/-- what reach changes on its way, in the slot s -/
def eqr (s : Nat) (σ τ : St) : Prop := (∀ p k, ¬ (p = 26 ∧ k = 14) → p ≠ 38 → ¬ (p = 30 ∧ 64 * s ≤ k ∧ k < 64 * s + 64) → gi τ p k = gi σ p k) ∧ ∀ p k, p ≠ 36 → p ≠ 37 → gl τ p k = gl σ p k
theorem eqr.rf {s : Nat} {σ : St} : eqr s σ σ := ⟨fun _ _ _ _ _ => rfl, fun _ _ _ _ => rfl⟩
theorem eqr.tr {s : Nat} {σ τ υ : St} (h1 : eqr s σ τ) (h2 : eqr s τ υ) : eqr s σ υ := ⟨fun p k a b c => (h2.1 p k a b c).trans (h1.1 p k a b c), fun p k a b => (h2.2 p k a b).trans (h1.2 p k a b)⟩
theorem eqr.s {s : Nat} {σ τ : St} (h : eqs s σ τ) : eqr s σ τ := ⟨fun p k _ _ c => h.2 p k c, fun p k _ _ => by unfold gl; rw [h.1]⟩
theorem eqr.h {s : Nat} {σ τ : St} (h : eqh σ τ) : eqr s σ τ := ⟨fun p k a b _ => h.1 p k a b, fun p k a b => h.2 p k a b⟩
theorem BF_s {σ τ : St} {w h s n : Nat} {U D : Nat → Bool} {K0 : Nat → Nat} {Kf : Nat → Nat → Nat} (hB : BF σ w h U D K0 n Kf) (he : eqs s σ τ) : BF τ w h U D K0 n Kf := by
  obtain ⟨⟨t, La, Lb, ⟨H1, H2, H3, H4, H5, H6⟩, hP⟩, hF, hD⟩ := hB
  refine ⟨⟨t, La, Lb, ⟨H1, ?_, fun j hj => ?_, fun i hi => ?_, H5, H6⟩, hP⟩, hF, hD⟩
  · rw [he.2 26 14 (by omega)]; exact H2
  · rw [he.2 38 j (by omega)]; exact H3 j hj
  · have e : ∀ p k, gl τ p k = gl σ p k := fun p k => by unfold gl; rw [he.1]
    rw [e, e]
    exact H4 i hi
/-- all neighbours are among them -/
def nbs (w : Nat) (U D : Nat → Bool) (N : Nat) (K : Nat → Nat) (n : Nat) (Kf : Nat → Nat → Nat) (c : Nat) : Prop := ∀ t, atP w U D N t K c → ∃ i, i < n ∧ Kf i = tu w t K c
/-- one more is reachable than there is room for -/
def over (w : Nat) (U D : Nat → Bool) (N : Nat) (K0 : Nat → Nat) (n : Nat) (Kf : Nat → Nat → Nat) : Prop := n = 2000 ∧ ∃ K, Rc w U D N K0 K ∧ ∀ i, i < n → Kf i ≠ K
theorem s_meetAll8 {w h s : Nat} {U D : Nat → Bool} {K0 K : Nat → Nat} (hs : s < 4) (hK : LL w U D (w * h) K) (hR : Rc w U D (w * h) K0 K) : ∀ (f p : Nat) (σ : St) (n : Nat) (Kf : Nat → Nat → Nat), p ≤ (w + 1) * (h + 1) → (w + 1) * (h + 1) - p < f → MG σ w h U D → LM σ s (w * h) K → BF σ w h U D K0 n Kf → (∀ p', p' < p → nbs w U D (w * h) K n Kf (pcell w p')) →
    ∃ σ' n' Kf' b, f_X6_meetAll_8 f (nI s) (nI p) σ = some (bI b, σ') ∧ eqr s σ σ' ∧ MG σ' w h U D ∧ BF σ' w h U D K0 n' Kf' ∧ n ≤ n' ∧ (∀ i, i < n → Kf' i = Kf i) ∧ (b = true → ∀ p', p' < (w + 1) * (h + 1) → nbs w U D (w * h) K n' Kf' (pcell w p')) ∧ (b = false → over w U D (w * h) K0 n' Kf') := by
  intro f
  induction f with
  | zero => intro p σ n Kf h1 h2; omega
  | succ f ih =>
    intro p σ n Kf h1 h2 g hM hB hN
    obtain ⟨hw1, hw8, hh1, hh8, e0, e1, eT⟩ := id g
    have h81 := pp_le hw8 hh8
    rw [f_X6_meetAll_8, e0, e1, nI_1, nI_1, nI_mul]
    by_cases hp : (w + 1) * (h + 1) ≤ p
    · rw [if_pos (nI_le hp (by omega))]
      exact ⟨σ, n, Kf, true, rfl, eqr.rf, g, hB, Nat.le_refl _, fun _ _ => rfl, fun _ p' hp' => hN p' (by omega), fun q => (by cases q)⟩
    · have hp' : p < (w + 1) * (h + 1) := by omega
      obtain ⟨hx, hy⟩ := p_xy hp'
      rw [if_neg (nI_ge hp' (by omega)), rmI_at _ (by omega) (by omega) (by omega), dvI_at _ (by omega) (by omega) (by omega), bd_at (s_pointOf g hs hM (LL_4 hK) hx hy)]
      have hpc : p / (w + 1) * w + p % (w + 1) = pcell w p := rfl
      rw [hpc]
      unfold f_X6_meetAll_86
      have hlt := ptN_lt w U D (w * h) K (pcell w p)
      by_cases hq : ptN w U D (w * h) K (pcell w p) < 2
      · rw [if_pos (show nI _ < (2 : Int32) from nI_lt (b := 2) hq (by decide)), nI_1]
        refine ih (p + 1) σ n Kf (by omega) (by omega) g hM hB (fun p' hp2 => ?_)
        by_cases e : p' = p
        · rw [e]
          intro t hat
          have := (ptN_at w U D (w * h) K (pcell w p) t).mpr hat
          cases t <;> simp at this <;> omega
        · exact hN p' (by omega)
      · rw [if_neg (show ¬ nI _ < (2 : Int32) from nI_nlt (b := 2) (by omega) (by omega))]
        obtain ⟨t, ht⟩ : ∃ t : Bool, ptN w U D (w * h) K (pcell w p) = (if t then 2 else 3) := by
          by_cases z : ptN w U D (w * h) K (pcell w p) = 2
          · exact ⟨true, z⟩
          · exact ⟨false, by show _ = 3; omega⟩
        have hat := (ptN_at w U D (w * h) K (pcell w p) t).mp ht
        have only : ∀ t', atP w U D (w * h) t' K (pcell w p) → t' = t := fun t' h' => by
          have h1 := h'.2.1
          rw [hat.2.1] at h1
          cases t <;> cases t' <;> first | rfl | (exact absurd h1 (by decide))
        obtain ⟨σ1, f1, f2, f3⟩ := s_turnOver g hs hM hat
        rw [bd_at f1]
        have g1 := eqs_MG g f3
        have hK1 := tu_LL hw1 hat hK
        have hR1 := Rc.tr hR (Rc.one hat)
        obtain ⟨b1', b2'⟩ := tu_tu hw1 hat
        -- back again, and on
        have back : ∀ (τ : St) (n2 : Nat) (Kf2 : Nat → Nat → Nat), MG τ w h U D → LM τ s (w * h) (tu w t K (pcell w p)) → BF τ w h U D K0 n2 Kf2 → eqr s σ τ → n ≤ n2 → (∀ i, i < n → Kf2 i = Kf i) → (∃ i, i < n2 ∧ Kf2 i = tu w t K (pcell w p)) →
            ∃ σ' n' Kf' b, (bd (f_X6_turnOver (nI s) (nI (p % (w + 1))) (nI (p / (w + 1))) τ) fun _ σ10 => f_X6_meetAll_8 f (nI s) (nI p + 1) σ10) = some (bI b, σ') ∧ eqr s σ σ' ∧ MG σ' w h U D ∧ BF σ' w h U D K0 n' Kf' ∧ n ≤ n' ∧ (∀ i, i < n → Kf' i = Kf i) ∧ (b = true → ∀ p', p' < (w + 1) * (h + 1) → nbs w U D (w * h) K n' Kf' (pcell w p')) ∧ (b = false → over w U D (w * h) K0 n' Kf') := by
          intro τ n2 Kf2 gτ hMτ hBτ heτ hn2 hKf2 hin
          obtain ⟨σ3, d1, d2, d3⟩ := s_turnOver gτ hs hMτ b1'
          have d2' : LM σ3 s (w * h) K := by
            have h2 : LM σ3 s (w * h) (tu w (!t) (tu w t K (pcell w p)) (pcell w p)) := d2
            rw [b2'] at h2
            exact h2
          rw [bd_at d1, nI_1]
          obtain ⟨σ', n', Kf', b, c1, c2, c3, c4, c5, c6, c7, c8⟩ := ih (p + 1) σ3 n2 Kf2 (by omega) (by omega) (eqs_MG gτ d3) d2' (BF_s hBτ d3) (fun p' hp2 => by
            by_cases e : p' = p
            · rw [e]
              intro t' hat'
              rw [only t' hat']
              exact hin
            · intro t' hat'
              obtain ⟨i, i1, i2⟩ := hN p' (by omega) t' hat'
              exact ⟨i, by omega, by rw [hKf2 i i1]; exact i2⟩)
          exact ⟨σ', n', Kf', b, c1, eqr.tr heτ (eqr.tr (eqr.s d3) c2), c3, c4, by omega, fun i hi => by rw [c6 i (by omega), hKf2 i hi], c7, c8⟩
        rcases s_meet g1 hs f2 hK1 hR1 (BF_s hB f3) with ⟨q1, q2⟩ | ⟨q1, q2, q3⟩ | ⟨q1, q2, σ2, q3, q4, q5⟩
        · rw [bd_at q2, if_neg (by decide)]
          exact back σ1 n Kf g1 f2 (BF_s hB f3) (eqr.s f3) (Nat.le_refl _) (fun _ _ => rfl) q1
        · rw [bd_at q3, if_pos rfl]
          exact ⟨σ1, n, Kf, false, rfl, eqr.s f3, g1, BF_s hB f3, Nat.le_refl _, fun _ _ => rfl, fun q => (by cases q), fun _ => ⟨q2, _, hR1, q1⟩⟩
        · rw [bd_at q3, if_neg (by decide)]
          exact back σ2 (n + 1) (upK Kf n (tu w t K (pcell w p))) (q5.MG g1) (q5.LM f2) q4 (eqr.tr (eqr.s f3) (eqr.h q5)) (by omega) (fun i hi => if_neg (by omega)) ⟨n, by omega, if_pos rfl⟩
