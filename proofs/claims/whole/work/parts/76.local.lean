/-! ===== HALF 2: a LAYING by what stands at each CELL ===== -/
def b1 (p : Prop) [Decidable p] : Nat := if p then 1 else 0
theorem b1_t {p : Prop} [Decidable p] (h : p) : b1 p = 1 := if_pos h
theorem b1_f {p : Prop} [Decidable p] (h : ¬ p) : b1 p = 0 := if_neg h
/-- KINDS of the UP, and each DOWN that is IN in just one LOZENGE -/
def LL (w : Nat) (U D : Nat → Bool) (N : Nat) (K : Nat → Nat) : Prop := (∀ c, c < N → K c < 4 ∧ (K c = 3 ↔ U c = false) ∧ (K c = 1 → c % w ≠ 0) ∧ (K c = 2 → w ≤ c)) ∧ (∀ c, N ≤ c → K c = 3) ∧ ∀ d, d < N → b1 (K d = 0) + b1 (K (d + 1) = 1) + b1 (K (d + w) = 2) = (D d).toNat
/-- the DOWN j + 1 before c is open ahead of c -/
def opP (w : Nat) (D : Nat → Bool) (K : Nat → Nat) (c j : Nat) : Prop := j < w ∧ j < c ∧ D (c - 1 - j) = true ∧ K (c - 1 - j) ≠ 0 ∧ ¬ (1 ≤ j ∧ K (c - j) = 1)
def opB (w : Nat) (D : Nat → Bool) (K : Nat → Nat) (c m : Nat) : Prop := m < 2 ^ w ∧ ∀ j, j < w → (m.testBit j = true ↔ opP w D K c j)
theorem tbn_0 (m : Nat) (b : Bool) : (2 * m + b.toNat).testBit 0 = b := by
  rw [Nat.testBit_zero]
  cases b
  · show decide ((2 * m + 0) % 2 = 1) = false
    rw [show (2 * m + 0) % 2 = 0 by omega]
    rfl
  · show decide ((2 * m + 1) % 2 = 1) = true
    rw [show (2 * m + 1) % 2 = 1 by omega]
    rfl
theorem tbn_s (m : Nat) (b : Bool) (j : Nat) : (2 * m + b.toNat).testBit (j + 1) = m.testBit j := by
  rw [Nat.testBit_succ]
  have : (2 * m + b.toNat) / 2 = m := by cases b <;> simp <;> omega
  rw [this]
theorem tbn_m1 {m j : Nat} (h0 : m.testBit 0 = true) : (m - 1).testBit (j + 1) = m.testBit (j + 1) ∧ (m - 1).testBit 0 = false := by
  rw [Nat.testBit_zero] at h0
  have h1 : m % 2 = 1 := of_decide_eq_true h0
  refine ⟨?_, ?_⟩
  · rw [Nat.testBit_succ, Nat.testBit_succ, show (m - 1) / 2 = m / 2 by omega]
  · rw [Nat.testBit_zero, show (m - 1) % 2 = 0 by omega]
    rfl
theorem tbn_top {w m j : Nat} (hw : 1 ≤ w) (hm : m < 2 ^ w) (ht : m.testBit (w - 1) = true) (hj : j < w - 1) : (m - 2 ^ (w - 1)).testBit j = m.testBit j := by
  have h1 := (top_bit hw hm).2.mp ht
  have e : 2 ^ w = 2 * 2 ^ (w - 1) := by
    have : w = (w - 1) + 1 := by omega
    rw [this, Nat.pow_succ]
    simp
    omega
  have h2 : m - 2 ^ (w - 1) = m % 2 ^ (w - 1) := by
    rw [Nat.mod_eq_sub_mod h1, Nat.mod_eq_of_lt (by omega)]
  rw [h2, Nat.testBit_mod_two_pow, decide_eq_true hj, Bool.true_and]
theorem opP_0 {w : Nat} {D : Nat → Bool} {K : Nat → Nat} {c : Nat} (hw : 1 ≤ w) : opP w D K (c + 1) 0 ↔ D c = true ∧ K c ≠ 0 := by
  unfold opP
  rw [show c + 1 - 1 - 0 = c by omega]
  exact ⟨fun h => ⟨h.2.2.1, h.2.2.2.1⟩, fun h => ⟨hw, by omega, h.1, h.2, by omega⟩⟩
theorem opP_s {w : Nat} {D : Nat → Bool} {K : Nat → Nat} {c j : Nat} (hj : j + 1 < w) : opP w D K (c + 1) (j + 1) ↔ opP w D K c j ∧ (j = 0 → K c ≠ 1) := by
  unfold opP
  rw [show c + 1 - 1 - (j + 1) = c - 1 - j by omega, show c + 1 - (j + 1) = c - j by omega]
  constructor
  · rintro ⟨h1, h2, h3, h4, h5⟩
    refine ⟨⟨by omega, by omega, h3, h4, fun q => h5 ⟨by omega, q.2⟩⟩, fun q r => h5 ⟨by omega, ?_⟩⟩
    rw [q, Nat.sub_zero]
    exact r
  · rintro ⟨⟨h1, h2, h3, h4, h5⟩, h6⟩
    refine ⟨hj, by omega, h3, h4, fun q => ?_⟩
    by_cases r : j = 0
    · subst r
      rw [Nat.sub_zero] at q
      exact h6 rfl q.2
    · exact h5 ⟨by omega, q.2⟩
/-- a step carries the open set on -/
theorem opB_step {w : Nat} {U D : Nat → Bool} {K : Nat → Nat} {c m a : Nat} (hw : 1 ≤ w) (h : opB w D K c m) (ht : Tr w U D c m (K c) = some a) : opB w D K (c + 1) a := by
  refine ⟨Tr_lt hw h.1 ht, fun j hj => ?_⟩
  unfold Tr at ht
  by_cases k3 : K c = 3
  · rw [if_pos k3] at ht
    split at ht
    · have e := Option.some.inj ht
      subst e
      cases j with
      | zero => rw [tbn_0, opP_0 hw]; exact ⟨fun q => ⟨q, by omega⟩, fun q => q.1⟩
      | succ j => rw [tbn_s, opP_s hj, h.2 j (by omega)]; exact ⟨fun q => ⟨q, by omega⟩, fun q => q.1⟩
    · cases ht
  · rw [if_neg k3] at ht
    split at ht
    · cases ht
    · by_cases k0 : K c = 0
      · rw [if_pos k0] at ht
        split at ht
        · have e := Option.some.inj ht
          subst e
          have e2 : 2 * m = 2 * m + Bool.toNat false := rfl
          rw [e2]
          cases j with
          | zero => rw [tbn_0, opP_0 hw]; exact ⟨fun q => (by cases q), fun q => absurd k0 q.2⟩
          | succ j => rw [tbn_s, opP_s hj, h.2 j (by omega)]; exact ⟨fun q => ⟨q, by omega⟩, fun q => q.1⟩
        · cases ht
      · rw [if_neg k0] at ht
        by_cases k1 : K c = 1
        · rw [if_pos k1] at ht
          split at ht
          · next q0 =>
            have e := Option.some.inj ht
            subst e
            cases j with
            | zero => rw [tbn_0, opP_0 hw]; exact ⟨fun q => ⟨q, k0⟩, fun q => q.1⟩
            | succ j =>
              rw [tbn_s, opP_s hj]
              cases j with
              | zero => rw [(tbn_m1 (j := 0) q0.2.2).2]; exact ⟨fun q => (by cases q), fun q => absurd k1 (q.2 rfl)⟩
              | succ j => rw [(tbn_m1 q0.2.2).1, h.2 (j + 1) (by omega)]; exact ⟨fun q => ⟨q, by omega⟩, fun q => q.1⟩
          · cases ht
        · rw [if_neg k1] at ht
          by_cases k2 : K c = 2
          · rw [if_pos k2] at ht
            split at ht
            · next q0 =>
              have e := Option.some.inj ht
              subst e
              cases j with
              | zero => rw [tbn_0, opP_0 hw]; exact ⟨fun q => ⟨q, k0⟩, fun q => q.1⟩
              | succ j => rw [tbn_s, opP_s hj, tbn_top hw h.1 q0 (by omega), h.2 j (by omega)]; exact ⟨fun q => ⟨q, fun _ => k1⟩, fun q => q.1⟩
            · cases ht
          · rw [if_neg k2] at ht
            cases ht
theorem Rn_opB {w : Nat} {U D : Nat → Bool} {K : Nat → Nat} (hw : 1 ≤ w) : ∀ {c m : Nat}, Rn w U D K c = some m → opB w D K c m
  | 0, m, h => by
    have : 0 = m := Option.some.inj h
    subst this
    refine ⟨Nat.pow_pos (by decide), fun j hj => ?_⟩
    rw [Nat.zero_testBit]
    exact ⟨fun q => (by cases q), fun q => (by have := q.2.1; omega)⟩
  | c + 1, m, h => by
    obtain ⟨a, h1, h2⟩ := Rn_back h
    exact opB_step hw (Rn_opB hw h1) h2
/-- what a step asks for -/
theorem Tr_asks {w : Nat} {U D : Nat → Bool} {c m k a : Nat} (ht : Tr w U D c m k = some a) : (k = 3 ↔ U c = false) ∧ (k = 2 ↔ m.testBit (w - 1) = true) ∧ (k = 1 → c % w ≠ 0 ∧ m.testBit 0 = true) ∧ (k = 0 → D c = true) ∧ k < 4 := by
  unfold Tr at ht
  by_cases k3 : k = 3
  · rw [if_pos k3] at ht
    split at ht
    · next q => exact ⟨⟨fun _ => q.1, fun _ => k3⟩, ⟨fun r => by omega, fun r => by rw [q.2] at r; cases r⟩, fun r => by omega, fun r => by omega, by omega⟩
    · cases ht
  · rw [if_neg k3] at ht
    split at ht
    · cases ht
    · next qU =>
      have hU : k = 3 ↔ U c = false := ⟨fun r => absurd r k3, fun r => absurd r qU⟩
      by_cases k0 : k = 0
      · rw [if_pos k0] at ht
        split at ht
        · next q => exact ⟨hU, ⟨fun r => by omega, fun r => by rw [q.1] at r; cases r⟩, fun r => by omega, fun _ => q.2, by omega⟩
        · cases ht
      · rw [if_neg k0] at ht
        by_cases k1 : k = 1
        · rw [if_pos k1] at ht
          split at ht
          · next q => exact ⟨hU, ⟨fun r => by omega, fun r => by rw [q.1] at r; cases r⟩, fun _ => q.2, fun r => by omega, by omega⟩
          · cases ht
        · rw [if_neg k1] at ht
          by_cases k2 : k = 2
          · rw [if_pos k2] at ht
            split at ht
            · next q => exact ⟨hU, ⟨fun _ => q, fun _ => k2⟩, fun r => by omega, fun r => by omega, by omega⟩
            · cases ht
          · rw [if_neg k2] at ht
            cases ht
theorem Tr_can {w : Nat} {U D : Nat → Bool} {c m k : Nat} (h1 : k = 3 ↔ U c = false) (h2 : k = 2 ↔ m.testBit (w - 1) = true) (h3 : k = 1 → c % w ≠ 0 ∧ m.testBit 0 = true) (h4 : k = 0 → D c = true) (h5 : k < 4) : ∃ a, Tr w U D c m k = some a := by
  have hb : k ≠ 2 → m.testBit (w - 1) = false := fun r => by
    cases q : m.testBit (w - 1) with
    | false => rfl
    | true => exact absurd (h2.mpr q) r
  unfold Tr
  by_cases k3 : k = 3
  · rw [if_pos k3, if_pos ⟨h1.mp k3, hb (by omega)⟩]
    exact ⟨_, rfl⟩
  · rw [if_neg k3, if_neg (fun r => k3 (h1.mpr r))]
    rcases (show k = 0 ∨ k = 1 ∨ k = 2 by omega) with e | e | e
    · rw [if_pos e, if_pos ⟨hb (by omega), h4 e⟩]
      exact ⟨_, rfl⟩
    · rw [if_neg (by omega), if_pos e, if_pos ⟨hb (by omega), h3 e⟩]
      exact ⟨_, rfl⟩
    · rw [if_neg (by omega), if_neg (by omega), if_pos e, if_pos (h2.mp e)]
      exact ⟨_, rfl⟩
theorem LL_Rn {w : Nat} {U D : Nat → Bool} {N : Nat} {K : Nat → Nat} (hw : 1 ≤ w) (h : LL w U D N K) : ∀ {c : Nat}, c ≤ N → ∃ m, Rn w U D K c = some m
  | 0, _ => ⟨0, rfl⟩
  | c + 1, hc => by
    obtain ⟨m, hm⟩ := LL_Rn hw h (c := c) (by omega)
    have hop := Rn_opB hw hm
    obtain ⟨l1, l2, l3, l4⟩ := h.1 c (by omega)
    have hcov : ∀ d, d < N → b1 (K d = 0) + b1 (K (d + 1) = 1) + b1 (K (d + w) = 2) = (D d).toNat := h.2.2
    have htop : K c = 2 ↔ m.testBit (w - 1) = true := by
      rw [hop.2 (w - 1) (by omega)]
      constructor
      · intro e
        have hwc := l4 e
        have h1 := hcov (c - w) (by omega)
        rw [show c - w + w = c by omega, b1_t e] at h1
        have hD : D (c - w) = true := by
          cases q : D (c - w) with
          | true => rfl
          | false => rw [q] at h1; simp at h1
        rw [hD] at h1
        have h2 : b1 (K (c - w) = 0) = 0 := by have : Bool.toNat true = 1 := rfl; omega
        have h3 : b1 (K (c - w + 1) = 1) = 0 := by have : Bool.toNat true = 1 := rfl; omega
        refine ⟨by omega, by omega, ?_, ?_, ?_⟩
        · rw [show c - 1 - (w - 1) = c - w by omega]; exact hD
        · rw [show c - 1 - (w - 1) = c - w by omega]; intro q; rw [b1_t q] at h2; cases h2
        · rintro ⟨q1, q2⟩
          rw [show c - (w - 1) = c - w + 1 by omega] at q2
          rw [b1_t q2] at h3; cases h3
      · rintro ⟨q1, q2, q3, q4, q5⟩
        rw [show c - 1 - (w - 1) = c - w by omega] at q3 q4
        have h1 := hcov (c - w) (by omega)
        rw [show c - w + w = c by omega, q3, b1_f q4] at h1
        by_cases e : K c = 2
        · exact e
        · rw [b1_f e] at h1
          exfalso
          by_cases e1 : K (c - w + 1) = 1
          · by_cases w1 : w = 1
            · rw [show c - w + 1 = c by omega] at e1
              have := l3 e1
              rw [w1, Nat.mod_one] at this
              exact this rfl
            · exact q5 ⟨by omega, by rw [show c - (w - 1) = c - w + 1 by omega]; exact e1⟩
          · rw [b1_f e1] at h1
            cases h1
    have h1' : K c = 1 → c % w ≠ 0 ∧ m.testBit 0 = true := by
      intro e
      have hm0 := l3 e
      have hc1 : 1 ≤ c := by
        rcases Nat.eq_zero_or_pos c with q | q
        · subst q; simp at hm0
        · exact q
      refine ⟨hm0, ?_⟩
      rw [hop.2 0 (by omega)]
      have h1 := hcov (c - 1) (by omega)
      rw [show c - 1 + 1 = c by omega, b1_t e] at h1
      have hD : D (c - 1) = true := by
        cases q : D (c - 1) with
        | true => rfl
        | false => rw [q] at h1; simp at h1
      rw [hD] at h1
      have h2 : b1 (K (c - 1) = 0) = 0 := by have : Bool.toNat true = 1 := rfl; omega
      refine ⟨by omega, by omega, hD, fun q => ?_, by omega⟩
      rw [Nat.sub_zero] at q
      rw [b1_t q] at h2; cases h2
    have h0' : K c = 0 → D c = true := by
      intro e
      have h1 := hcov c (by omega)
      rw [b1_t e] at h1
      cases q : D c with
      | true => rfl
      | false => rw [q] at h1; simp at h1
    obtain ⟨a, ha⟩ := Tr_can (m := m) l2 htop h1' h0' l1
    refine ⟨a, ?_⟩
    unfold Rn
    rw [hm]
    exact ha
theorem LL_IsL {w : Nat} {U D : Nat → Bool} {N : Nat} {K : Nat → Nat} (hw : 1 ≤ w) (h : LL w U D N K) : IsL w U D N K := by
  obtain ⟨m, hm⟩ := LL_Rn hw h (Nat.le_refl N)
  have hop := Rn_opB hw hm
  have h0 : m = 0 := by
    apply Nat.eq_of_testBit_eq
    intro j
    rw [Nat.zero_testBit]
    by_cases hj : j < w
    · cases q : m.testBit j with
      | false => rfl
      | true =>
        exfalso
        obtain ⟨q1, q2, q3, q4, q5⟩ := (hop.2 j hj).mp q
        have h1 := h.2.2 (N - 1 - j) (by omega)
        rw [q3, b1_f q4, b1_f (show ¬ K (N - 1 - j + w) = 2 by rw [h.2.1 _ (by omega)]; decide)] at h1
        by_cases e : j = 0
        · rw [e, b1_f (show ¬ K (N - 1 - 0 + 1) = 1 by rw [h.2.1 _ (by omega)]; decide)] at h1
          cases h1
        · rw [b1_f (show ¬ K (N - 1 - j + 1) = 1 by rw [show N - 1 - j + 1 = N - j by omega]; intro r; exact q5 ⟨by omega, r⟩)] at h1
          cases h1
    · exact Nat.testBit_lt_two_pow (Nat.lt_of_lt_of_le hop.1 (Nat.pow_le_pow_right (by decide) (by omega)))
  exact ⟨by rw [hm, h0], fun c hc => (h.1 c hc).1⟩
/-- KINDS told for the CELLS below N alone -/
def nrm (N : Nat) (K : Nat → Nat) (c : Nat) : Nat := if c < N then K c else 3
theorem IsL_LL {w : Nat} {U D : Nat → Bool} {N : Nat} {K : Nat → Nat} (hw : 1 ≤ w) (h : IsL w U D N K) (h3 : ∀ c, N ≤ c → K c = 3) : LL w U D N K := by
  have at_ : ∀ c, c < N → ∃ m a, opB w D K c m ∧ Tr w U D c m (K c) = some a := by
    intro c hc
    obtain ⟨a, r1, -⟩ := IsL_at h (N - (c + 1)) (c + 1) (by omega)
    obtain ⟨m, r2, r3⟩ := Rn_back r1
    exact ⟨m, a, Rn_opB hw r2, r3⟩
  have a0 : ∀ c, c < N → K c = 0 → D c = true := fun c hc e => by
    obtain ⟨m, a, h1, h2⟩ := at_ c hc
    exact (Tr_asks h2).2.2.2.1 e
  have a1 : ∀ c, c < N → K c = 1 → opP w D K c 0 := fun c hc e => by
    obtain ⟨m, a, h1, h2⟩ := at_ c hc
    exact (h1.2 0 (by omega)).mp ((Tr_asks h2).2.2.1 e).2
  have a2 : ∀ c, c < N → (K c = 2 ↔ opP w D K c (w - 1)) := fun c hc => by
    obtain ⟨m, a, h1, h2⟩ := at_ c hc
    rw [← h1.2 (w - 1) (by omega)]
    exact (Tr_asks h2).2.1
  refine ⟨fun c hc => ?_, h3, fun d hd => ?_⟩
  · obtain ⟨m, a, h1, h2⟩ := at_ c hc
    have hA := Tr_asks h2
    refine ⟨hA.2.2.2.2, hA.1, fun e => (hA.2.2.1 e).1, fun e => ?_⟩
    have := ((a2 c hc).mp e).2.1
    omega
  · have e1 : K (d + 1) = 1 → d + 1 < N := fun e => by
      rcases Nat.lt_or_ge (d + 1) N with q | q
      · exact q
      · rw [h3 _ q] at e; cases e
    have e2 : K (d + w) = 2 → d + w < N := fun e => by
      rcases Nat.lt_or_ge (d + w) N with q | q
      · exact q
      · rw [h3 _ q] at e; cases e
    have p1 : K (d + 1) = 1 → D d = true ∧ K d ≠ 0 := fun e => by
      have := a1 (d + 1) (e1 e) e
      exact (opP_0 hw).mp this
    have p2 : K (d + w) = 2 → D d = true ∧ K d ≠ 0 ∧ K (d + 1) ≠ 1 := fun e => by
      obtain ⟨q1, q2, q3, q4, q5⟩ := (a2 (d + w) (e2 e)).mp e
      rw [show d + w - 1 - (w - 1) = d by omega] at q3 q4
      refine ⟨q3, q4, fun r => ?_⟩
      by_cases w1 : w = 1
      · rw [w1] at e; rw [e] at r; cases r
      · exact q5 ⟨by omega, by rw [show d + w - (w - 1) = d + 1 by omega]; exact r⟩
    cases hD : D d with
    | false =>
      rw [b1_f (fun e => by rw [a0 d hd e] at hD; cases hD), b1_f (fun e => by rw [(p1 e).1] at hD; cases hD), b1_f (fun e => by rw [(p2 e).1] at hD; cases hD)]
      rfl
    | true =>
      by_cases k0 : K d = 0
      · rw [b1_t k0, b1_f (fun e => (p1 e).2 k0), b1_f (fun e => (p2 e).2.1 k0)]
        rfl
      · by_cases k1 : K (d + 1) = 1
        · rw [b1_f k0, b1_t k1, b1_f (fun e => (p2 e).2.2 k1)]
          rfl
        · have k2 : K (d + w) = 2 := by
            rcases Nat.lt_or_ge (d + w) N with q | q
            · refine (a2 (d + w) q).mpr ⟨by omega, by omega, ?_, ?_, ?_⟩
              · rw [show d + w - 1 - (w - 1) = d by omega]; exact hD
              · rw [show d + w - 1 - (w - 1) = d by omega]; exact k0
              · rintro ⟨r1, r2⟩
                rw [show d + w - (w - 1) = d + 1 by omega] at r2
                exact k1 r2
            · exfalso
              have hop := Rn_opB hw h.1
              have := (hop.2 (N - 1 - d) (by omega)).mpr ⟨by omega, by omega, by rw [show N - 1 - (N - 1 - d) = d by omega]; exact hD, by rw [show N - 1 - (N - 1 - d) = d by omega]; exact k0, by
                rintro ⟨r1, r2⟩
                rw [show N - (N - 1 - d) = d + 1 by omega] at r2
                exact k1 r2⟩
              rw [Nat.zero_testBit] at this
              cases this
          rw [b1_f k0, b1_f k1, b1_t k2]
          rfl
theorem Rn_nrm {w : Nat} {U D : Nat → Bool} {N : Nat} {K : Nat → Nat} : ∀ {c : Nat}, c ≤ N → Rn w U D (nrm N K) c = Rn w U D K c
  | 0, _ => rfl
  | c + 1, hc => by
    have ih := Rn_nrm (w := w) (U := U) (D := D) (N := N) (K := K) (c := c) (by omega)
    unfold Rn
    rw [ih, show nrm N K c = K c from if_pos (by omega)]
theorem IsL_nrm {w : Nat} {U D : Nat → Bool} {N : Nat} {K : Nat → Nat} (hw : 1 ≤ w) (h : IsL w U D N K) : LL w U D N (nrm N K) := by
  refine IsL_LL hw ⟨by rw [Rn_nrm (Nat.le_refl _)]; exact h.1, fun c hc => ?_⟩ (fun c hc => if_neg (by omega))
  rw [show nrm N K c = K c from if_pos hc]
  exact h.2 c hc
