/-! ===== HALF 2: TURNS of KINDS ===== -/
/-- the POINT at the CELL c is INNER -/
def innB (w : Nat) (U D : Nat → Bool) (N c : Nat) : Bool := decide (c < N ∧ c % w ≠ 0 ∧ w ≤ c) && (U c && U (c - 1) && U (c - w) && (D (c - 1) && D (c - w) && D (c - w - 1)))
/-- the KINDS around a LOW point (true), a HIGH one (false) -/
def sA (t : Bool) : Nat := if t then 1 else 2
def sB (t : Bool) : Nat := if t then 2 else 0
def sC (t : Bool) : Nat := if t then 0 else 1
def atP (w : Nat) (U D : Nat → Bool) (N : Nat) (t : Bool) (K : Nat → Nat) (c : Nat) : Prop := innB w U D N c = true ∧ K c = sA t ∧ K (c - 1) = sB t ∧ K (c - w) = sC t
/-- the POINT turned -/
def tu (w : Nat) (t : Bool) (K : Nat → Nat) (c i : Nat) : Nat := if i = c then sA (!t) else if i = c - 1 then sB (!t) else if i = c - w then sC (!t) else K i
theorem inn_of {w : Nat} {U D : Nat → Bool} {N c : Nat} (h : innB w U D N c = true) : c < N ∧ c % w ≠ 0 ∧ w ≤ c ∧ w + 1 ≤ c ∧ (1 ≤ w → 2 ≤ w) ∧ U c = true ∧ U (c - 1) = true ∧ U (c - w) = true ∧ D (c - 1) = true ∧ D (c - w) = true ∧ D (c - w - 1) = true := by
  unfold innB at h
  simp only [Bool.and_eq_true, decide_eq_true_eq] at h
  obtain ⟨⟨h1, h2, h3⟩, ⟨⟨h4, h5⟩, h6⟩, ⟨h7, h8⟩, h9⟩ := h
  refine ⟨h1, h2, h3, ?_, ?_, h4, h5, h6, h7, h8, h9⟩
  · rcases Nat.lt_or_ge w c with q | q
    · exact q
    · have : c = w := by omega
      rw [this, Nat.mod_self] at h2
      exact absurd rfl h2
  · intro q
    rcases Nat.lt_or_ge 1 w with r | r
    · exact r
    · have : w = 1 := by omega
      rw [this, Nat.mod_one] at h2
      exact absurd rfl h2
theorem inn_mk {w : Nat} {U D : Nat → Bool} {N c : Nat} (h : c < N ∧ c % w ≠ 0 ∧ w ≤ c) (h1 : U c = true ∧ U (c - 1) = true ∧ U (c - w) = true) (h2 : D (c - 1) = true ∧ D (c - w) = true ∧ D (c - w - 1) = true) : innB w U D N c = true := by
  unfold innB
  rw [decide_eq_true h, h1.1, h1.2.1, h1.2.2, h2.1, h2.2.1, h2.2.2]
  rfl
section TU
variable {w : Nat} {U D : Nat → Bool} {N : Nat} {t : Bool} {K : Nat → Nat} {c : Nat}
theorem tu_c : tu w t K c c = sA (!t) := if_pos rfl
theorem tu_1 (h : 1 ≤ c) : tu w t K c (c - 1) = sB (!t) := by
  unfold tu
  rw [if_neg (by omega), if_pos rfl]
theorem tu_w (h1 : 2 ≤ w) (h : w ≤ c) : tu w t K c (c - w) = sC (!t) := by
  unfold tu
  rw [if_neg (by omega), if_neg (by omega), if_pos rfl]
theorem tu_o {i : Nat} (h1 : i ≠ c) (h2 : i ≠ c - 1) (h3 : i ≠ c - w) : tu w t K c i = K i := by
  unfold tu
  rw [if_neg h1, if_neg h2, if_neg h3]
end TU
theorem s_cases (t : Bool) : (sA t = 1 ∧ sB t = 2 ∧ sC t = 0 ∧ sA (!t) = 2 ∧ sB (!t) = 0 ∧ sC (!t) = 1) ∨ (sA t = 2 ∧ sB t = 0 ∧ sC t = 1 ∧ sA (!t) = 1 ∧ sB (!t) = 2 ∧ sC (!t) = 0) := by
  cases t
  · exact Or.inr ⟨rfl, rfl, rfl, rfl, rfl, rfl⟩
  · exact Or.inl ⟨rfl, rfl, rfl, rfl, rfl, rfl⟩
/-- turning back -/
theorem tu_tu {w : Nat} {U D : Nat → Bool} {N : Nat} {t : Bool} {K : Nat → Nat} {c : Nat} (hw : 1 ≤ w) (h : atP w U D N t K c) : atP w U D N (!t) (tu w t K c) c ∧ tu w (!t) (tu w t K c) c = K := by
  obtain ⟨h0, h1, h2, h3⟩ := h
  have hi := inn_of h0
  have hw2 := hi.2.2.2.2.1 hw
  refine ⟨⟨h0, tu_c, tu_1 (by omega), tu_w hw2 hi.2.2.1⟩, ?_⟩
  funext i
  by_cases e1 : i = c
  · subst e1; rw [tu_c, h1, Bool.not_not]
  · by_cases e2 : i = c - 1
    · subst e2; rw [tu_1 (by omega), h2, Bool.not_not]
    · by_cases e3 : i = c - w
      · subst e3; rw [tu_w hw2 hi.2.2.1, h3, Bool.not_not]
      · rw [tu_o e1 e2 e3, tu_o e1 e2 e3]
/-- turns of two POINTS do not meet -/
theorem tu_two {w : Nat} {U D : Nat → Bool} {N : Nat} {t : Bool} {K : Nat → Nat} {c c' : Nat} (hw : 1 ≤ w) (h : atP w U D N t K c) (h' : atP w U D N t K c') (hne : c ≠ c') : atP w U D N t (tu w t K c) c' ∧ tu w t (tu w t K c) c' = tu w t (tu w t K c') c := by
  obtain ⟨h0, h1, h2, h3⟩ := h
  obtain ⟨h0', h1', h2', h3'⟩ := h'
  have hi := inn_of h0
  have hi' := inn_of h0'
  have hw2 := hi.2.2.2.2.1 hw
  have a1 : c ≠ c' - 1 := fun e => by rw [← e, h1] at h2'; revert h2'; cases t <;> decide
  have a2 : c ≠ c' - w := fun e => by rw [← e, h1] at h3'; revert h3'; cases t <;> decide
  have a3 : c - 1 ≠ c' := fun e => by rw [← e, h2] at h1'; revert h1'; cases t <;> decide
  have a4 : c - 1 ≠ c' - w := fun e => by rw [← e, h2] at h3'; revert h3'; cases t <;> decide
  have a5 : c - w ≠ c' := fun e => by rw [← e, h3] at h1'; revert h1'; cases t <;> decide
  have a6 : c - w ≠ c' - 1 := fun e => by rw [← e, h3] at h2'; revert h2'; cases t <;> decide
  refine ⟨⟨h0', ?_, ?_, ?_⟩, ?_⟩
  · rw [tu_o (by omega) (by omega) (by omega)]; exact h1'
  · rw [tu_o (by omega) (by omega) (by omega)]; exact h2'
  · rw [tu_o (by omega) (by omega) (by omega)]; exact h3'
  · funext i
    by_cases e1 : i = c
    · subst e1; rw [tu_o (by omega) (by omega) (by omega), tu_c, tu_c]
    · by_cases e2 : i = c - 1
      · subst e2; rw [tu_o (by omega) (by omega) (by omega), tu_1 (by omega), tu_1 (by omega)]
      · by_cases e3 : i = c - w
        · subst e3; rw [tu_o (by omega) (by omega) (by omega), tu_w hw2 (by omega), tu_w hw2 (by omega)]
        · rw [tu_o (c := c) e1 e2 e3]
          by_cases f1 : i = c'
          · subst f1; rw [tu_c, tu_c]
          · by_cases f2 : i = c' - 1
            · subst f2; rw [tu_1 (by omega), tu_1 (by omega)]
            · by_cases f3 : i = c' - w
              · subst f3; rw [tu_w hw2 (by omega), tu_w hw2 (by omega)]
              · rw [tu_o f1 f2 f3, tu_o f1 f2 f3, tu_o e1 e2 e3]
/-- how the KINDS change at a CELL -/
theorem tu_e {w : Nat} {U D : Nat → Bool} {N : Nat} {t : Bool} {K : Nat → Nat} {c : Nat} (hw : 1 ≤ w) (h : atP w U D N t K c) (i : Nat) :
    (b1 (tu w t K c i = 0) + b1 (i = if t then c - w else c - 1) = b1 (K i = 0) + b1 (i = if t then c - 1 else c - w)) ∧ (b1 (tu w t K c i = 1) + b1 (i = if t then c else c - w) = b1 (K i = 1) + b1 (i = if t then c - w else c)) ∧ (b1 (tu w t K c i = 2) + b1 (i = if t then c - 1 else c) = b1 (K i = 2) + b1 (i = if t then c else c - 1)) := by
  obtain ⟨h0, h1, h2, h3⟩ := h
  have hi := inn_of h0
  have hw2 := hi.2.2.2.2.1 hw
  have n1 : c ≠ c - 1 := by omega
  have n2 : c ≠ c - w := by omega
  have n3 : c - 1 ≠ c - w := by omega
  by_cases e1 : i = c
  · subst e1
    rw [tu_c, h1]
    cases t <;> simp [sA, b1, n1, n2, n3]
  · by_cases e2 : i = c - 1
    · subst e2
      rw [tu_1 (by omega), h2]
      cases t <;> simp [sB, b1, n1.symm, n2, n3]
    · by_cases e3 : i = c - w
      · subst e3
        rw [tu_w hw2 (by omega), h3]
        cases t <;> simp [sC, b1, n1, n2.symm, n3.symm]
      · rw [tu_o e1 e2 e3]
        cases t <;> simp [b1, e1, e2, e3]
/-- turning keeps a LAYING -/
theorem tu_LL {w : Nat} {U D : Nat → Bool} {N : Nat} {t : Bool} {K : Nat → Nat} {c : Nat} (hw : 1 ≤ w) (h : atP w U D N t K c) (hL : LL w U D N K) : LL w U D N (tu w t K c) := by
  have hE := tu_e hw h
  obtain ⟨h0, h1, h2, h3⟩ := h
  obtain ⟨i1, i2, i3, i4, i5, i6, i7, i8, i9⟩ := inn_of h0
  have hw2 := i5 hw
  refine ⟨fun i hi => ?_, fun i hi => ?_, fun d hd => ?_⟩
  · by_cases e1 : i = c
    · subst e1
      rw [tu_c, i6]
      refine ⟨by cases t <;> decide, by cases t <;> simp [sA], fun _ => i2, fun _ => i3⟩
    · by_cases e2 : i = c - 1
      · subst e2
        rw [tu_1 (by omega), i7]
        refine ⟨by cases t <;> decide, by cases t <;> simp [sB], by cases t <;> simp [sB], fun _ => by omega⟩
      · by_cases e3 : i = c - w
        · subst e3
          rw [tu_w hw2 i3, i8]
          refine ⟨by cases t <;> decide, by cases t <;> simp [sC], fun _ => ?_, by cases t <;> simp [sC]⟩
          rw [← Nat.mod_eq_sub_mod i3]
          exact i2
        · rw [tu_o e1 e2 e3]
          exact hL.1 i hi
  · rw [tu_o (by omega) (by omega) (by omega)]
    exact hL.2.1 i hi
  · rw [← hL.2.2 d hd]
    have f0 := (hE d).1
    have f1 := (hE (d + 1)).2.1
    have f2 := (hE (d + w)).2.2
    have p1 : b1 (d = c - w) = b1 (d + w = c) := by
      by_cases q : d + w = c
      · rw [b1_t q, b1_t (by omega)]
      · rw [b1_f q, b1_f (by omega)]
    have p2 : b1 (d = c - 1) = b1 (d + 1 = c) := by
      by_cases q : d + 1 = c
      · rw [b1_t q, b1_t (by omega)]
      · rw [b1_f q, b1_f (by omega)]
    have p3 : b1 (d + 1 = c - w) = b1 (d + w = c - 1) := by
      by_cases q : d + w = c - 1
      · rw [b1_t q, b1_t (by omega)]
      · rw [b1_f q, b1_f (by omega)]
    cases t
    · simp only [Bool.false_eq_true, if_false] at f0 f1 f2
      omega
    · simp only [if_true] at f0 f1 f2
      omega
/-! the measure -/
theorem sm_upd {f g : Nat → Nat} {a : Nat} : ∀ {n : Nat}, a < n → (∀ i, i ≠ a → f i = g i) → sm f n + g a = sm g n + f a
  | 0, h, _ => by omega
  | n + 1, h, h0 => by
    show sm f n + f n + g a = sm g n + g n + f a
    by_cases e : a = n
    · subst e
      rw [sm_congr (f := f) (g := g) (fun i hi => h0 i (by omega))]
      omega
    · have := sm_upd (n := n) (show a < n by omega) h0
      rw [h0 n (fun q => e q.symm)]
      omega
def Phi (w N : Nat) (K : Nat → Nat) : Nat := sm (fun i => b1 (K i = 2) * (w - i % w)) N
theorem b1_le (p : Prop) [Decidable p] : b1 p ≤ 1 := by
  unfold b1
  split <;> omega
theorem Phi_le {w N : Nat} (hw : w ≤ 8) (hN : N ≤ 64) (K : Nat → Nat) : Phi w N K ≤ 512 := by
  have h1 : ∀ n, sm (fun i => b1 (K i = 2) * (w - i % w)) n ≤ 8 * n := by
    intro n
    induction n with
    | zero => exact Nat.le_refl _
    | succ n ih =>
      show sm (fun i => b1 (K i = 2) * (w - i % w)) n + b1 (K n = 2) * (w - n % w) ≤ _
      have h2 : b1 (K n = 2) * (w - n % w) ≤ 1 * 8 := Nat.mul_le_mul (b1_le _) (by omega)
      omega
  have := h1 N
  unfold Phi
  omega
theorem Phi_tu {w : Nat} {U D : Nat → Bool} {N : Nat} {t : Bool} {K : Nat → Nat} {c : Nat} (hw : 1 ≤ w) (h : atP w U D N t K c) : Phi w N (tu w t K c) + b1 (t = true) = Phi w N K + b1 (t = false) := by
  have hE := fun i => (tu_e hw h i).2.2
  have hi := inn_of h.1
  have hw2 := hi.2.2.2.2.1 hw
  have hm : (c - 1) % w = c % w - 1 := by
    have h1 : c % w + w * (c / w) = c := Nat.mod_add_div c w
    have h2 : c - 1 = (c % w - 1) + w * (c / w) := by have := hi.2.1; omega
    rw [h2, Nat.add_mul_mod_self_left, Nat.mod_eq_of_lt]
    have := Nat.mod_lt c (show 0 < w by omega)
    omega
  have hcw := Nat.mod_lt c (show 0 < w by omega)
  have hc0 := hi.2.1
  -- the CELL c - 1 first, then c
  have s1 := sm_upd (f := fun i => b1 (tu w t K c i = 2) * (w - i % w)) (g := fun i => (if i = c then b1 (K c = 2) else b1 (tu w t K c i = 2)) * (w - i % w)) (n := N) hi.1 (fun i hne => by simp only [if_neg hne])
  have s2 := sm_upd (f := fun i => (if i = c then b1 (K c = 2) else b1 (tu w t K c i = 2)) * (w - i % w)) (g := fun i => b1 (K i = 2) * (w - i % w)) (a := c - 1) (n := N) (by omega) (fun i hne => by
    by_cases e : i = c
    · subst e; simp only [if_true]
    · simp only [if_neg e]
      have := hE i
      have e1 : b1 (i = if t = true then c - 1 else c) = 0 := b1_f (by split <;> assumption)
      have e2 : b1 (i = if t = true then c else c - 1) = 0 := b1_f (by split <;> assumption)
      rw [e1, e2, Nat.add_zero, Nat.add_zero] at this
      rw [this])
  simp only [if_true, if_neg (show ¬ c - 1 = c by omega), hm] at s1 s2
  rw [tu_1 (by omega), h.2.2.1] at s2
  rw [tu_c, h.2.1] at s1
  unfold Phi
  have e : w - (c % w - 1) = w - c % w + 1 := by omega
  rw [e] at s2
  rw [h.2.1] at s2
  cases t
  · simp [sA, sB, b1] at s1 s2 ⊢
    omega
  · simp [sA, sB, b1] at s1 s2 ⊢
    omega
