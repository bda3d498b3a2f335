/-! ===== HALF 2: THE MOST LOZENGES, and THE BAR: any two searches end alike ===== -/
noncomputable def c1 (p : Prop) : Nat := @ite Nat p (Classical.propDecidable p) 1 0
theorem c1_t {p : Prop} (h : p) : c1 p = 1 := if_pos h
theorem c1_f {p : Prop} (h : ¬ p) : c1 p = 0 := if_neg h
theorem c1_le (p : Prop) : c1 p ≤ 1 := by
  by_cases h : p
  · rw [c1_t h]; exact Nat.le_refl _
  · rw [c1_f h]; exact Nat.zero_le _
theorem c1_mono {p q : Prop} (h : p → q) : c1 p ≤ c1 q := by
  by_cases hp : p
  · rw [c1_t hp, c1_t (h hp)]; exact Nat.le_refl _
  · rw [c1_f hp]; exact Nat.zero_le _
theorem c1_congr {p q : Prop} (h : p ↔ q) : c1 p = c1 q := by rw [propext h]
theorem c1_of {p q : Prop} (h : c1 p = c1 q) (hq : q) : p := by
  apply Classical.byContradiction
  intro hp
  rw [c1_f hp, c1_t hq] at h
  cases h
/-- UP u can be joined with DOWN d -/
def Ad (w : Nat) (U D : Nat → Bool) (N u d : Nat) : Prop := u < N ∧ U u = true ∧ d < N ∧ D d = true ∧ (d = u ∨ (u % w ≠ 0 ∧ d + 1 = u) ∨ (w ≤ u ∧ d + w = u))
/-- LOZENGES, no TRIANGLE in two -/
def MT (w : Nat) (U D : Nat → Bool) (N : Nat) (mu : Nat → Option Nat) : Prop := (∀ u d, mu u = some d → Ad w U D N u d) ∧ ∀ u u' d, mu u = some d → mu u' = some d → u = u'
/-- what is come to from the bare UP -/
def ZC (w : Nat) (U D : Nat → Bool) (N : Nat) (mu : Nat → Option Nat) (Z : Nat → Prop) : Prop := (∀ u, Z u → u < N ∧ U u = true) ∧ (∀ u, u < N → U u = true → mu u = none → Z u) ∧ ∀ u d, Z u → Ad w U D N u d → ∃ u', mu u' = some d ∧ Z u'
def ZM (w : Nat) (U D : Nat → Bool) (N : Nat) (mu : Nat → Option Nat) (Z : Nat → Prop) : Prop := ∀ S : Nat → Prop, (∀ u, u < N → U u = true → mu u = none → S u) → (∀ u d u', S u → Ad w U D N u d → mu u' = some d → S u') → ∀ u, Z u → S u
theorem sm_eq {f g : Nat → Nat} : ∀ {n : Nat}, (∀ i, i < n → f i ≤ g i) → sm f n = sm g n → ∀ i, i < n → f i = g i
  | 0, _, _, i, hi => by omega
  | n + 1, h, e, i, hi => by
    have e' : sm f n + f n = sm g n + g n := e
    have h1 := sm_le (n := n) (fun i hi => h i (by omega))
    have h2 := h n (by omega)
    by_cases q : i = n
    · rw [q]; omega
    · exact sm_eq (n := n) (fun i hi => h i (by omega)) (by omega) i (by omega)
/-- at most one -/
theorem sm_c1 {P : Nat → Prop} {n : Nat} (h : ∀ i j, P i → P j → i = j) : sm (fun i => c1 (P i)) n = c1 (∃ i, i < n ∧ P i) := by
  by_cases q : ∃ i, i < n ∧ P i
  · obtain ⟨a, ha, hP⟩ := q
    rw [sm_one ha (fun i _ hne => c1_f (fun z => hne (h i a z hP))), c1_t hP, c1_t ⟨a, ha, hP⟩]
  · rw [c1_f q]
    exact sm_all0 (fun i hi => c1_f (fun z => q ⟨i, hi, z⟩))
section MAT
variable {w : Nat} {U D : Nat → Bool} {N : Nat}
/-- those of Z that are joined, by their DOWN -/
theorem MT_sum {mu : Nat → Option Nat} (hM : MT w U D N mu) (Z : Nat → Prop) : sm (fun u => c1 (Z u ∧ mu u ≠ none)) N = sm (fun d => c1 (∃ u, u < N ∧ Z u ∧ mu u = some d)) N := by
  have e1 : sm (fun u => c1 (Z u ∧ mu u ≠ none)) N = sm (fun u => sm (fun d => c1 (Z u ∧ mu u = some d)) N) N := sm_congr (fun u hu => by
    rw [sm_c1 (P := fun d => Z u ∧ mu u = some d) (fun i j hi hj => Option.some.inj (hi.2.symm.trans hj.2))]
    refine c1_congr ⟨fun q => ?_, fun q => ?_⟩
    · cases hd : mu u with
      | none => exact absurd hd q.2
      | some d => exact ⟨d, (hM.1 u d hd).2.2.1, q.1, rfl⟩
    · obtain ⟨d, -, h1, h2⟩ := q
      exact ⟨h1, by rw [h2]; intro z; cases z⟩)
  rw [e1, sm_swap]
  refine sm_congr (fun d hd => ?_)
  exact sm_c1 (P := fun u => Z u ∧ mu u = some d) (fun i j hi hj => hM.2 i j d hi.2 hj.2)
theorem Z_split (mu : Nat → Option Nat) (Z : Nat → Prop) : sm (fun u => c1 (Z u ∧ mu u ≠ none)) N + sm (fun u => c1 (Z u ∧ mu u = none)) N = sm (fun u => c1 (Z u)) N := by
  rw [← sm_add]
  refine sm_congr (fun u _ => ?_)
  by_cases h1 : Z u
  · by_cases h2 : mu u = none
    · rw [c1_f (fun z => z.2 h2), c1_t ⟨h1, h2⟩, c1_t h1]
    · rw [c1_t ⟨h1, h2⟩, c1_f (fun z => h2 z.2), c1_t h1]
  · rw [c1_f (fun z => h1 z.1), c1_f (fun z => h1 z.1), c1_f h1]
/-- how many UP stay bare -/
noncomputable def bare (U : Nat → Bool) (N : Nat) (mu : Nat → Option Nat) : Nat := sm (fun u => c1 (U u = true ∧ mu u = none)) N
theorem bare_le {mu mu' : Nat → Option Nat} {Z : Nat → Prop} (hM : MT w U D N mu) (hM' : MT w U D N mu') (hZ : ZC w U D N mu Z) : bare U N mu ≤ bare U N mu' ∧ (bare U N mu' = bare U N mu → (∀ u, u < N → U u = true → mu' u = none → Z u) ∧ ∀ u d, Z u → Ad w U D N u d → ∃ u', mu' u' = some d ∧ Z u') := by
  have a1 := MT_sum hM Z
  have a2 := MT_sum hM' Z
  have s1 := Z_split (N := N) mu Z
  have s2 := Z_split (N := N) mu' Z
  -- the DOWN beside Z
  have n1 : ∀ d, d < N → c1 (∃ u, u < N ∧ Z u ∧ mu' u = some d) ≤ c1 (∃ u, u < N ∧ Z u ∧ mu u = some d) := fun d hd => c1_mono (fun ⟨u, h1, h2, h3⟩ => by
    obtain ⟨u', h4, h5⟩ := hZ.2.2 u d h2 (hM'.1 u d h3)
    exact ⟨u', (hZ.1 u' h5).1, h5, h4⟩)
  have l1 := sm_le (n := N) n1
  have b1' : bare U N mu = sm (fun u => c1 (Z u ∧ mu u = none)) N := sm_congr (fun u hu => c1_congr ⟨fun q => ⟨hZ.2.1 u hu q.1 q.2, q.2⟩, fun q => ⟨(hZ.1 u q.1).2, q.2⟩⟩)
  have n2 : ∀ u, u < N → c1 (Z u ∧ mu' u = none) ≤ c1 (U u = true ∧ mu' u = none) := fun u hu => c1_mono (fun q => ⟨(hZ.1 u q.1).2, q.2⟩)
  have l2 := sm_le (n := N) n2
  have b2' : bare U N mu' = sm (fun u => c1 (U u = true ∧ mu' u = none)) N := rfl
  refine ⟨by omega, fun he => ⟨fun u hu h1 h2 => ?_, fun u d h1 h2 => ?_⟩⟩
  · have := sm_eq n2 (by omega) u hu
    exact (c1_of this ⟨h1, h2⟩).1
  · have h3 : d < N := h2.2.2.1
    have := sm_eq n1 (by omega) d h3
    obtain ⟨u0, q1, q2⟩ := hZ.2.2 u d h1 h2
    obtain ⟨u', p1, p2, p3⟩ := c1_of this ⟨u0, (hZ.1 u0 q2).1, q2, q1⟩
    exact ⟨u', p3, p2⟩
/-- two searches that have ended: as many bare, and the same come to -/
theorem match_same {mu mu' : Nat → Option Nat} {Z Z' : Nat → Prop} (hM : MT w U D N mu) (hM' : MT w U D N mu') (hZ : ZC w U D N mu Z) (hZ' : ZC w U D N mu' Z') (hm : ZM w U D N mu Z) (hm' : ZM w U D N mu' Z') : bare U N mu = bare U N mu' ∧ ∀ u, Z u ↔ Z' u := by
  have h1 := bare_le hM hM' hZ
  have h2 := bare_le hM' hM hZ'
  have e : bare U N mu = bare U N mu' := by omega
  have c1' := h1.2 e.symm
  have c2' := h2.2 e
  refine ⟨e, fun u => ⟨fun q => ?_, fun q => ?_⟩⟩
  · refine hm Z' c2'.1 (fun u d u' hu had hmu => ?_) u q
    obtain ⟨u2, p1, p2⟩ := c2'.2 u d hu had
    rw [hM.2 u' u2 d hmu p1]
    exact p2
  · refine hm' Z c1'.1 (fun u d u' hu had hmu => ?_) u q
    obtain ⟨u2, p1, p2⟩ := c1'.2 u d hu had
    rw [hM'.2 u' u2 d hmu p1]
    exact p2
/-- as many joined -/
theorem joined_eq {mu : Nat → Option Nat} (hM : MT w U D N mu) : sm (fun u => c1 (mu u ≠ none)) N + bare U N mu = sm (fun u => c1 (U u = true)) N := by
  unfold bare
  rw [← sm_add]
  refine sm_congr (fun u hu => ?_)
  cases h : mu u with
  | none =>
    rw [c1_f (fun z => z rfl), Nat.zero_add]
    exact c1_congr ⟨fun q => q.1, fun q => ⟨q, rfl⟩⟩
  | some d =>
    rw [c1_t (fun z => by cases z), c1_f (fun z => by cases z.2), c1_t (hM.1 u d h).2.1]
/-- a DOWN that is bare comes to an UP, which leaves its own -/
theorem MT_set {mu : Nat → Option Nat} (hM : MT w U D N mu) {u0 d0 : Nat} (had : Ad w U D N u0 d0) (hfree : ∀ u, mu u ≠ some d0) : MT w U D N (fun u => if u = u0 then some d0 else mu u) ∧ ∀ d, mu u0 = some d → ∀ u, (fun u => if u = u0 then some d0 else mu u) u ≠ some d := by
  refine ⟨⟨fun u d h => ?_, fun u u' d h h' => ?_⟩, fun d hd u h => ?_⟩
  · by_cases e : u = u0
    · simp only [if_pos e] at h
      rw [e, ← Option.some.inj h]
      exact had
    · simp only [if_neg e] at h
      exact hM.1 u d h
  · by_cases e : u = u0
    · by_cases e' : u' = u0
      · rw [e, e']
      · simp only [if_pos e] at h
        simp only [if_neg e'] at h'
        rw [← Option.some.inj h] at h'
        exact absurd h' (hfree u')
    · by_cases e' : u' = u0
      · simp only [if_neg e] at h
        simp only [if_pos e'] at h'
        rw [← Option.some.inj h'] at h
        exact absurd h (hfree u)
      · simp only [if_neg e] at h
        simp only [if_neg e'] at h'
        exact hM.2 u u' d h h'
  · by_cases e : u = u0
    · simp only [if_pos e] at h
      rw [← Option.some.inj h] at hd
      exact hfree u0 hd
    · simp only [if_neg e] at h
      exact e (hM.2 u u0 d h hd)
end MAT
