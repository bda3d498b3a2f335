/-! ===== HALF 2: POINTS in the reference ===== -/
theorem s_in0 (a c : Int32) (σ : St) : f_X6_in a.toInt64 (0 : Int64) c.toInt64 σ = some (bI (decide (0 ≤ a ∧ a ≤ c)), σ) := s_in a 0 c σ
theorem in_n {x m : Nat} (hx : x < 2 ^ 30) (hm : m < 2 ^ 30) : decide ((0 : Int32) ≤ nI x ∧ nI x ≤ nI m) = decide (x ≤ m) := by
  refine decide_eq_decide.mpr ⟨fun q => (nI_leI (by omega) (by omega)).mp q.2, fun q => ⟨nI_pos' (by omega), nI_le q (by omega)⟩⟩
theorem in_m1 {m : Nat} : decide ((0 : Int32) ≤ nI 0 - 1 ∧ nI 0 - 1 ≤ nI m) = false := by
  refine decide_eq_false (fun q => ?_)
  have := q.1
  revert this
  decide
/-- a TRIANGLE is there and IN -/
def thB (w h : Nat) (F : Nat → Bool) (x y : Nat) : Bool := decide (x < w ∧ y < h) && F (y * w + x)
theorem s_isThere {σ : St} {w h : Nat} {U D : Nat → Bool} (g : MG σ w h U D) {x y : Nat} (hx : x < 100) (hy : y < 100) (up : Bool) : f_X6_isThere (nI x) (nI y) (bI up) σ = some (bI (thB w h (if up then U else D) x y), σ) := by
  obtain ⟨hw1, hw8, hh1, hh8, e0, e1, eT⟩ := id g
  have har := area_le hw8 hh8
  unfold f_X6_isThere f_X6_isThere_55 f_X6_isThere_64 f_X6_isThere_65 thB
  rw [e0, show nI w - 1 = nI (w - 1) from nI_sub (b := 1) hw1, bd_at (s_in0 _ _ σ), in_n (by omega) (by omega)]
  by_cases h1 : x ≤ w - 1
  · rw [decide_eq_true h1, if_neg (by decide), e1, show nI h - 1 = nI (h - 1) from nI_sub (b := 1) hh1, bd_at (s_in0 _ _ σ), in_n (by omega) (by omega)]
    by_cases h2 : y ≤ h - 1
    · have hlt := cell_lt (show x < w by omega) (show y < h by omega)
      rw [decide_eq_true h2, if_neg (by decide), decide_eq_true (show x < w ∧ y < h by omega), e0, Bool.true_and]
      have ei : (2 : Int32) * (nI y * nI w + nI x) = nI (2 * (y * w + x)) := by rw [show (2 : Int32) = nI 2 from rfl, nI_mul, nI_add, nI_mul]
      cases up with
      | false =>
        rw [if_pos bI_f, ei, nI_1, rdI_at _ _ (show 2 * (y * w + x) + 1 < len 27 by show _ < 128; omega) (by decide), (eT _ hlt).2]
        cases hD : D (y * w + x) with
        | false => rw [if_pos bI_f, gz_0]; simp [hD, bI]
        | true => rw [if_neg bIt, gz_1]; simp [hD, bI]
      | true =>
        rw [if_neg bIt, ei, show nI (2 * (y * w + x)) + 0 = nI (2 * (y * w + x) + 0) from nI_add _ 0, Nat.add_zero, rdI_at _ _ (show 2 * (y * w + x) < len 27 by show _ < 128; omega) (by decide), (eT _ hlt).1]
        cases hU : U (y * w + x) with
        | false => rw [if_pos bI_f, gz_0]; simp [hU, bI]
        | true => rw [if_neg bIt, gz_1]; simp [hU, bI]
    · rw [decide_eq_false h2, if_pos bI_f, gz_0, decide_eq_false (by omega)]
      rfl
  · rw [decide_eq_false h1, if_pos bI_f, gz_0, decide_eq_false (by omega)]
    rfl
/-- before the first column or row there is none -/
theorem s_isThere_x {σ : St} {w h : Nat} {U D : Nat → Bool} (g : MG σ w h U D) (a2 a3 : Int32) : f_X6_isThere (nI 0 - 1) a2 a3 σ = some (0, σ) := by
  obtain ⟨hw1, hw8, hh1, hh8, e0, e1, eT⟩ := id g
  unfold f_X6_isThere f_X6_isThere_64 f_X6_isThere_65
  rw [e0, show nI w - 1 = nI (w - 1) from nI_sub (b := 1) hw1, bd_at (s_in0 _ _ σ), in_m1, if_pos bI_f, gz_0]
theorem s_isThere_y {σ : St} {w h : Nat} {U D : Nat → Bool} (g : MG σ w h U D) (a1 a3 : Int32) : f_X6_isThere a1 (nI 0 - 1) a3 σ = some (0, σ) := by
  obtain ⟨hw1, hw8, hh1, hh8, e0, e1, eT⟩ := id g
  unfold f_X6_isThere f_X6_isThere_64 f_X6_isThere_65
  rw [bd_at (s_in0 _ _ σ)]
  split
  · rw [gz_0]
  · rw [e1, show nI h - 1 = nI (h - 1) from nI_sub (b := 1) hh1, bd_at (s_in0 _ _ σ), in_m1, if_pos bI_f, gz_0]
theorem row_mod {w x y : Nat} (hx : x < w) : (y * w + x) % w = x := by
  rw [Nat.mul_comm, Nat.mul_add_mod, Nat.mod_eq_of_lt hx]
/-- INNER by x and y -/
theorem inn_xy {w h x y : Nat} {U D : Nat → Bool} (hx : x ≤ w) (hy : y ≤ h) (hw : 1 ≤ w) : innB w U D (w * h) (y * w + x) = (decide (1 ≤ x ∧ 1 ≤ y) && (thB w h U x y && thB w h U (x - 1) y && thB w h U x (y - 1) && (thB w h D (x - 1) y && thB w h D (x - 1) (y - 1) && thB w h D x (y - 1)))) := by
  unfold innB
  by_cases h1 : x < w
  · by_cases h2 : y < h
    · have hlt := cell_lt h1 h2
      by_cases h3 : 1 ≤ x
      · by_cases h4 : 1 ≤ y
        · have ey : y * w = (y - 1) * w + w := by rw [show y * w = (y - 1 + 1) * w by rw [Nat.sub_add_cancel h4], Nat.add_mul, Nat.one_mul]
          have hq : w ≤ y * w + x := by omega
          rw [decide_eq_true (show y * w + x < w * h ∧ (y * w + x) % w ≠ 0 ∧ w ≤ y * w + x from ⟨hlt, by rw [row_mod h1]; omega, hq⟩), decide_eq_true (show 1 ≤ x ∧ 1 ≤ y from ⟨h3, h4⟩)]
          unfold thB
          rw [decide_eq_true (show x < w ∧ y < h from ⟨h1, h2⟩), decide_eq_true (show x - 1 < w ∧ y < h by omega), decide_eq_true (show x < w ∧ y - 1 < h by omega), decide_eq_true (show x - 1 < w ∧ y - 1 < h by omega)]
          rw [show y * w + x - 1 = y * w + (x - 1) by omega, show y * w + x - w = (y - 1) * w + x by omega, show (y - 1) * w + x - 1 = (y - 1) * w + (x - 1) by omega]
          simp only [Bool.true_and]
          cases U (y * w + x) <;> cases U (y * w + (x - 1)) <;> cases U ((y - 1) * w + x) <;> cases D (y * w + (x - 1)) <;> cases D ((y - 1) * w + x) <;> cases D ((y - 1) * w + (x - 1)) <;> rfl
        · have : y = 0 := by omega
          subst this
          rw [decide_eq_false (show ¬ (0 * w + x < w * h ∧ (0 * w + x) % w ≠ 0 ∧ w ≤ 0 * w + x) by rw [Nat.zero_mul]; omega), decide_eq_false (by omega)]
          rfl
      · have : x = 0 := by omega
        subst this
        rw [decide_eq_false (show ¬ (y * w + 0 < w * h ∧ (y * w + 0) % w ≠ 0 ∧ w ≤ y * w + 0) by rw [row_mod h1]; omega), decide_eq_false (by omega)]
        rfl
    · have : y = h := by omega
      subst this
      rw [decide_eq_false (show ¬ (y * w + x < w * y ∧ (y * w + x) % w ≠ 0 ∧ w ≤ y * w + x) by rw [Nat.mul_comm w y]; omega)]
      unfold thB
      rw [decide_eq_false (show ¬ (x < w ∧ y < y) by omega)]
      simp
  · have : x = w := by omega
    subst this
    rw [decide_eq_false (show ¬ (y * x + x < x * h ∧ (y * x + x) % x ≠ 0 ∧ x ≤ y * x + x) by rw [show y * x + x = (y + 1) * x by rw [Nat.add_mul, Nat.one_mul], Nat.mul_mod_left]; omega)]
    unfold thB
    rw [decide_eq_false (show ¬ (x < x ∧ y < h) by omega)]
    simp
theorem s_isInner {σ : St} {w h : Nat} {U D : Nat → Bool} (g : MG σ w h U D) {x y : Nat} (hx : x ≤ w) (hy : y ≤ h) : f_X6_isInner (nI x) (nI y) σ = some (bI (innB w U D (w * h) (y * w + x)), σ) := by
  obtain ⟨hw1, hw8, hh1, hh8, -⟩ := id g
  rw [inn_xy hx hy hw1]
  unfold f_X6_isInner f_X6_isInner_76 f_X6_isInner_77
  have T := fun (x y : Nat) (hx : x < 100) (hy : y < 100) => s_isThere g hx hy true
  have B := fun (x y : Nat) (hx : x < 100) (hy : y < 100) => s_isThere g hx hy false
  rw [show (1 : Int32) = bI true from rfl] at *
  rw [bd_at (T x y (by omega) (by omega))]
  simp only [if_true]
  cases a1 : thB w h U x y with
  | false => rw [if_pos bI_f, gz_0]; simp [bI]
  | true =>
    rw [if_neg bIt]
    by_cases h3 : 1 ≤ x
    · rw [show nI x - bI true = nI (x - 1) from nI_sub (b := 1) h3, bd_at (T (x - 1) y (by omega) (by omega))]
      simp only [if_true]
      cases a2 : thB w h U (x - 1) y with
      | false => rw [if_pos bI_f, gz_0]; simp [bI]
      | true =>
        rw [if_neg bIt]
        by_cases h4 : 1 ≤ y
        · rw [show nI y - bI true = nI (y - 1) from nI_sub (b := 1) h4, bd_at (T x (y - 1) (by omega) (by omega))]
          simp only [if_true]
          cases a3 : thB w h U x (y - 1) with
          | false => rw [if_pos bI_f, gz_0]; simp [bI]
          | true =>
            rw [if_neg bIt, show (0 : Int32) = bI false from rfl, bd_at (B (x - 1) y (by omega) (by omega))]
            simp only [Bool.false_eq_true, if_false]
            cases a4 : thB w h D (x - 1) y with
            | false => rw [if_pos rfl]; rw [bI_f, gz_0]; simp [bI]
            | true =>
              rw [if_neg (show ¬ bI true = bI false by decide), bd_at (B (x - 1) (y - 1) (by omega) (by omega))]
              simp only [Bool.false_eq_true, if_false]
              cases a5 : thB w h D (x - 1) (y - 1) with
              | false => rw [if_pos rfl]; rw [bI_f, gz_0]; simp [bI]
              | true =>
                rw [if_neg (show ¬ bI true = bI false by decide), bd_at (B x (y - 1) (by omega) (by omega))]
                simp only [Bool.false_eq_true, if_false]
                cases a6 : thB w h D x (y - 1) with
                | false => rw [if_pos rfl]; rw [bI_f, gz_0]; simp [bI]
                | true =>
                  rw [if_neg (show ¬ bI true = bI false by decide), bI_t, gz_1]
                  simp [h3, h4, bI]
        · have : y = 0 := by omega
          subst this
          rw [show nI 0 - bI true = nI 0 - 1 from rfl, bd_at (s_isThere_y g _ _), if_pos rfl, gz_0]
          simp [bI]
    · have : x = 0 := by omega
      subst this
      rw [show nI 0 - bI true = nI 0 - 1 from rfl, bd_at (s_isThere_x g _ _), if_pos rfl, gz_0]
      simp [bI]
theorem s_isPoint {σ : St} {w h : Nat} {U D : Nat → Bool} (g : MG σ w h U D) (a1 a2 : Int32) : f_X6_isPoint a1 a2 σ = some (bI (decide ((0 ≤ a1 ∧ a1 ≤ nI w) ∧ (0 ≤ a2 ∧ a2 ≤ nI h))), σ) := by
  obtain ⟨hw1, hw8, hh1, hh8, e0, e1, eT⟩ := id g
  unfold f_X6_isPoint f_X6_isPoint_32 f_X6_isPoint_33
  rw [e0, bd_at (s_in0 _ _ σ)]
  by_cases h1 : 0 ≤ a1 ∧ a1 ≤ nI w
  · rw [decide_eq_true h1, if_neg bIt, e1, bd_at (s_in0 _ _ σ)]
    by_cases h2 : 0 ≤ a2 ∧ a2 ≤ nI h
    · rw [decide_eq_true h2, if_neg bIt, gz_1, decide_eq_true ⟨h1, h2⟩]
      rfl
    · rw [decide_eq_false h2, if_pos bI_f, gz_0, decide_eq_false (fun z => h2 z.2)]
      rfl
  · rw [decide_eq_false h1, if_pos bI_f, gz_0, decide_eq_false (fun z => h1 z.1)]
    rfl
