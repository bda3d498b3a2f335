/-! ===== HALF 2: stepCell, spread of the reference ===== -/
section ST
variable {w h s o : Nat} {U D : Nat → Bool} {K1 K2 : Nat → Nat} {kn0 : Nat → Bool} {hi0 : Nat → Int} {cst : Int × Nat}
theorem s_292 {σ : St} {kn : Nat → Bool} {hi : Nat → Int} (hI : INV σ kn hi kn0 hi0 cst (Dq w K1 K2)) (b : Bool) : RES kn0 hi0 cst (Dq w K1 K2) [] σ kn (f_X6_stepCell_292 (bI b) σ) b := by
  unfold f_X6_stepCell_292 f_X6_stepCell_294
  rw [gz_of (bI_or b)]
  exact RES_end hI b
theorem s_241 (hs : s < 4) (ho : o < 4) (l1 : LL w U D (w * h) K1) (l2 : LL w U D (w * h) K2) (hC : Cl w h U D kn0) {x y : Nat} (hx : x < w) (hy : y < h) (hD : D (y * w + x) = true) {σ : St} {kn : Nat → Bool} {hi : Nat → Int} (hS : SX w h s o U D K1 K2 σ) (hI : INV σ kn hi kn0 hi0 cst (Dq w K1 K2)) (b : Bool) :
    RES kn0 hi0 cst (Dq w K1 K2) [(9 * y + x + 10, 9 * y + x + 1)] σ kn (f_X6_stepCell_241 (nI s) (nI o) (nI x) (nI y) (nI (9 * y + x)) (bI b) σ) b := by
  have hw8 := hS.1.2.1
  have hh8 := hS.1.2.2.2.1
  have c1 : f_X6_crossed (nI o) (nI x + 1) (nI y) (1 : Int32) σ = some (nI (b1 (K2 (y * w + (x + 1)) = 1)), σ) := by rw [nI_1]; exact s_crossed ho hS.1 hS.2.2 l2 (k := 1) (by decide) (by omega) (by omega)
  have c2 : f_X6_crossed (nI s) (nI x + 1) (nI y) (1 : Int32) σ = some (nI (b1 (K1 (y * w + (x + 1)) = 1)), σ) := by rw [nI_1]; exact s_crossed hs hS.1 hS.2.1 l1 (k := 1) (by decide) (by omega) (by omega)
  unfold f_X6_stepCell_241
  rw [bd_at c1, bd_at c2, nI_d, show nI (9 * y + x) + (10 : Int32) = nI (9 * y + x + 10) from nI_add _ 10, show nI (9 * y + x) + (1 : Int32) = nI (9 * y + x + 1) from nI_add _ 1]
  have hc := (hC x y hx hy).2 hD
  refine step_bind hI (by omega) (by omega) (by rw [← hc.2, hc.1]) (Dq_e hS.1.1 hw8 l1 l2 hx hy).2.2.2.2 (fun σ1 kn1 hi1 m1 hI1 hx1 => ?_)
  exact (congrArg (fun z => RES kn0 hi0 cst (Dq w K1 K2) [] σ1 kn1 z (m1 || b)) (ite_flag (fun v => f_X6_stepCell_292 v σ1) m1 b)).mpr (s_292 hI1 (m1 || b))
theorem s_189 (hs : s < 4) (ho : o < 4) (l1 : LL w U D (w * h) K1) (l2 : LL w U D (w * h) K2) (hC : Cl w h U D kn0) {x y : Nat} (hx : x < w) (hy : y < h) (hD : D (y * w + x) = true) {σ : St} {kn : Nat → Bool} {hi : Nat → Int} (hS : SX w h s o U D K1 K2 σ) (hI : INV σ kn hi kn0 hi0 cst (Dq w K1 K2)) (b : Bool) :
    RES kn0 hi0 cst (Dq w K1 K2) [(9 * y + x + 9, 9 * y + x + 10), (9 * y + x + 10, 9 * y + x + 1)] σ kn (f_X6_stepCell_189 (nI s) (nI o) (nI x) (nI y) (nI (9 * y + x)) (bI b) σ) b := by
  have hw8 := hS.1.2.1
  have hh8 := hS.1.2.2.2.1
  have c1 : f_X6_crossed (nI o) (nI x) (nI y + 1) (2 : Int32) σ = some (nI (b1 (K2 ((y + 1) * w + x) = 2)), σ) := by rw [nI_1]; exact s_crossed ho hS.1 hS.2.2 l2 (k := 2) (by decide) (by omega) (by omega)
  have c2 : f_X6_crossed (nI s) (nI x) (nI y + 1) (2 : Int32) σ = some (nI (b1 (K1 ((y + 1) * w + x) = 2)), σ) := by rw [nI_1]; exact s_crossed hs hS.1 hS.2.1 l1 (k := 2) (by decide) (by omega) (by omega)
  unfold f_X6_stepCell_189
  rw [bd_at c1, bd_at c2, nI_d, show nI (9 * y + x) + (10 : Int32) = nI (9 * y + x + 10) from nI_add _ 10, show nI (9 * y + x) + (9 : Int32) = nI (9 * y + x + 9) from nI_add _ 9]
  have hc := (hC x y hx hy).2 hD
  refine step_bind hI (by omega) (by omega) hc.2 (Dq_e hS.1.1 hw8 l1 l2 hx hy).2.2.2.1 (fun σ1 kn1 hi1 m1 hI1 hx1 => ?_)
  exact (congrArg (fun z => RES kn0 hi0 cst (Dq w K1 K2) [(9 * y + x + 10, 9 * y + x + 1)] σ1 kn1 z (m1 || b)) (ite_flag (fun v => f_X6_stepCell_241 (nI s) (nI o) (nI x) (nI y) (nI (9 * y + x)) v σ1) m1 b)).mpr (s_241 hs ho l1 l2 hC hx hy hD (hS.keep hx1) hI1 (m1 || b))
theorem s_150 (hs : s < 4) (ho : o < 4) (l1 : LL w U D (w * h) K1) (l2 : LL w U D (w * h) K2) (hC : Cl w h U D kn0) {x y : Nat} (hx : x < w) (hy : y < h) {σ : St} {kn : Nat → Bool} {hi : Nat → Int} (hS : SX w h s o U D K1 K2 σ) (hI : INV σ kn hi kn0 hi0 cst (Dq w K1 K2)) (b : Bool) :
    RES kn0 hi0 cst (Dq w K1 K2) (if D (y * w + x) = true then [(9 * y + x + 1, 9 * y + x + 9), (9 * y + x + 9, 9 * y + x + 10), (9 * y + x + 10, 9 * y + x + 1)] else []) σ kn (f_X6_stepCell_150 (nI s) (nI o) (nI x) (nI y) (bI b) (nI (9 * y + x)) (iZ (bd2 K1 K2 (y * w + x) 0)) σ) b := by
  have hw8 := hS.1.2.1
  have hh8 := hS.1.2.2.2.1
  unfold f_X6_stepCell_150
  have ht := s_isThere hS.1 (show x < 100 by omega) (show y < 100 by omega) false
  rw [show bI false = 0 from rfl] at ht
  rw [bd_at ht]
  have e : thB w h (if false = true then U else D) x y = D (y * w + x) := by
    unfold thB
    rw [decide_eq_true ⟨hx, hy⟩]
    rfl
  rw [e]
  cases hD : D (y * w + x) with
  | false =>
    rw [if_neg (by decide), if_pos bI_f]
    unfold f_X6_stepCell_294
    rw [gz_of (bI_or b)]
    exact RES_end hI b
  | true =>
    rw [if_pos rfl, if_neg bIt, show nI (9 * y + x) + (1 : Int32) = nI (9 * y + x + 1) from nI_add _ 1, show nI (9 * y + x) + (9 : Int32) = nI (9 * y + x + 9) from nI_add _ 9]
    have hc := (hC x y hx hy).2 hD
    refine step_bind hI (by omega) (by omega) hc.1 (Dq_e hS.1.1 hw8 l1 l2 hx hy).2.1 (fun σ1 kn1 hi1 m1 hI1 hx1 => ?_)
    exact (congrArg (fun z => RES kn0 hi0 cst (Dq w K1 K2) [(9 * y + x + 9, 9 * y + x + 10), (9 * y + x + 10, 9 * y + x + 1)] σ1 kn1 z (m1 || b)) (ite_flag (fun v => f_X6_stepCell_189 (nI s) (nI o) (nI x) (nI y) (nI (9 * y + x)) v σ1) m1 b)).mpr (s_189 hs ho l1 l2 hC hx hy hD (hS.keep hx1) hI1 (m1 || b))
def E2 (D : Nat → Bool) (w x y : Nat) : List (Nat × Nat) := if D (y * w + x) = true then [(9 * y + x + 1, 9 * y + x + 9), (9 * y + x + 9, 9 * y + x + 10), (9 * y + x + 10, 9 * y + x + 1)] else []
def E1 (U D : Nat → Bool) (w x y : Nat) : List (Nat × Nat) := if U (y * w + x) = true then (9 * y + x, 9 * y + x + 1) :: (9 * y + x + 1, 9 * y + x + 9) :: (9 * y + x + 9, 9 * y + x) :: E2 D w x y else E2 D w x y
theorem s_103 (hs : s < 4) (ho : o < 4) (l1 : LL w U D (w * h) K1) (l2 : LL w U D (w * h) K2) (hC : Cl w h U D kn0) {x y : Nat} (hx : x < w) (hy : y < h) (hU : U (y * w + x) = true) {σ : St} {kn : Nat → Bool} {hi : Nat → Int} (hS : SX w h s o U D K1 K2 σ) (hI : INV σ kn hi kn0 hi0 cst (Dq w K1 K2)) (b : Bool) :
    RES kn0 hi0 cst (Dq w K1 K2) ((9 * y + x + 9, 9 * y + x) :: E2 D w x y) σ kn (f_X6_stepCell_103 (nI s) (nI o) (nI x) (nI y) (nI (9 * y + x)) (iZ (bd2 K1 K2 (y * w + x) 0)) (bI b) σ) b := by
  have hw8 := hS.1.2.1
  have hh8 := hS.1.2.2.2.1
  have c1 : f_X6_crossed (nI o) (nI x) (nI y) (1 : Int32) σ = some (nI (b1 (K2 (y * w + x) = 1)), σ) := s_crossed ho hS.1 hS.2.2 l2 (k := 1) (by decide) (by omega) (by omega)
  have c2 : f_X6_crossed (nI s) (nI x) (nI y) (1 : Int32) σ = some (nI (b1 (K1 (y * w + x) = 1)), σ) := s_crossed hs hS.1 hS.2.1 l1 (k := 1) (by decide) (by omega) (by omega)
  unfold f_X6_stepCell_103
  rw [bd_at c1, bd_at c2, nI_d, show nI (9 * y + x) + (9 : Int32) = nI (9 * y + x + 9) from nI_add _ 9]
  have hc := (hC x y hx hy).1 hU
  refine step_bind hI (by omega) (by omega) (by rw [hc.1, hc.2]) (Dq_e hS.1.1 hw8 l1 l2 hx hy).2.2.1 (fun σ1 kn1 hi1 m1 hI1 hx1 => ?_)
  exact (congrArg (fun z => RES kn0 hi0 cst (Dq w K1 K2) (E2 D w x y) σ1 kn1 z (m1 || b)) (ite_flag (fun v => f_X6_stepCell_150 (nI s) (nI o) (nI x) (nI y) v (nI (9 * y + x)) (iZ (bd2 K1 K2 (y * w + x) 0)) σ1) m1 b)).mpr (s_150 hs ho l1 l2 hC hx hy (hS.keep hx1) hI1 (m1 || b))
theorem s_stepCell (hs : s < 4) (ho : o < 4) (l1 : LL w U D (w * h) K1) (l2 : LL w U D (w * h) K2) (hC : Cl w h U D kn0) {x y : Nat} (hx : x < w) (hy : y < h) {σ : St} {kn : Nat → Bool} {hi : Nat → Int} (hS : SX w h s o U D K1 K2 σ) (hI : INV σ kn hi kn0 hi0 cst (Dq w K1 K2)) :
    RES kn0 hi0 cst (Dq w K1 K2) (E1 U D w x y) σ kn (f_X6_stepCell (nI s) (nI o) (nI x) (nI y) σ) false := by
  have hw8 := hS.1.2.1
  have hh8 := hS.1.2.2.2.1
  have c1 : f_X6_crossed (nI o) (nI x) (nI y) (0 : Int32) σ = some (nI (b1 (K2 (y * w + x) = 0)), σ) := s_crossed ho hS.1 hS.2.2 l2 (k := 0) (by decide) (by omega) (by omega)
  have c2 : f_X6_crossed (nI s) (nI x) (nI y) (0 : Int32) σ = some (nI (b1 (K1 (y * w + x) = 0)), σ) := s_crossed hs hS.1 hS.2.1 l1 (k := 0) (by decide) (by omega) (by omega)
  have d1 : f_X6_crossed (nI o) (nI x) (nI y) (2 : Int32) σ = some (nI (b1 (K2 (y * w + x) = 2)), σ) := s_crossed ho hS.1 hS.2.2 l2 (k := 2) (by decide) (by omega) (by omega)
  have d2 : f_X6_crossed (nI s) (nI x) (nI y) (2 : Int32) σ = some (nI (b1 (K1 (y * w + x) = 2)), σ) := s_crossed hs hS.1 hS.2.1 l1 (k := 2) (by decide) (by omega) (by omega)
  have ht := s_isThere hS.1 (show x < 100 by omega) (show y < 100 by omega) true
  rw [show bI true = 1 from rfl] at ht
  have e : thB w h (if true = true then U else D) x y = U (y * w + x) := by
    unfold thB
    rw [decide_eq_true ⟨hx, hy⟩]
    rfl
  rw [e] at ht
  have ea : (9 : Int32) * nI y + nI x = nI (9 * y + x) := by rw [show (9 : Int32) = nI 9 from rfl, nI_mul, nI_add]
  unfold f_X6_stepCell E1
  rw [bd_at c1, bd_at c2, bd_at ht, ea]
  cases hU : U (y * w + x) with
  | false =>
    rw [if_pos bI_f, if_neg (by decide), nI_d]
    exact s_150 hs ho l1 l2 hC hx hy hS hI false
  | true =>
    rw [if_neg bIt, if_pos rfl, bd_at d1, bd_at d2, nI_d, nI_d, show nI (9 * y + x) + (1 : Int32) = nI (9 * y + x + 1) from nI_add _ 1, show nI (9 * y + x) + (9 : Int32) = nI (9 * y + x + 9) from nI_add _ 9]
    have hc := (hC x y hx hy).1 hU
    refine step_bind hI (by omega) (by omega) hc.1 (Dq_e hS.1.1 hw8 l1 l2 hx hy).1 (fun σ1 kn1 hi1 m1 hI1 hx1 => ?_)
    rw [Bool.or_false]
    refine step_bind hI1 (by omega) (by omega) hc.2 (Dq_e hS.1.1 hw8 l1 l2 hx hy).2.1 (fun σ2 kn2 hi2 m2 hI2 hx2 => ?_)
    exact (congrArg (fun z => RES kn0 hi0 cst (Dq w K1 K2) ((9 * y + x + 9, 9 * y + x) :: E2 D w x y) σ2 kn2 z (m2 || m1)) (ite_flag (fun v => f_X6_stepCell_103 (nI s) (nI o) (nI x) (nI y) (nI (9 * y + x)) (iZ (bd2 K1 K2 (y * w + x) 0)) v σ2) m2 m1)).mpr (s_103 hs ho l1 l2 hC hx hy hU ((hS.keep hx1).keep hx2) hI2 (m2 || m1))
/-- a pass over the CELLS from c on -/
theorem s_spread11 (hs : s < 4) (ho : o < 4) (l1 : LL w U D (w * h) K1) (l2 : LL w U D (w * h) K2) (hC : Cl w h U D kn0) (k2 : Int32 → Int32 → Int32 → St → Option (Unit × St)) : ∀ (n c : Nat) (b : Bool) (σ : St) (kn : Nat → Bool) (hi : Nat → Int), c ≤ w * h → w * h - c < n → SX w h s o U D K1 K2 σ → INV σ kn hi kn0 hi0 cst (Dq w K1 K2) →
    ∃ σ' kn' hi' m, f_X6_spread_11 k2 n (nI s) (nI o) (bI b) (nI c) σ = k2 (nI s) (nI o) (bI m) σ' ∧ INV σ' kn' hi' kn0 hi0 cst (Dq w K1 K2) ∧ eqx P45 σ σ' ∧ unk kn' ≤ unk kn ∧ (m = true → b = true ∨ unk kn' < unk kn) ∧ (m = false → b = false ∧ kn' = kn ∧ ∀ c', c ≤ c' → c' < w * h → ∀ e, e ∈ E1 U D w (c' % w) (c' / w) → kn e.1 = kn e.2) := by
  intro n
  induction n with
  | zero => intro c b σ kn hi h1 h2; omega
  | succ n ih =>
    intro c b σ kn hi h1 h2 hS hI
    obtain ⟨hw1, hw8, hh1, hh8, e0, -⟩ := id hS.1
    have har := area_le hw8 hh8
    rw [f_X6_spread_11, bd_at (s_cells hS.1)]
    by_cases hc : w * h ≤ c
    · rw [if_pos (nI_le hc (by omega))]
      exact ⟨σ, kn, hi, b, rfl, hI, eqx.rf, Nat.le_refl _, fun q => Or.inl q, fun q => ⟨q, rfl, fun c' h3 h4 => by omega⟩⟩
    · have hc' : c < w * h := by omega
      have hx := Nat.mod_lt c (show 0 < w by omega)
      have hy : c / w < h := Nat.div_lt_of_lt_mul hc'
      rw [if_neg (nI_ge hc' (by omega)), e0, rmI_at _ (by omega) (by omega) (by omega), dvI_at _ (by omega) (by omega) (by omega)]
      obtain ⟨σ1, kn1, hi1, m1, d1, d2, d3, d4, d5, d6⟩ := s_stepCell hs ho l1 l2 hC hx hy hS hI
      rw [bd_at d1]
      unfold f_X6_spread_45
      have hif : (if bI m1 = 0 then f_X6_spread_11 k2 n (nI s) (nI o) (bI b) (nI c + 1) σ1 else f_X6_spread_11 k2 n (nI s) (nI o) (1 : Int32) (nI c + 1) σ1) = f_X6_spread_11 k2 n (nI s) (nI o) (bI (m1 || b)) (nI (c + 1)) σ1 := by
        rw [nI_1]
        cases m1 <;> rfl
      rw [hif]
      obtain ⟨σ2, kn2, hi2, m2, f1, f2, f3, f4, f5, f6⟩ := ih (c + 1) (m1 || b) σ1 kn1 hi1 (by omega) (by omega) (hS.keep d3) d2
      refine ⟨σ2, kn2, hi2, m2, f1, f2, eqx.tr d3 f3, by omega, fun q => ?_, fun q => ?_⟩
      · rcases f5 q with z | z
        · cases hm1 : m1 with
          | false => rw [hm1, Bool.false_or] at z; exact Or.inl z
          | true =>
            rcases d5 hm1 with r | r
            · cases r
            · exact Or.inr (by omega)
        · exact Or.inr (by omega)
      · obtain ⟨z1, z2, z3⟩ := f6 q
        have hm1 : m1 = false := by
          cases r : m1 with
          | false => rfl
          | true => rw [r] at z1; cases z1
        rw [hm1, Bool.false_or] at z1
        obtain ⟨y1, y2, y3⟩ := d6 hm1
        rw [y2] at z2 z3
        refine ⟨z1, z2, fun c' h3 h4 e he => ?_⟩
        by_cases r : c' = c
        · rw [r] at he; exact y3 e he
        · exact z3 c' (by omega) h4 e he
/-- until no step is left -/
theorem s_spread2 (hs : s < 4) (ho : o < 4) (l1 : LL w U D (w * h) K1) (l2 : LL w U D (w * h) K2) (hC : Cl w h U D kn0) : ∀ (n : Nat) (σ : St) (kn : Nat → Bool) (hi : Nat → Int), unk kn + 1 < n → SX w h s o U D K1 K2 σ → INV σ kn hi kn0 hi0 cst (Dq w K1 K2) →
    ∃ σ' kn' hi', f_X6_spread_2 n (nI s) (nI o) (bI true) σ = some ((), σ') ∧ INV σ' kn' hi' kn0 hi0 cst (Dq w K1 K2) ∧ eqx P45 σ σ' ∧ Cl w h U D kn' := by
  intro n
  induction n with
  | zero => intro σ kn hi h1; omega
  | succ n ih =>
    intro σ kn hi h1 hS hI
    obtain ⟨hw1, hw8, hh1, hh8, e0, -⟩ := id hS.1
    have har := area_le hw8 hh8
    rw [f_X6_spread_2, if_neg bIt]
    obtain ⟨σ1, kn1, hi1, m1, d1, d2, d3, d4, d5, d6⟩ := s_spread11 hs ho l1 l2 hC (f_X6_spread_2 n) FU 0 false σ kn hi (Nat.zero_le _) (by unfold FU; omega) hS hI
    rw [bI_f, show nI 0 = 0 from rfl] at d1
    rw [d1]
    cases hm : m1 with
    | true =>
      have hlt : unk kn1 < unk kn := by
        rcases d5 hm with z | z
        · cases z
        · exact z
      obtain ⟨σ2, kn2, hi2, f1, f2, f3, f4⟩ := ih σ1 kn1 hi1 (by omega) (hS.keep d3) d2
      exact ⟨σ2, kn2, hi2, f1, f2, eqx.tr d3 f3, f4⟩
    | false =>
      obtain ⟨z1, z2, z3⟩ := d6 hm
      obtain ⟨n, rfl⟩ : ∃ n', n = n' + 1 := ⟨n - 1, by omega⟩
      rw [f_X6_spread_2, if_pos bI_f]
      refine ⟨σ1, kn1, hi1, rfl, d2, d3, fun x y hx hy => ?_⟩
      rw [z2]
      have hlt := cell_lt hx hy
      have hE := z3 (y * w + x) (Nat.zero_le _) hlt
      rw [row_mod hx, show (y * w + x) / w = y by rw [Nat.mul_comm, Nat.mul_add_div (by omega), Nat.div_eq_of_lt hx, Nat.add_zero]] at hE
      constructor
      · intro hU
        have e1 := hE (9 * y + x, 9 * y + x + 1) (by unfold E1; rw [if_pos hU]; simp)
        have e2 := hE (9 * y + x + 1, 9 * y + x + 9) (by unfold E1; rw [if_pos hU]; simp)
        exact ⟨e1, e2⟩
      · intro hD
        have sub : ∀ e, e ∈ E2 D w x y → e ∈ E1 U D w x y := fun e he => by
          unfold E1
          by_cases hU : U (y * w + x) = true
          · rw [if_pos hU]
            exact List.mem_cons_of_mem _ (List.mem_cons_of_mem _ (List.mem_cons_of_mem _ he))
          · rw [if_neg hU]; exact he
        have e1 := hE (9 * y + x + 1, 9 * y + x + 9) (sub _ (by unfold E2; rw [if_pos hD]; simp))
        have e2 := hE (9 * y + x + 9, 9 * y + x + 10) (sub _ (by unfold E2; rw [if_pos hD]; simp))
        exact ⟨e1, e2⟩
end ST
