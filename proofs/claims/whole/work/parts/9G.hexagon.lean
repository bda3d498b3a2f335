/-! ===== HALF 2: hexagon ===== -/
theorem hx5_no {a b c : Int32} (σ : St) (h : ¬ ((nI 1 ≤ a ∧ a ≤ nI 7) ∧ (nI 1 ≤ b ∧ b ≤ nI 7) ∧ (nI 1 ≤ c ∧ c ≤ nI 7) ∧ ¬ (8 : Int32) < a + c ∧ ¬ (8 : Int32) < b + c)) : f_X5_hexagonFits a b c σ = some (0, σ) := by
  have e : f_X5_hexagonFits_37 a b c σ = some (0, σ) := by
    unfold f_X5_hexagonFits_37 f_X5_hexagonFits_38 f_X5_hexagonFits_63 f_X5_hexagonFits_64
    rw [if_pos rfl, gz_0]
  have l7 : ∀ x : Int32, ¬ (8 : Int32) ≤ x → x ≤ nI 7 := fun x hx => by
    have h1 := nle_lt hx
    rw [Int32.lt_iff_toInt_lt] at h1
    rw [Int32.le_iff_toInt_le]
    have e1 : (8 : Int32).toInt = 8 := rfl
    have e2 : (nI 7).toInt = 7 := rfl
    omega
  unfold f_X5_hexagonFits
  rw [e]
  by_cases q1 : a < (1 : Int32)
  · rw [if_pos q1]
  · rw [if_neg q1]
    by_cases q2 : (8 : Int32) ≤ a
    · rw [if_pos q2]
    · rw [if_neg q2]
      by_cases q3 : b < (1 : Int32)
      · rw [if_pos q3]
      · rw [if_neg q3]
        by_cases q4 : (8 : Int32) ≤ b
        · rw [if_pos q4]
        · rw [if_neg q4]
          by_cases q5 : c < (1 : Int32)
          · rw [if_pos q5]
          · rw [if_neg q5]
            by_cases q6 : (8 : Int32) ≤ c
            · rw [if_pos q6]
            · rw [if_neg q6]
              unfold f_X5_hexagonFits_38 f_X5_hexagonFits_63 f_X5_hexagonFits_64
              rw [if_neg (by decide)]
              by_cases q7 : (8 : Int32) < a + c
              · rw [if_pos q7, gz_0]
              · rw [if_neg q7]
                by_cases q8 : (8 : Int32) < b + c
                · rw [if_pos q8, gz_0]
                · exact absurd ⟨⟨nlt_le q1, l7 a q2⟩, ⟨nlt_le q3, l7 b q4⟩, ⟨nlt_le q5, l7 c q6⟩, q7, q8⟩ h
theorem hx6_no {a b c : Int32} (σ : St) (h : ¬ ((nI 1 ≤ a ∧ a ≤ nI 7) ∧ (nI 1 ≤ b ∧ b ≤ nI 7) ∧ (nI 1 ≤ c ∧ c ≤ nI 7) ∧ ¬ (8 : Int32) < a + c ∧ ¬ (8 : Int32) < b + c)) : f_X6_isHexagon a b c σ = some (0, σ) := by
  have i1 : ∀ x : Int32, f_X6_in x.toInt64 (1 : Int64) (7 : Int64) σ = some (bI (decide (nI 1 ≤ x ∧ x ≤ nI 7)), σ) := fun x => s_in x (nI 1) (nI 7) σ
  unfold f_X6_isHexagon f_X6_isHexagon_56 f_X6_isHexagon_57
  rw [bd_at (i1 a)]
  by_cases q1 : nI 1 ≤ a ∧ a ≤ nI 7
  · rw [decide_eq_true q1, if_neg bIt, bd_at (i1 b)]
    by_cases q2 : nI 1 ≤ b ∧ b ≤ nI 7
    · rw [decide_eq_true q2, if_neg bIt, bd_at (i1 c)]
      by_cases q3 : nI 1 ≤ c ∧ c ≤ nI 7
      · rw [decide_eq_true q3, if_neg bIt]
        by_cases q4 : (8 : Int32) < a + c
        · rw [if_pos q4, gz_0]
        · rw [if_neg q4]
          by_cases q5 : (8 : Int32) < b + c
          · rw [if_pos q5, gz_0]
          · exact absurd ⟨q1, q2, q3, q4, q5⟩ h
      · rw [decide_eq_false q3, if_pos bI_f, gz_0]
    · rw [decide_eq_false q2, if_pos bI_f, gz_0]
  · rw [decide_eq_false q1, if_pos bI_f, gz_0]
section HX
variable {a b c : Nat}
theorem hx5_yes (ha : 1 ≤ a) (hb : 1 ≤ b) (hc : 1 ≤ c) (hac : a + c ≤ 8) (hbc : b + c ≤ 8) (σ : St) : f_X5_hexagonFits (nI a) (nI b) (nI c) σ = some (1, σ) := by
  have n1 : ∀ k, 1 ≤ k → k ≤ 7 → ¬ nI k < (1 : Int32) := fun k h1 h2 => nI_nlt (b := 1) h1 (by omega)
  have n8 : ∀ k, 1 ≤ k → k ≤ 7 → ¬ (8 : Int32) ≤ nI k := fun k h1 h2 => nI_ge (b := 8) (by omega) (by decide)
  have n9 : ∀ k, k ≤ 8 → ¬ (8 : Int32) < nI k := fun k h2 => nI_nlt (a := 8) h2 (by decide)
  unfold f_X5_hexagonFits f_X5_hexagonFits_38 f_X5_hexagonFits_64
  rw [nI_add, nI_add, if_neg (n1 a ha (by omega)), if_neg (n8 a ha (by omega)), if_neg (n1 b hb (by omega)), if_neg (n8 b hb (by omega)), if_neg (n1 c hc (by omega)), if_neg (n8 c hc (by omega)), if_neg (by decide), if_neg (n9 _ hac), if_neg (n9 _ hbc), gz_1]
theorem hx6_yes (ha : 1 ≤ a) (hb : 1 ≤ b) (hc : 1 ≤ c) (hac : a + c ≤ 8) (hbc : b + c ≤ 8) (σ : St) : f_X6_isHexagon (nI a) (nI b) (nI c) σ = some (1, σ) := by
  have i1 : ∀ x : Int32, f_X6_in x.toInt64 (1 : Int64) (7 : Int64) σ = some (bI (decide (nI 1 ≤ x ∧ x ≤ nI 7)), σ) := fun x => s_in x (nI 1) (nI 7) σ
  have n9 : ∀ k, k ≤ 8 → ¬ (8 : Int32) < nI k := fun k h2 => nI_nlt (a := 8) h2 (by decide)
  unfold f_X6_isHexagon f_X6_isHexagon_57
  rw [nI_add, nI_add, bd_at (i1 _), decide_eq_true (rng_in ha (by omega) (by decide)), if_neg bIt, bd_at (i1 _), decide_eq_true (rng_in hb (by omega) (by decide)), if_neg bIt, bd_at (i1 _), decide_eq_true (rng_in hc (by omega) (by decide)), if_neg bIt, if_neg (n9 _ hac), if_neg (n9 _ hbc), gz_1]
end HX
/-- the sums of an UP's and of a DOWN's place -/
abbrev uS (a b c s : Nat) : Prop := c ≤ s ∧ s + 1 ≤ a + b + c
abbrev dS (a b c s : Nat) : Prop := c ≤ s + 1 ∧ s + 2 ≤ a + b + c
def hxU (a b c w N i : Nat) : Bool := decide (i < N ∧ uS a b c (i % w + i / w))
def hxD (a b c w N i : Nat) : Bool := decide (i < N ∧ dS a b c (i % w + i / w))
section HL
variable {a b c w h : Nat}
theorem s_hx86 (hw8 : w ≤ 8) (hh8 : h ≤ 8) (hB : a + b + c ≤ 24) {x y : Nat} (hx : x < w) (hy : y < h) (k35 : Int32 → Int32 → Int32 → Int32 → Int32 → St → Option (Unit × St)) {σ : St} (ew : gi σ 1 0 = nI w) (eh : gi σ 1 1 = nI h) : ∃ B, f_X1_shapeHexagon_86 k35 (nI a) (nI b) (nI c) (nI y) (nI x) (nI (x + y)) σ = k35 (nI a) (nI b) (nI c) (nI y) (nI (x + 1)) (sl σ 1 4 B) ∧ ∀ i, i < 64 → tb B i = (tb (gl σ 1 4) i || decide (i = y * w + x ∧ dS a b c (x + y))) := by
  have hlt := cell_lt hx hy
  have har := area_le hw8 hh8
  unfold f_X1_shapeHexagon_86 f_X1_shapeHexagon_123
  rw [show nI (x + y) + (1 : Int32) = nI (x + y + 1) from nI_1 _, show nI (x + y) + (2 : Int32) = nI (x + y + 2) from nI_add _ 2, nI_add, nI_add, show nI x + (1 : Int32) = nI (x + 1) from nI_1 _]
  by_cases q1 : x + y + 1 < c
  · rw [if_pos (nI_lt q1 (by omega))]
    refine ⟨gl σ 1 4, by rw [sl_same], fun i hi => ?_⟩
    rw [decide_eq_false (fun z => by have := z.2.1; omega), Bool.or_false]
  · rw [if_neg (nI_nlt (by omega) (by omega))]
    by_cases q2 : a + b + c < x + y + 2
    · rw [if_pos (nI_lt q2 (by omega))]
      refine ⟨gl σ 1 4, by rw [sl_same], fun i hi => ?_⟩
      rw [decide_eq_false (fun z => by have := z.2.2; omega), Bool.or_false]
    · rw [if_neg (nI_nlt (by omega) (by omega)), bd_at (s_pointBit ew eh hx hy hw8 hh8), fL_at]
      refine ⟨_, rfl, fun i hi => ?_⟩
      rw [tb_or, tb_bit (by omega)]
      congr 1
      refine decide_eq_decide.mpr ⟨fun z => ⟨z, ?_⟩, fun z => z.1⟩
      unfold dS
      omega
theorem s_hx35 (hw8 : w ≤ 8) (hh8 : h ≤ 8) (hB : a + b + c ≤ 24) {y : Nat} (hy : y < h) (k23 : Int32 → Int32 → Int32 → Int32 → St → Option (Unit × St)) : ∀ (n x : Nat) (σ : St), x ≤ w → w - x < n → gi σ 1 0 = nI w → gi σ 1 1 = nI h →
    ∃ A B, f_X1_shapeHexagon_35 k23 n (nI a) (nI b) (nI c) (nI y) (nI x) σ = k23 (nI a) (nI b) (nI c) (nI (y + 1)) (sl (sl σ 1 3 A) 1 4 B) ∧ (∀ i, i < 64 → tb A i = (tb (gl σ 1 3) i || decide ((y * w + x ≤ i ∧ i < y * w + w) ∧ uS a b c (i - y * w + y)))) ∧ ∀ i, i < 64 → tb B i = (tb (gl σ 1 4) i || decide ((y * w + x ≤ i ∧ i < y * w + w) ∧ dS a b c (i - y * w + y))) := by
  have har := area_le hw8 hh8
  intro n
  induction n with
  | zero => intro x σ h1 h2; omega
  | succ n ih =>
    intro x σ h1 h2 ew eh
    rw [f_X1_shapeHexagon_35, ew]
    by_cases hx : w ≤ x
    · rw [if_pos (nI_le hx (by omega)), nI_1]
      refine ⟨gl σ 1 3, gl σ 1 4, ?_, fun i hi => ?_, fun i hi => ?_⟩
      · rw [sl_same, sl_same]
      · rw [decide_eq_false (by omega), Bool.or_false]
      · rw [decide_eq_false (by omega), Bool.or_false]
    · have hx' : x < w := by omega
      have hlt := cell_lt hx' hy
      rw [if_neg (nI_ge hx' (by omega)), show nI x + nI y = nI (x + y) from nI_add _ _, show nI (x + y) + (1 : Int32) = nI (x + y + 1) from nI_1 _, show nI a + nI b + nI c = nI (a + b + c) from by rw [nI_add, nI_add]]
      -- what remains, once the UP is laid
      have go : ∀ A0, (∀ i, i < 64 → tb A0 i = (tb (gl σ 1 3) i || decide (i = y * w + x ∧ uS a b c (x + y)))) → ∃ A B, f_X1_shapeHexagon_86 (f_X1_shapeHexagon_35 k23 n) (nI a) (nI b) (nI c) (nI y) (nI x) (nI (x + y)) (sl σ 1 3 A0) = k23 (nI a) (nI b) (nI c) (nI (y + 1)) (sl (sl σ 1 3 A) 1 4 B) ∧ (∀ i, i < 64 → tb A i = (tb (gl σ 1 3) i || decide ((y * w + x ≤ i ∧ i < y * w + w) ∧ uS a b c (i - y * w + y)))) ∧ ∀ i, i < 64 → tb B i = (tb (gl σ 1 4) i || decide ((y * w + x ≤ i ∧ i < y * w + w) ∧ dS a b c (i - y * w + y))) := by
        intro A0 hA0
        obtain ⟨B0, b1, b2⟩ := s_hx86 hw8 hh8 hB hx' hy (f_X1_shapeHexagon_35 k23 n) (σ := sl σ 1 3 A0) ew eh
        obtain ⟨A, B, c1', c2, c3⟩ := ih (x + 1) (sl (sl σ 1 3 A0) 1 4 B0) (by omega) (by omega) ew eh
        refine ⟨A, B, ?_, fun i hi => ?_, fun i hi => ?_⟩
        · rw [b1, c1']
          congr 1
          refine st_ext (fun _ _ => rfl) (fun q j => ?_)
          simp only [gl_sl]
          by_cases z1 : q = 1 ∧ j = 4
          · rw [if_pos z1, if_pos z1]
          · rw [if_neg z1, if_neg z1]
            by_cases z2 : q = 1 ∧ j = 3
            · rw [if_pos z2, if_pos z2, if_neg z1]
            · rw [if_neg z2, if_neg z2, if_neg z1, if_neg z2]
        · have e : gl (sl (sl σ 1 3 A0) 1 4 B0) 1 3 = A0 := rfl
          rw [c2 i hi, e, hA0 i hi, Bool.or_assoc, ← Bool.decide_or]
          congr 1
          refine decide_eq_decide.mpr ⟨fun z => ?_, fun z => ?_⟩
          · rcases z with ⟨z1, z2⟩ | ⟨z1, z2⟩
            · refine ⟨by omega, ?_⟩
              rw [z1, show y * w + x - y * w + y = x + y by omega]
              exact z2
            · exact ⟨by omega, z2⟩
          · by_cases q : i = y * w + x
            · refine Or.inl ⟨q, ?_⟩
              have := z.2
              rw [q, show y * w + x - y * w + y = x + y by omega] at this
              exact this
            · exact Or.inr ⟨by omega, z.2⟩
        · have e : gl (sl (sl σ 1 3 A0) 1 4 B0) 1 4 = B0 := rfl
          have e' : gl (sl σ 1 3 A0) 1 4 = gl σ 1 4 := rfl
          rw [c3 i hi, e, b2 i hi, e', Bool.or_assoc, ← Bool.decide_or]
          congr 1
          refine decide_eq_decide.mpr ⟨fun z => ?_, fun z => ?_⟩
          · rcases z with ⟨z1, z2⟩ | ⟨z1, z2⟩
            · refine ⟨by omega, ?_⟩
              rw [z1, show y * w + x - y * w + y = x + y by omega]
              exact z2
            · exact ⟨by omega, z2⟩
          · by_cases q : i = y * w + x
            · refine Or.inl ⟨q, ?_⟩
              have := z.2
              rw [q, show y * w + x - y * w + y = x + y by omega] at this
              exact this
            · exact Or.inr ⟨by omega, z.2⟩
      by_cases q1 : x + y < c
      · rw [if_pos (nI_lt q1 (by omega))]
        have := go (gl σ 1 3) (fun i hi => by rw [decide_eq_false (fun z => by have := z.2.1; omega), Bool.or_false])
        rw [sl_same] at this
        exact this
      · rw [if_neg (nI_nlt (by omega) (by omega))]
        by_cases q2 : a + b + c < x + y + 1
        · rw [if_pos (nI_lt q2 (by omega))]
          have := go (gl σ 1 3) (fun i hi => by rw [decide_eq_false (fun z => by have := z.2.2; omega), Bool.or_false])
          rw [sl_same] at this
          exact this
        · rw [if_neg (nI_nlt (by omega) (by omega)), bd_at (s_pointBit ew eh hx' hy hw8 hh8), fL_at]
          refine go _ (fun i hi => ?_)
          rw [tb_or, tb_bit (by omega)]
          congr 1
          refine decide_eq_decide.mpr ⟨fun z => ⟨z, ?_⟩, fun z => z.1⟩
          unfold uS
          omega
theorem div_row {w y i : Nat} (h1 : y * w ≤ i) (h2 : i < y * w + w) : i / w = y := by
  have hw : 0 < w := by omega
  have h3 : i = w * y + (i - y * w) := by rw [Nat.mul_comm]; omega
  rw [h3, Nat.mul_add_div hw, Nat.div_eq_of_lt (by rw [Nat.mul_comm]; omega), Nat.add_zero]
theorem s_hx23 (hw8 : w ≤ 8) (hh8 : h ≤ 8) (hB : a + b + c ≤ 24) (hw0 : 1 ≤ w) : ∀ (n y : Nat) (σ : St), y ≤ h → h - y < n → gi σ 1 0 = nI w → gi σ 1 1 = nI h → (∀ i, i < 64 → tb (gl σ 1 3) i = hxU a b c w (w * y) i) → (∀ i, i < 64 → tb (gl σ 1 4) i = hxD a b c w (w * y) i) →
    ∃ A B, f_X1_shapeHexagon_23 n (nI a) (nI b) (nI c) (nI y) σ = some ((), sl (sl (sl σ 1 3 A) 1 4 B) 1 6 (innerL A B (gl σ 1 5) (gi σ 1 0))) ∧ (∀ i, i < 64 → tb A i = hxU a b c w (w * h) i) ∧ ∀ i, i < 64 → tb B i = hxD a b c w (w * h) i := by
  have har := area_le hw8 hh8
  intro n
  induction n with
  | zero => intro y σ h1 h2; omega
  | succ n ih =>
    intro y σ h1 h2 ew eh hA hD
    rw [f_X1_shapeHexagon_23, eh]
    by_cases hy : h ≤ y
    · have e : y = h := by omega
      subst e
      rw [if_pos (nI_le hy (by omega)), bd_at (s_findInner _)]
      refine ⟨gl σ 1 3, gl σ 1 4, ?_, hA, hD⟩
      rw [sl_same, sl_same]
    · have hy' : y < h := by omega
      rw [if_neg (nI_ge hy' (by omega))]
      obtain ⟨A, B, e1, e2, e3⟩ := s_hx35 hw8 hh8 hB hy' (f_X1_shapeHexagon_23 n) FU 0 σ (Nat.zero_le _) (by unfold FU; omega) ew eh
      rw [show (0 : Int32) = nI 0 from rfl, e1]
      have hmul : w * (y + 1) = y * w + w := by rw [Nat.mul_add, Nat.mul_comm, Nat.mul_one]
      have hmul' : w * y = y * w := Nat.mul_comm _ _
      have row : ∀ (P : Nat → Prop) [DecidablePred P] (i : Nat), (decide (i < w * y ∧ P (i % w + i / w)) || decide ((y * w + 0 ≤ i ∧ i < y * w + w) ∧ P (i - y * w + y))) = decide (i < w * (y + 1) ∧ P (i % w + i / w)) := by
        intro P _ i
        rw [← Bool.decide_or]
        refine decide_eq_decide.mpr ⟨fun z => ?_, fun z => ?_⟩
        · rcases z with ⟨z1, z2⟩ | ⟨z1, z2⟩
          · exact ⟨by omega, z2⟩
          · refine ⟨by omega, ?_⟩
            rw [mod_row (y := y) (by omega) z1.2, div_row (y := y) (by omega) z1.2]
            exact z2
        · by_cases q : i < w * y
          · exact Or.inl ⟨q, z.2⟩
          · refine Or.inr ⟨⟨by omega, by omega⟩, ?_⟩
            have := z.2
            rw [mod_row (y := y) (by omega) (by omega), div_row (y := y) (by omega) (by omega)] at this
            exact this
      obtain ⟨A2, B2, g1, g2, g3⟩ := ih (y + 1) (sl (sl σ 1 3 A) 1 4 B) hy' (by omega) ew eh (fun i hi => by
        have e : gl (sl (sl σ 1 3 A) 1 4 B) 1 3 = A := rfl
        rw [e, e2 i hi, hA i hi]
        exact row (uS a b c) i) (fun i hi => by
        have e : gl (sl (sl σ 1 3 A) 1 4 B) 1 4 = B := rfl
        rw [e, e3 i hi, hD i hi]
        exact row (dS a b c) i)
      refine ⟨A2, B2, ?_, g2, g3⟩
      rw [g1]
      congr 1
      congr 1
      refine st_ext (fun _ _ => rfl) (fun q j => ?_)
      have e5 : gl (sl (sl σ 1 3 A) 1 4 B) 1 5 = gl σ 1 5 := rfl
      have e0 : gi (sl (sl σ 1 3 A) 1 4 B) 1 0 = gi σ 1 0 := rfl
      rw [e5, e0]
      simp only [gl_sl]
      by_cases z0 : q = 1 ∧ j = 6
      · rw [if_pos z0, if_pos z0]
      · rw [if_neg z0, if_neg z0]
        by_cases z1 : q = 1 ∧ j = 4
        · rw [if_pos z1, if_pos z1]
        · rw [if_neg z1, if_neg z1]
          by_cases z2 : q = 1 ∧ j = 3
          · rw [if_pos z2, if_pos z2, if_neg z1]
          · rw [if_neg z2, if_neg z2, if_neg z1, if_neg z2]
end HL
theorem hx_ZB (a b c w N : Nat) : ZB (hxU a b c w N) (hxD a b c w N) N := fun i hi => ⟨decide_eq_false (fun z => by omega), decide_eq_false (fun z => by omega)⟩
theorem s_shapeHexagon {a b c : Nat} (ha : 1 ≤ a) (hb : 1 ≤ b) (hc : 1 ≤ c) (hac : a + c ≤ 8) (hbc : b + c ≤ 8) (σ : St) : ∃ σ', f_X1_shapeHexagon (nI a) (nI b) (nI c) σ = some ((), σ') ∧ CG σ' (a + c) (b + c) (hxU a b c (a + c) ((a + c) * (b + c))) (hxD a b c (a + c) ((a + c) * (b + c))) ∧ CI6 σ' (a + c) (b + c) (hxU a b c (a + c) ((a + c) * (b + c))) (hxD a b c (a + c) ((a + c) * (b + c))) := by
  obtain ⟨σ1, e1, e2, -, -⟩ := s_shapeAll (w := a + c) (h := b + c) (by omega) hac (by omega) hbc σ
  obtain ⟨b1, b2, b3, b4, b5, b6, b7, -, -, b10⟩ := e2
  unfold f_X1_shapeHexagon
  rw [nI_add, nI_add, bd_at e1, fL_at, fL_at]
  obtain ⟨A, B, d1, d2, d3⟩ := s_hx23 (a := a) (b := b) (c := c) hac hbc (by omega) b1 FU 0 (sl (sl σ1 1 3 0) 1 4 0) (Nat.zero_le _) (by unfold FU; omega) b5 b6 (fun i hi => by
    have e : gl (sl (sl σ1 1 3 0) 1 4 0) 1 3 = 0 := rfl
    rw [e, tb_0]
    exact (decide_eq_false (fun z => by omega)).symm) (fun i hi => by
    have e : gl (sl (sl σ1 1 3 0) 1 4 0) 1 4 = 0 := rfl
    rw [e, tb_0]
    exact (decide_eq_false (fun z => by omega)).symm)
  rw [show (0 : Int32) = nI 0 from rfl, d1]
  have hcg : CG (sl (sl (sl (sl σ1 1 3 0) 1 4 0) 1 3 A) 1 4 B) (a + c) (b + c) (hxU a b c (a + c) ((a + c) * (b + c))) (hxD a b c (a + c) ((a + c) * (b + c))) := ⟨b1, b2, b3, b4, b5, b6, b7, d2, d3, b10⟩
  refine ⟨_, rfl, hcg, fun i hi => ?_⟩
  rw [gl_sl_same]
  exact tb_inner hcg hi
/-! the reference's -/
theorem s_cells0 (σ : St) : f_X6_cells σ = some (gi σ 26 0 * gi σ 26 1, σ) := rfl
section HR
variable {a b c w h : Nat}
theorem s_hx28 (hw1 : 1 ≤ w) (hw8 : w ≤ 8) (hh8 : h ≤ 8) (hB : a + b + c ≤ 24) {U D : Nat → Bool} (hU : U = hxU a b c w (w * h)) (hD : D = hxD a b c w (w * h)) : ∀ (n k : Nat) (σ : St), k ≤ w * h → w * h - k < n → gi σ 26 0 = nI w → gi σ 26 1 = nI h → (∀ i, i < k → gi σ 27 (2 * i) = bI (U i) ∧ gi σ 27 (2 * i + 1) = bI (D i)) →
    ∃ σ', f_X6_hexagon_28 n (nI a) (nI b) (nI c) (nI (cnt U k + cnt D k)) (nI k) σ = some (nI (cnt U (w * h) + cnt D (w * h)), σ') ∧ eqx (fun p => p = 27) σ σ' ∧ ∀ i, i < w * h → gi σ' 27 (2 * i) = bI (U i) ∧ gi σ' 27 (2 * i + 1) = bI (D i) := by
  have har := area_le hw8 hh8
  intro n
  induction n with
  | zero => intro k σ h1 h2; omega
  | succ n ih =>
    intro k σ h1 h2 ew eh hI
    rw [f_X6_hexagon_28, bd_at (s_cells0 σ), ew, eh, nI_mul]
    by_cases hk : w * h ≤ k
    · have e : k = w * h := by omega
      rw [if_pos (nI_le hk (by omega)), e]
      rw [e] at hI
      exact ⟨σ, rfl, eqx.rf, hI⟩
    · rw [if_neg (nI_ge (by omega) (by omega)), rmI_at _ (by omega) (by omega) (by omega), dvI_at _ (by omega) (by omega) (by omega), nI_add, show nI (k % w + k / w) + (1 : Int32) = nI (k % w + k / w + 1) from nI_1 _, show nI a + nI b + nI c = nI (a + b + c) from by rw [nI_add, nI_add], show (2 : Int32) * nI k = nI (2 * k) from nI_mul 2 k]
      have hm : k % w < w := Nat.mod_lt _ (by omega)
      have hd : k / w < h := by
        rw [Nat.div_lt_iff_lt_mul (by omega), Nat.mul_comm]
        omega
      have hUk : U k = decide (uS a b c (k % w + k / w)) := by
        rw [hU]
        exact decide_eq_decide.mpr ⟨fun z => z.2, fun z => ⟨by omega, z⟩⟩
      have hDk : D k = decide (dS a b c (k % w + k / w)) := by
        rw [hD]
        exact decide_eq_decide.mpr ⟨fun z => z.2, fun z => ⟨by omega, z⟩⟩
      have l27 : ∀ t, t < 2 * (w * h) → t < len 27 := fun t ht => by show t < 128; omega
      -- after both are written
      have fin : f_X6_hexagon_28 n (nI a) (nI b) (nI c) (nI (cnt U k + cnt D k) + (bI (U k) + bI (D k))) (nI k + 1) (si (si σ 27 (2 * k) (bI (U k))) 27 (2 * k + 1) (bI (D k))) = f_X6_hexagon_28 n (nI a) (nI b) (nI c) (nI (cnt U (k + 1) + cnt D (k + 1))) (nI (k + 1)) (si (si σ 27 (2 * k) (bI (U k))) 27 (2 * k + 1) (bI (D k))) := by
        have hs1 : cnt U (k + 1) = cnt U k + (if U k = true then 1 else 0) := rfl
        have hs2 : cnt D (k + 1) = cnt D k + (if D k = true then 1 else 0) := rfl
        have e1 : ∀ x : Bool, bI x = nI (if x = true then 1 else 0) := fun x => by cases x <;> rfl
        rw [hs1, hs2, nI_1, e1 (U k), e1 (D k), nI_add, nI_add, show cnt U k + cnt D k + ((if U k = true then 1 else 0) + if D k = true then 1 else 0) = cnt U k + (if U k = true then 1 else 0) + (cnt D k + if D k = true then 1 else 0) by omega]
      have g27 : ∀ i, i < k + 1 → gi (si (si σ 27 (2 * k) (bI (U k))) 27 (2 * k + 1) (bI (D k))) 27 (2 * i) = bI (U i) ∧ gi (si (si σ 27 (2 * k) (bI (U k))) 27 (2 * k + 1) (bI (D k))) 27 (2 * i + 1) = bI (D i) := by
        intro i hi
        by_cases q : i = k
        · rw [q, gi_si_ne _ _ _ _ (by omega), gi_si_same, gi_si_same]
          exact ⟨rfl, rfl⟩
        · rw [gi_si_ne _ _ _ _ (by omega), gi_si_ne _ _ _ _ (by omega), gi_si_ne _ _ _ _ (by omega), gi_si_ne _ _ _ _ (by omega)]
          exact hI i (by omega)
      have x27 : eqx (fun p => p = 27) σ (si (si σ 27 (2 * k) (bI (U k))) 27 (2 * k + 1) (bI (D k))) := eqx.si (eqx.si eqx.rf rfl) rfl
      obtain ⟨σ', r1, r2, r3⟩ := ih (k + 1) (si (si σ 27 (2 * k) (bI (U k))) 27 (2 * k + 1) (bI (D k))) (by omega) (by omega) (by rw [(x27 26 (by omega) 0).1]; exact ew) (by rw [(x27 26 (by omega) 1).1]; exact eh) g27
      -- 121: the DOWN written, both read
      have p121 : f_X6_hexagon_121 (f_X6_hexagon_28 n) (nI a) (nI b) (nI c) (nI (cnt U k + cnt D k)) (nI k) (nI (2 * k + 1)) (bI (D k)) (si σ 27 (2 * k) (bI (U k))) = some (nI (cnt U (w * h) + cnt D (w * h)), σ') := by
        unfold f_X6_hexagon_121 f_X6_hexagon_141 f_X6_hexagon_160
        rw [wrZ_at _ _ _ (l27 _ (by omega)) (by decide), zn_bI, show (2 : Int32) * nI k = nI (2 * k) from nI_mul 2 k, show nI (2 * k) + (1 : Int32) = nI (2 * k + 1) from nI_1 _, rdI_at _ _ (l27 _ (by omega)) (by decide), rdI_at _ _ (l27 _ (by omega)) (by decide), rdI_at _ _ (l27 _ (by omega)) (by decide), (g27 k (by omega)).1, (g27 k (by omega)).2]
        refine Eq.trans ?_ (fin.trans r1)
        cases U k <;> cases D k <;> rfl
      have p120 : f_X6_hexagon_120 (f_X6_hexagon_28 n) (nI a) (nI b) (nI c) (nI (cnt U k + cnt D k)) (nI k) (nI (2 * k + 1)) (si σ 27 (2 * k) (bI (U k))) = f_X6_hexagon_121 (f_X6_hexagon_28 n) (nI a) (nI b) (nI c) (nI (cnt U k + cnt D k)) (nI k) (nI (2 * k + 1)) (bI false) (si σ 27 (2 * k) (bI (U k))) := rfl
      have p85 : f_X6_hexagon_85 (f_X6_hexagon_28 n) (nI a) (nI b) (nI c) (nI (cnt U k + cnt D k)) (nI k) (nI (k % w + k / w)) (nI (2 * k)) (bI (U k)) σ = some (nI (cnt U (w * h) + cnt D (w * h)), σ') := by
        unfold f_X6_hexagon_85
        rw [wrZ_at _ _ _ (l27 _ (by omega)) (by decide), zn_bI, show (2 : Int32) * nI k = nI (2 * k) from nI_mul 2 k, show nI (2 * k) + (1 : Int32) = nI (2 * k + 1) from nI_1 _, show nI (k % w + k / w) + (1 : Int32) = nI (k % w + k / w + 1) from nI_1 _, show nI (k % w + k / w) + (2 : Int32) = nI (k % w + k / w + 2) from nI_add _ 2, show nI a + nI b + nI c = nI (a + b + c) from by rw [nI_add, nI_add], p120]
        by_cases q1 : k % w + k / w + 1 < c
        · rw [if_pos (nI_lt q1 (by omega)), ← p121, hDk, decide_eq_false (fun z => by have := z.1; omega)]
        · rw [if_neg (nI_nlt (by omega) (by omega))]
          by_cases q2 : a + b + c < k % w + k / w + 2
          · rw [if_pos (nI_lt q2 (by omega)), ← p121, hDk, decide_eq_false (fun z => by have := z.2; omega)]
          · rw [if_neg (nI_nlt (by omega) (by omega)), ← p121, hDk, decide_eq_true (show dS a b c (k % w + k / w) from ⟨by omega, by omega⟩), bI_t]
      refine ⟨σ', ?_, eqx.tr x27 r2, r3⟩
      have p84 : f_X6_hexagon_84 (f_X6_hexagon_28 n) (nI a) (nI b) (nI c) (nI (cnt U k + cnt D k)) (nI k) (nI (k % w + k / w)) (nI (2 * k)) σ = f_X6_hexagon_85 (f_X6_hexagon_28 n) (nI a) (nI b) (nI c) (nI (cnt U k + cnt D k)) (nI k) (nI (k % w + k / w)) (nI (2 * k)) (bI false) σ := rfl
      rw [p84]
      by_cases q1 : k % w + k / w < c
      · rw [if_pos (nI_lt q1 (by omega)), ← p85, hUk, decide_eq_false (fun z => by have := z.1; omega)]
      · rw [if_neg (nI_nlt (by omega) (by omega))]
        by_cases q2 : a + b + c < k % w + k / w + 1
        · rw [if_pos (nI_lt q2 (by omega)), ← p85, hUk, decide_eq_false (fun z => by have := z.2; omega)]
        · rw [if_neg (nI_nlt (by omega) (by omega)), ← p85, hUk, decide_eq_true (show uS a b c (k % w + k / w) from ⟨by omega, by omega⟩), bI_t]
end HR
theorem m_hexagon {σ : St} {w h : Nat} {U D : Nat → Bool} {wt : Nat → Nat → Int} (h0 : RZ σ w h U D wt) (x y z : Int32) : Both (f_X5_hexagon x y z) (f_X6_hexagon x y z) σ := by
  unfold Both f_X5_hexagon f_X6_hexagon
  by_cases hq : (nI 1 ≤ x ∧ x ≤ nI 7) ∧ (nI 1 ≤ y ∧ y ≤ nI 7) ∧ (nI 1 ≤ z ∧ z ≤ nI 7) ∧ ¬ (8 : Int32) < x + z ∧ ¬ (8 : Int32) < y + z
  · obtain ⟨q1, q2, q3, q4, q5⟩ := hq
    rcases rng x 1 7 (by decide) (by decide) with ⟨a, a1, a2, rfl⟩ | n
    rotate_left
    · exact absurd q1 n
    rcases rng y 1 7 (by decide) (by decide) with ⟨b, b1, b2, rfl⟩ | n
    rotate_left
    · exact absurd q2 n
    rcases rng z 1 7 (by decide) (by decide) with ⟨c, c1', c2, rfl⟩ | n
    rotate_left
    · exact absurd q3 n
    rw [nI_add] at q4 q5
    have hac : a + c ≤ 8 := by
      apply Classical.byContradiction
      intro n
      exact q4 (nI_lt (a := 8) (by omega) (by omega))
    have hbc : b + c ≤ 8 := by
      apply Classical.byContradiction
      intro n
      exact q5 (nI_lt (a := 8) (by omega) (by omega))
    obtain ⟨σ1, e1, e2, e3⟩ := s_shapeHexagon a1 b1 c1' hac hbc σ
    have hH := half_of e2 e3
    have hp := pc_UD hH.1 (hx_ZB a b c (a + c) ((a + c) * (b + c)))
    have har := area_le hac hbc
    rw [bd_at (hx5_yes a1 b1 c1' hac hbc σ), if_neg (by decide), bd_at e1, bd_at (s_forgetWeights σ1), bd_at (s_forgetGround _), bd_at (s_bitCount _ _), bd_at (s_bitCount _ _), hp.1, hp.2, nI_add]
    generalize hτ : clrG (fill σ1 15 0 192 (fun _ => 0)) = τ
    rw [hτ] at hH
    obtain ⟨σ', r1, r2, r3⟩ := s_hx28 (a := a) (b := b) (c := c) (w := a + c) (h := b + c) (by omega) hac hbc (by omega) rfl rfl FU 0 (layS τ (a + c) (b + c)) (Nat.zero_le _) (by unfold FU; omega) (layS_26 _ _ _).1 (layS_26 _ _ _).2 (fun i hi => by omega)
    have hx : eqx (fun p => 26 ≤ p) τ σ' := eqx.tr (layS_x τ (a + c) (b + c)) (r2.mono (fun p hp => by omega))
    refine ⟨_, τ, σ', rfl, ?_, (half_RZ hH hx ⟨by omega, hac, by omega, hbc, ?_, ?_, r3⟩ (hx_ZB a b c (a + c) ((a + c) * (b + c))) (fun j hj => ?_) (fun s hs => ?_)).rel⟩
    · rw [bd_at (hx6_yes a1 b1 c1' hac hbc τ), if_neg (by decide), nI_add, nI_add, bd_at (s_layGround hac hbc τ)]
      exact r1
    · rw [(r2 26 (by omega) 0).1]; exact (layS_26 _ _ _).1
    · rw [(r2 26 (by omega) 1).1]; exact (layS_26 _ _ _).2
    · rw [(r2 28 (by omega) j).1]; exact layS_28 _ _ _ hj
    · rw [(r2 29 (by omega) s).1]; exact layS_29 _ _ _ hs
  · rw [bd_at (hx5_no σ hq), if_pos rfl]
    refine ⟨_, σ, σ, rfl, ?_, h0.rel⟩
    rw [bd_at (hx6_no σ hq), if_pos rfl]
