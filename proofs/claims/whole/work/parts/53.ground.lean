/-! ===== HALF 2: fills, ranges; the ground's simple methods, as states told out ===== -/
def bI (b : Bool) : Int32 := if b then 1 else 0
theorem bI_or (b : Bool) : bI b = 0 ∨ bI b = 1 := by cases b <;> simp [bI]
theorem bI_0 (b : Bool) : bI b = 0 ↔ b = false := by cases b <;> simp [bI]
theorem bI_inj {a b : Bool} : bI a = bI b ↔ a = b := by cases a <;> cases b <;> simp [bI]
theorem zn_bI (b : Bool) : vp_nar .boolean (bI b) = bI b := by cases b <;> decide
theorem bIf : bI false = 0 := rfl
theorem bIt : ¬ bI true = 0 := by decide
theorem bI_t : bI true = 1 := rfl
theorem bI_f : bI false = 0 := rfl
/-- places lo .. hi-1 of row p are filled by F -/
def fill (σ : St) (p lo hi : Nat) (F : Nat → Int32) : St := (fun q j => if q = p ∧ lo ≤ j ∧ j < hi then F j else σ.1 q j, σ.2)
theorem gi_fill (σ : St) (p lo hi : Nat) (F : Nat → Int32) (q j : Nat) : gi (fill σ p lo hi F) q j = if q = p ∧ lo ≤ j ∧ j < hi then F j else gi σ q j := rfl
theorem gl_fill (σ : St) (p lo hi : Nat) (F : Nat → Int32) (q j : Nat) : gl (fill σ p lo hi F) q j = gl σ q j := rfl
theorem fill_end (σ : St) (p hi : Nat) (F : Nat → Int32) : fill σ p hi hi F = σ := by
  refine st_ext (fun q j => ?_) (fun _ _ => rfl)
  rw [gi_fill, if_neg (by omega)]
theorem fill_step (σ : St) (p lo hi : Nat) (F : Nat → Int32) (h : lo < hi) : fill (si σ p lo (F lo)) p (lo + 1) hi F = fill σ p lo hi F := by
  refine st_ext (fun q j => ?_) (fun _ _ => rfl)
  simp only [gi_fill, gi_si]
  by_cases hq : q = p
  · by_cases hj : j = lo
    · subst hj; simp [hq, h]
    · by_cases h1 : lo ≤ j ∧ j < hi
      · rw [if_pos (by omega), if_pos (by omega)]
      · rw [if_neg (by omega), if_neg (by omega), if_neg (by omega)]
  · simp [hq]
def fillL (σ : St) (p lo hi : Nat) (F : Nat → Int64) : St := (σ.1, fun q j => if q = p ∧ lo ≤ j ∧ j < hi then F j else σ.2 q j)
theorem gl_fillL (σ : St) (p lo hi : Nat) (F : Nat → Int64) (q j : Nat) : gl (fillL σ p lo hi F) q j = if q = p ∧ lo ≤ j ∧ j < hi then F j else gl σ q j := rfl
theorem gi_fillL (σ : St) (p lo hi : Nat) (F : Nat → Int64) (q j : Nat) : gi (fillL σ p lo hi F) q j = gi σ q j := rfl
theorem fillL_end (σ : St) (p hi : Nat) (F : Nat → Int64) : fillL σ p hi hi F = σ := by
  refine st_ext (fun _ _ => rfl) (fun q j => ?_)
  rw [gl_fillL, if_neg (by omega)]
theorem fillL_step (σ : St) (p lo hi : Nat) (F : Nat → Int64) (h : lo < hi) : fillL (sl σ p lo (F lo)) p (lo + 1) hi F = fillL σ p lo hi F := by
  refine st_ext (fun _ _ => rfl) (fun q j => ?_)
  simp only [gl_fillL, gl_sl]
  by_cases hq : q = p
  · by_cases hj : j = lo
    · subst hj; simp [hq, h]
    · by_cases h1 : lo ≤ j ∧ j < hi
      · rw [if_pos (by omega), if_pos (by omega)]
      · rw [if_neg (by omega), if_neg (by omega), if_neg (by omega)]
  · simp [hq]
/-! ranges -/
theorem w_lt (a b : Int32) : a.toInt64 < b.toInt64 ↔ a < b := by rw [Int64.lt_iff_toInt_lt, Int32.lt_iff_toInt_lt, Int32.toInt_toInt64, Int32.toInt_toInt64]
theorem s_in (a b c : Int32) (σ : St) : f_X6_in a.toInt64 b.toInt64 c.toInt64 σ = some (bI (decide (b ≤ a ∧ a ≤ c)), σ) := by
  unfold f_X6_in f_X6_in_17 f_X6_in_18
  have e1 : a.toInt64 < b.toInt64 ↔ ¬ b ≤ a := by rw [w_lt, Int32.not_le]
  have e2 : c.toInt64 < a.toInt64 ↔ ¬ a ≤ c := by rw [w_lt, Int32.not_le]
  by_cases h1 : b ≤ a
  · by_cases h2 : a ≤ c
    · rw [if_neg (by rw [e1]; exact fun z => z h1), if_neg (by rw [e2]; exact fun z => z h2), gz_1]
      simp [h1, h2, bI]
    · rw [if_neg (by rw [e1]; exact fun z => z h1), if_pos (by rw [e2]; exact h2), gz_0]
      simp [h2, bI]
  · rw [if_pos (by rw [e1]; exact h1), gz_0]
    simp [h1, bI]
/-- an int in a small range, or not -/
theorem rng (a : Int32) (lo hi : Nat) (h : lo ≤ hi) (hh : hi < 2 ^ 30) : (∃ k, lo ≤ k ∧ k ≤ hi ∧ a = nI k) ∨ ¬ (nI lo ≤ a ∧ a ≤ nI hi) := by
  by_cases hq : nI lo ≤ a ∧ a ≤ nI hi
  · left
    obtain ⟨h1, h2⟩ := hq
    rw [Int32.le_iff_toInt_le, nI_toInt (by omega)] at h1
    rw [Int32.le_iff_toInt_le, nI_toInt (by omega)] at h2
    refine ⟨a.toInt.toNat, by omega, by omega, ?_⟩
    apply Int32.toInt_inj.mp
    rw [nI_toInt (by omega)]
    omega
  · exact Or.inr hq
theorem rng_in {k lo hi : Nat} (h1 : lo ≤ k) (h2 : k ≤ hi) (hh : hi < 2 ^ 31) : nI lo ≤ nI k ∧ nI k ≤ nI hi := ⟨nI_le h1 (by omega), nI_le h2 hh⟩
/-! class: forgetting -/
def clrL (σ : St) (p : Nat) : St := sl (sl (sl (si σ p 0 0) p 1 0) p 2 0) p 3 0
theorem s_clear (p : Nat) (σ : St) : f_X2_clear p σ = some ((), clrL σ p) := rfl
def clrG (σ : St) : St := si (si (clrL (clrL (clrL (clrL (clrL σ 5) 6) 7) 8) 12) 0 8 0) 0 9 0
theorem s_forgetGround (σ : St) : f_X5_forgetGround σ = some ((), clrG σ) := by
  have h0 : (4 : Int32) = nI 4 := rfl
  unfold f_X5_forgetGround
  rw [show FU = 999995 + 1 + 1 + 1 + 1 + 1 from rfl, show (0 : Int32) = nI 0 from rfl]
  rw [f_X5_forgetGround_2, h0, if_neg (nI_ge (by decide) (by decide)), rdR_at _ (by decide), bd_at (s_clear _ _), nI_1]
  rw [f_X5_forgetGround_2, h0, if_neg (nI_ge (by decide) (by decide)), rdR_at _ (by decide), bd_at (s_clear _ _), nI_1]
  rw [f_X5_forgetGround_2, h0, if_neg (nI_ge (by decide) (by decide)), rdR_at _ (by decide), bd_at (s_clear _ _), nI_1]
  rw [f_X5_forgetGround_2, h0, if_neg (nI_ge (by decide) (by decide)), rdR_at _ (by decide), bd_at (s_clear _ _), nI_1]
  rw [f_X5_forgetGround_2, h0, if_pos (nI_le (by decide) (by decide))]
  rfl
theorem s_fill {p : Nat} (v : Int32) (hl : len p < 2 ^ 31) : ∀ (n x : Nat) (σ : St), x ≤ len p → len p - x < n → f_J7_fill_53178_5 n p v (nI x) (nI (len p)) σ = some ((), fill σ p x (len p) (fun _ => v)) := by
  intro n
  induction n with
  | zero => intro x σ h1 h2; omega
  | succ n ih =>
    intro x σ h1 h2
    rw [f_J7_fill_53178_5]
    by_cases hx : len p ≤ x
    · have e : x = len p := by omega
      subst e
      rw [if_pos (nI_le hx hl), fill_end]
    · rw [if_neg (nI_ge (by omega) hl), wrI_at _ _ _ (by omega) hl, nI_1, ih (x + 1) _ (by omega) (by omega), fill_step _ _ _ _ (fun _ => v) (by omega)]
theorem s_forgetWeights (σ : St) : f_X5_forgetWeights σ = some ((), fill σ 15 0 192 (fun _ => 0)) := by
  unfold f_X5_forgetWeights f_J7_fill_53178
  show bd (f_J7_fill_53178_5 FU 15 0 (nI 0) (nI (len 15)) σ) _ = _
  rw [bd_at (s_fill (p := 15) 0 (by decide) FU 0 σ (Nat.zero_le _) (by decide))]
  rfl
/-! reference: laying a ground -/
theorem s_empty_2 : ∀ (n x : Nat) (σ : St), x ≤ 4 → 4 - x < n → f_X6_empty_2 n (nI x) σ = some ((), fill σ 29 x 4 (fun _ => 0)) := by
  intro n
  induction n with
  | zero => intro x σ h1 h2; omega
  | succ n ih =>
    intro x σ h1 h2
    rw [f_X6_empty_2, show (4 : Int32) = nI 4 from rfl]
    by_cases hx : 4 ≤ x
    · have e : x = 4 := by omega
      subst e
      rw [if_pos (nI_le hx (by decide)), fill_end]
    · rw [if_neg (nI_ge (by omega) (by decide)), wrZ_at _ _ _ (show x < len 29 by show x < 4; omega) (by decide), zn_0, nI_1, ih (x + 1) _ (by omega) (by omega), fill_step _ _ _ _ (fun _ => 0) (by omega)]
theorem s_empty (σ : St) : f_X6_empty σ = some ((), fill σ 29 0 4 (fun _ => 0)) := s_empty_2 FU 0 σ (by decide) (by decide)
theorem s_layGround_47 : ∀ (n x : Nat) (σ : St), x ≤ 192 → 192 - x < n → f_X6_layGround_47 n (nI x) σ = some ((), fill (fill σ 28 x 192 (fun _ => 0)) 29 0 4 (fun _ => 0)) := by
  intro n
  induction n with
  | zero => intro x σ h1 h2; omega
  | succ n ih =>
    intro x σ h1 h2
    rw [f_X6_layGround_47, show (192 : Int32) = nI 192 from rfl]
    by_cases hx : 192 ≤ x
    · have e : x = 192 := by omega
      subst e
      rw [if_pos (nI_le hx (by decide)), fill_end, bd_at (s_empty σ)]
    · rw [if_neg (nI_ge (by omega) (by decide)), wrI_at _ _ _ (show x < len 28 by show x < 192; omega) (by decide), nI_1, ih (x + 1) _ (by omega) (by omega), fill_step _ _ _ _ (fun _ => 0) (by omega)]
def inF (N t : Nat) : Int32 := bI (decide (t < 2 * N))
theorem s_layGround_12 {w h : Nat} (hw : w ≤ 8) (hh : h ≤ 8) : ∀ (n x : Nat) (σ : St), x ≤ 128 → 128 - x < n → f_X6_layGround_12 n (nI w) (nI h) (nI x) σ = some ((), fill (fill (fill σ 27 x 128 (inF (w * h))) 28 0 192 (fun _ => 0)) 29 0 4 (fun _ => 0)) := by
  have har := area_le hw hh
  intro n
  induction n with
  | zero => intro x σ h1 h2; omega
  | succ n ih =>
    intro x σ h1 h2
    rw [f_X6_layGround_12, show (128 : Int32) = nI 128 from rfl, show (2 : Int32) = nI 2 from rfl, nI_mul, nI_mul, Nat.mul_assoc]
    by_cases hx : 128 ≤ x
    · have e : x = 128 := by omega
      subst e
      rw [if_pos (nI_le hx (by decide)), fill_end]
      exact s_layGround_47 FU 0 σ (by decide) (by decide)
    · rw [if_neg (nI_ge (by omega) (by decide))]
      have step : ∀ b : Bool, b = decide (x < 2 * (w * h)) → f_X6_layGround_38 (f_X6_layGround_12 n) (nI w) (nI h) (nI x) (nI x) (bI b) σ = some ((), fill (fill (fill σ 27 x 128 (inF (w * h))) 28 0 192 (fun _ => 0)) 29 0 4 (fun _ => 0)) := by
        intro b hb
        unfold f_X6_layGround_38
        rw [wrZ_at _ _ _ (show x < len 27 by show x < 128; omega) (by decide), zn_bI, nI_1, ih (x + 1) _ (by omega) (by omega), hb]
        rw [show bI (decide (x < 2 * (w * h))) = inF (w * h) x from rfl, fill_step _ _ _ _ _ (by omega)]
      by_cases hb : 2 * (w * h) ≤ x
      · rw [if_pos (nI_le hb (by omega))]
        exact step false (by simp; omega)
      · rw [if_neg (nI_ge (by omega) (by omega))]
        exact step true (by simp; omega)
def layS (σ : St) (w h : Nat) : St := fill (fill (fill (si (si σ 26 0 (nI w)) 26 1 (nI h)) 27 0 128 (inF (w * h))) 28 0 192 (fun _ => 0)) 29 0 4 (fun _ => 0)
theorem s_layGround {w h : Nat} (hw : w ≤ 8) (hh : h ≤ 8) (σ : St) : f_X6_layGround (nI w) (nI h) σ = some ((), layS σ w h) := by
  unfold f_X6_layGround
  rw [fI_at, fI_at]
  exact s_layGround_12 hw hh FU 0 _ (by decide) (by decide)
