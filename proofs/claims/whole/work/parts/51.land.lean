/-! ===== HALF 2: Land ===== -/
theorem s_pointBit {σ : St} {w h x y : Nat} (hw : gi σ 1 0 = nI w) (hh : gi σ 1 1 = nI h) (h1 : x < w) (h2 : y < h) (hw8 : w ≤ 8) (hh8 : h ≤ 8) : f_X1_pointBit (nI x) (nI y) σ = some (lshl 1 (nI (y * w + x)), σ) := by
  unfold f_X1_pointBit f_X1_pointBit_30
  rw [hw, hh, if_neg (nI_ge h1 (by omega)), if_neg (nI_ge h2 (by omega)), nI_mul, nI_add]
theorem s_pointBit0 {σ : St} {w h x y : Nat} (hw : gi σ 1 0 = nI w) (hh : gi σ 1 1 = nI h) (hxy : w ≤ x ∨ h ≤ y) (hw31 : w < 2 ^ 31) (hx : x < 2 ^ 31) (hy : y < 2 ^ 31) : f_X1_pointBit (nI x) (nI y) σ = some (0, σ) := by
  unfold f_X1_pointBit f_X1_pointBit_29 f_X1_pointBit_30
  rw [hw, hh]
  by_cases h1 : w ≤ x
  · rw [if_pos (nI_le h1 hx)]
  · have h2 : h ≤ y := by omega
    rw [if_neg (nI_ge (by omega) (by omega)), if_pos (nI_le h2 hy)]
/-- INNER points, out of the ground's sets, as the class finds them -/
def innerL (u d e : Int64) (w : Int32) : Int64 := ((u &&& lshl u 1) &&& lshl u w) &&& ((lshl d 1 &&& lshl d w) &&& lshl d (w + 1)) &&& e
theorem s_findInner (σ : St) : f_X1_findInner σ = some ((), sl σ 1 6 (innerL (gl σ 1 3) (gl σ 1 4) (gl σ 1 5) (gi σ 1 0))) := rfl
theorem cell_lt {w h x y : Nat} (hx : x < w) (hy : y < h) : y * w + x < w * h := by
  have h1 : (y + 1) * w ≤ h * w := Nat.mul_le_mul_right w hy
  rw [Nat.mul_comm h w] at h1
  rw [Nat.add_mul] at h1
  omega
theorem area_le {w h : Nat} (hw : w ≤ 8) (hh : h ≤ 8) : w * h ≤ 64 := Nat.mul_le_mul hw hh
/-- the inner loop of shape: east grows by the cells x .. w-1 of row y -/
theorem s_shape_35 {w h y : Nat} (hw8 : w ≤ 8) (hh8 : h ≤ 8) (hy : y < h) (k24 : Int32 → St → Option (Unit × St)) : ∀ (n x : Nat) (σ : St), x ≤ w → w - x < n → gi σ 1 0 = nI w → gi σ 1 1 = nI h →
    ∃ E : Int64, f_X1_shape_35 k24 n (nI y) (nI x) σ = k24 (nI (y + 1)) (sl σ 1 5 E) ∧ ∀ c, c < 64 → tb E c = (tb (gl σ 1 5) c || decide (y * w + x ≤ c ∧ c < y * w + w)) := by
  intro n
  induction n with
  | zero => intro x σ h1 h2; omega
  | succ n ih =>
    intro x σ h1 h2 ew eh
    rw [f_X1_shape_35, ew]
    by_cases hx : w ≤ x
    · rw [if_pos (nI_le hx (by omega)), nI_1]
      refine ⟨gl σ 1 5, by rw [sl_same], fun c hc => ?_⟩
      rw [decide_eq_false (by omega), Bool.or_false]
    · have hx' : x < w := by omega
      have hlt := cell_lt hx' hy
      have har := area_le hw8 hh8
      rw [if_neg (nI_ge hx' (by omega)), bd_at (s_pointBit ew eh hx' hy hw8 hh8), fL_at, nI_1]
      obtain ⟨E, e1, e2⟩ := ih (x + 1) (sl σ 1 5 (gl σ 1 5 ||| lshl 1 (nI (y * w + x)))) (by omega) (by omega) ew eh
      rw [e1, sl_sl]
      refine ⟨E, rfl, fun c hc => ?_⟩
      rw [e2 c hc, gl_sl_same, tb_or, tb_bit (by omega), Bool.or_assoc, ← Bool.decide_or]
      congr 1
      exact decide_eq_decide.mpr (by omega)
/-- CELLS that have one before them in their row -/
def eastB (w h c : Nat) : Bool := decide (c < w * h) && decide (c % w ≠ 0)
theorem mod_row {w y c : Nat} (h1 : y * w ≤ c) (h2 : c < y * w + w) : c % w = c - y * w := by
  have h3 : c = w * y + (c - y * w) := by rw [Nat.mul_comm]; omega
  rw [h3, Nat.mul_add_mod, Nat.mod_eq_of_lt (by omega)]
  rw [Nat.mul_comm]; omega
theorem s_shape_24 {w h : Nat} (hw0 : 1 ≤ w) (hw8 : w ≤ 8) (hh8 : h ≤ 8) : ∀ (n y : Nat) (σ : St), y ≤ h → h - y < n → gi σ 1 0 = nI w → gi σ 1 1 = nI h → gi σ 1 2 = nI (w * h) → (∀ c, c < 64 → tb (gl σ 1 5) c = (decide (c < y * w) && decide (c % w ≠ 0))) →
    ∃ E : Int64, (∀ c, c < 64 → tb E c = eastB w h c) ∧ f_X1_shape_24 n (nI y) σ = some ((), sl (sl (sl (sl σ 1 5 E) 1 3 (lushr (-1) (nI (64 - w * h)))) 1 4 (lushr (-1) (nI (64 - w * h)))) 1 6 (innerL (lushr (-1) (nI (64 - w * h))) (lushr (-1) (nI (64 - w * h))) E (nI w))) := by
  intro n
  induction n with
  | zero => intro y σ h1 h2; omega
  | succ n ih =>
    intro y σ h1 h2 ew eh ec hE
    have har := area_le hw8 hh8
    rw [f_X1_shape_24, eh]
    by_cases hy : h ≤ y
    · have hyh : y = h := by omega
      subst hyh
      rw [if_pos (nI_le hy (by omega))]
      refine ⟨gl σ 1 5, fun c hc => ?_, ?_⟩
      · rw [hE c hc, eastB, Nat.mul_comm]
      · have e64 : (64 : Int32) - nI (w * y) = nI (64 - w * y) := nI_sub (a := 64) har
        rw [fL_at, fL_at, bd_at (s_findInner _), ec, e64, sl_same]
        simp only [gl_sl, gi_sl, ew]
        simp
    · have hy' : y < h := by omega
      rw [if_neg (nI_ge hy' (by omega))]
      obtain ⟨E, e1, e2⟩ := s_shape_35 hw8 hh8 hy' (f_X1_shape_24 n) FU 1 σ hw0 (by unfold FU; omega) ew eh
      rw [show (1 : Int32) = nI 1 from rfl, e1]
      obtain ⟨E2, g1, g2⟩ := ih (y + 1) (sl σ 1 5 E) hy' (by omega) ew eh ec (fun c hc => by
        rw [gl_sl_same, e2 c hc, hE c hc, ← Bool.decide_and, ← Bool.decide_and, ← Bool.decide_or, Nat.add_mul]
        refine decide_eq_decide.mpr ?_
        by_cases h3 : c < y * w
        · omega
        · by_cases h4 : c < y * w + w
          · rw [mod_row (by omega) h4]
            omega
          · omega)
      refine ⟨E2, g1, ?_⟩
      rw [g2, sl_sl]
/-- shape: the new ground, all IN -/
theorem s_shape {w h : Nat} (hw0 : 1 ≤ w) (hw8 : w ≤ 8) (hh8 : h ≤ 8) (σ : St) : ∃ E : Int64, (∀ c, c < 64 → tb E c = eastB w h c) ∧
    f_X1_shape (nI w) (nI h) σ = some ((), sl (sl (sl (sl (si (si (si σ 1 0 (nI w)) 1 1 (nI h)) 1 2 (nI (w * h))) 1 5 E) 1 3 (lushr (-1) (nI (64 - w * h)))) 1 4 (lushr (-1) (nI (64 - w * h)))) 1 6 (innerL (lushr (-1) (nI (64 - w * h))) (lushr (-1) (nI (64 - w * h))) E (nI w))) := by
  unfold f_X1_shape
  rw [fI_at, fI_at, fI_at, fL_at, nI_mul]
  obtain ⟨E, h1, h2⟩ := s_shape_24 hw0 hw8 hh8 FU 0 (sl (si (si (si σ 1 0 (nI w)) 1 1 (nI h)) 1 2 (nI (w * h))) 1 5 0) (Nat.zero_le _) (by unfold FU; omega) rfl rfl rfl (fun c hc => by rw [gl_sl_same, tb_0]; simp)
  refine ⟨E, h1, ?_⟩
  rw [show (0 : Int32) = nI 0 from rfl, h2, sl_sl]
/-- all bits below n -/
theorem tb_ones {n c : Nat} (hn0 : 1 ≤ n) (hn : n ≤ 64) (hc : c < 64) : tb (lushr (-1) (nI (64 - n))) c = decide (c < n) := by
  rw [tb_lushr _ (by omega)]
  by_cases h : c < n
  · rw [tb_m1 _ (by omega)]; simp [h]
  · rw [tb_big (by omega)]; simp [h]
