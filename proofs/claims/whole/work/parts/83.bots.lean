/-! ===== HALF 2: when two LAYINGS have the same BOTTOM ===== -/
/-- how much further the second one is turned down, at a POINT -/
def Dz (w : Nat) (K1 K2 : Nat → Nat) (x y : Nat) : Int := (Rg w K2 x y : Int) - (Rg w K1 x y : Int)
theorem Dz_h (w : Nat) (K1 K2 : Nat → Nat) (x y : Nat) : Dz w K1 K2 (x + 1) y = Dz w K1 K2 x y + ((b1 (K2 (y * w + x) = 2) : Int) - (b1 (K1 (y * w + x) = 2) : Int)) := by
  unfold Dz
  have e1 : Rg w K1 (x + 1) y = Rg w K1 x y + b1 (K1 (y * w + x) = 2) := rfl
  have e2 : Rg w K2 (x + 1) y = Rg w K2 x y + b1 (K2 (y * w + x) = 2) := rfl
  rw [e1, e2]
  omega
theorem k_sum {w : Nat} {U D : Nat → Bool} {N : Nat} {K : Nat → Nat} (hL : LL w U D N K) {c : Nat} (hc : c < N) : b1 (K c = 0) + b1 (K c = 1) + b1 (K c = 2) + b1 (U c = false) = 1 := by
  obtain ⟨l1, l2, -⟩ := hL.1 c hc
  by_cases h3 : K c = 3
  · rw [b1_t (l2.mp h3), h3]
    rfl
  · rw [b1_f (fun z => h3 (l2.mpr z))]
    rcases (show K c = 0 ∨ K c = 1 ∨ K c = 2 by omega) with e | e | e <;> rw [e] <;> rfl
def oDs (w : Nat) (U D : Nat → Bool) (y x : Nat) : Nat := sm (fun i => b1 (U (y * w + i) = false) + (D (y * w + i)).toNat) x
theorem Rg_up {w h : Nat} {U D : Nat → Bool} {K : Nat → Nat} (hw : 1 ≤ w) (hL : LL w U D (w * h) K) {y : Nat} (hy : y < h) : ∀ x, x ≤ w → Rg w K x (y + 1) + b1 (K (y * w + x) = 1) + x = Rg w K x y + oDs w U D y x
  | 0, _ => by
    have hlt := cell_lt (show 0 < w by omega) hy
    have : ¬ K (y * w + 0) = 1 := fun q => by
      have := (hL.1 _ hlt).2.2.1 q
      rw [row_mod (by omega)] at this
      exact this rfl
    rw [b1_f this]
    rfl
  | x + 1, hx => by
    have ih := Rg_up hw hL hy x (by omega)
    have hlt := cell_lt (show x < w by omega) hy
    have hc := hL.2.2 _ hlt
    have hk := k_sum hL hlt
    have e1 : Rg w K (x + 1) (y + 1) = Rg w K x (y + 1) + b1 (K ((y + 1) * w + x) = 2) := rfl
    have e2 : Rg w K (x + 1) y = Rg w K x y + b1 (K (y * w + x) = 2) := rfl
    have e3 : oDs w U D y (x + 1) = oDs w U D y x + (b1 (U (y * w + x) = false) + (D (y * w + x)).toNat) := rfl
    rw [e1, e2, e3, show (y + 1) * w + x = y * w + x + w by rw [Nat.add_mul]; omega, show y * w + (x + 1) = y * w + x + 1 by omega]
    omega
theorem Dz_v {w h : Nat} {U D : Nat → Bool} {K1 K2 : Nat → Nat} (hw : 1 ≤ w) (h1 : LL w U D (w * h) K1) (h2 : LL w U D (w * h) K2) {x y : Nat} (hx : x ≤ w) (hy : y < h) : Dz w K1 K2 x (y + 1) + ((b1 (K2 (y * w + x) = 1) : Int) - (b1 (K1 (y * w + x) = 1) : Int)) = Dz w K1 K2 x y := by
  have a1 := Rg_up hw h1 hy x hx
  have a2 := Rg_up hw h2 hy x hx
  unfold Dz
  omega
theorem UpN_Rg {w : Nat} {U D : Nat → Bool} {N : Nat} {t : Bool} (hw : 1 ≤ w) {x y : Nat} (hi : innB w U D N (y * w + x) = false) : ∀ {n : Nat} {K M : Nat → Nat}, UpN w U D N t n K M → Rg w M x y = Rg w K x y
  | 0, K, M, h => by
    have e : K = M := h
    rw [e]
  | n + 1, K, M, h => by
    obtain ⟨c0, h0, h1⟩ := h
    have hne : ¬ y * w + x = c0 := fun q => by
      have := h0.1
      rw [← q, hi] at this
      cases this
    have h2 := Rg_tu hw h0 y x
    rw [b1_f (fun z => hne z.2), b1_f (fun z => hne z.2)] at h2
    rw [UpN_Rg hw hi h1]
    exact h2
theorem arg_max (f : Nat → Nat) : ∀ n, ∃ i, i < n + 1 ∧ ∀ j, j < n + 1 → f j ≤ f i
  | 0 => ⟨0, by omega, fun j hj => by rw [show j = 0 by omega]; exact Nat.le_refl _⟩
  | n + 1 => by
    obtain ⟨i, h1, h2⟩ := arg_max f n
    by_cases h : f (n + 1) ≤ f i
    · refine ⟨i, by omega, fun j hj => ?_⟩
      by_cases e : j = n + 1
      · rw [e]; exact h
      · exact h2 j (by omega)
    · refine ⟨n + 1, by omega, fun j hj => ?_⟩
      by_cases e : j = n + 1
      · rw [e]; exact Nat.le_refl _
      · have := h2 j (by omega)
        omega
/-- down along a column, for ever -/
theorem bot_chain {w h : Nat} {U D : Nat → Bool} {M1 M2 : Nat → Nat} (hw : 1 ≤ w) (h1 : LL w U D (w * h) M1) (h2 : LL w U D (w * h) M2) (hn : NoP w U D (w * h) false M1) {m : Int} (hm : 0 < m) (h0 : ∀ x y, x ≤ w → y ≤ h → innB w U D (w * h) (y * w + x) = false → Dz w M1 M2 x y = 0) (hmax : ∀ x y, x ≤ w → y ≤ h → Dz w M1 M2 x y ≤ m) :
    ∀ (y x : Nat), x ≤ w → y ≤ h → Dz w M1 M2 x y = m → M1 (y * w + x) = 2 → M1 (y * w + x - 1) = 0 → False := by
  have inn : ∀ x y, x ≤ w → y ≤ h → Dz w M1 M2 x y = m → innB w U D (w * h) (y * w + x) = true := fun x y hx hy e => by
    cases z : innB w U D (w * h) (y * w + x) with
    | true => rfl
    | false => have := h0 x y hx hy z; omega
  intro y
  induction y with
  | zero =>
    intro x hx hy e _ _
    have := (inn_of (inn x 0 hx hy e)).2.2.2.1
    rw [Nat.zero_mul] at this
    omega
  | succ y ih =>
    intro x hx hy e k1 k2
    obtain ⟨i1, i2, i3, i4, i5, i6, i7, i8, i9, i10, i11⟩ := inn_of (inn x (y + 1) hx hy e)
    have ec : (y + 1) * w + x = y * w + x + w := by rw [Nat.add_mul]; omega
    rw [ec] at k1 k2 i1 i2 i3 i4 i6 i7 i8 i9 i10 i11
    rw [show y * w + x + w - w = y * w + x by omega] at i8 i10 i11
    have hw2 := i5 hw
    have hne1 : M1 (y * w + x) ≠ 1 := fun q => hn (y * w + x + w) ⟨by rw [← ec]; exact inn x (y + 1) hx hy e, k1, k2, by rw [show y * w + x + w - w = y * w + x by omega]; exact q⟩
    have c1 := h1.2.2 (y * w + x) (by omega)
    rw [b1_t k1, i10] at c1
    have ne0 : ¬ M1 (y * w + x) = 0 := fun q => by rw [b1_t q] at c1; have : Bool.toNat true = 1 := rfl; omega
    have l1 := h1.1 (y * w + x) (by omega)
    have k3 : M1 (y * w + x) = 2 := by
      have : ¬ M1 (y * w + x) = 3 := fun q => by have := l1.2.1.mp q; rw [i8] at this; cases this
      omega
    have c2 := h1.2.2 (y * w + x - 1) (by omega)
    rw [show y * w + x - 1 + 1 = y * w + x by omega, show y * w + x - 1 + w = y * w + x + w - 1 by omega, k3, k2, i11] at c2
    have k4 : M1 (y * w + x - 1) = 0 := by
      by_cases q : M1 (y * w + x - 1) = 0
      · exact q
      · rw [b1_f q] at c2
        cases c2
    have hv := Dz_v hw h1 h2 hx (show y < h by omega)
    rw [e, k3] at hv
    have hb : (b1 (2 = 1) : Int) = 0 := rfl
    have hle := hmax x y hx (by omega)
    exact ih x hx (by omega) (by omega) k3 k4
theorem Rg_le (w : Nat) (K : Nat → Nat) (y : Nat) : ∀ x, Rg w K x y ≤ x
  | 0 => Nat.le_refl _
  | x + 1 => by
    have := Rg_le w K y x
    have h2 := b1_le (K (y * w + x) = 2)
    show Rg w K x y + b1 (K (y * w + x) = 2) ≤ x + 1
    omega
theorem bot_le {w h : Nat} {U D : Nat → Bool} {M1 M2 : Nat → Nat} (hw : 1 ≤ w) (hw8 : w ≤ 8) (hh8 : h ≤ 8) (h1 : LL w U D (w * h) M1) (h2 : LL w U D (w * h) M2) (hn : NoP w U D (w * h) false M1) (h0 : ∀ x y, x ≤ w → y ≤ h → innB w U D (w * h) (y * w + x) = false → Dz w M1 M2 x y = 0) :
    ∀ x y, x ≤ w → y ≤ h → Dz w M1 M2 x y ≤ 0 := by
  obtain ⟨p, hp, hmx⟩ := arg_max (fun p => if p % 9 ≤ w ∧ p / 9 ≤ h then (Rg w M2 (p % 9) (p / 9) + 8 - Rg w M1 (p % 9) (p / 9)) * 1000 + p else 0) 80
  have val : ∀ x y, x ≤ w → y ≤ h → (9 * y + x) % 9 = x ∧ (9 * y + x) / 9 = y ∧ 9 * y + x < 81 := by
    intro x y hx hy
    omega
  -- what is greatest
  have G : ∀ x y, x ≤ w → y ≤ h → (Rg w M2 x y + 8 - Rg w M1 x y) * 1000 + (9 * y + x) ≤ (if p % 9 ≤ w ∧ p / 9 ≤ h then (Rg w M2 (p % 9) (p / 9) + 8 - Rg w M1 (p % 9) (p / 9)) * 1000 + p else 0) := by
    intro x y hx hy
    obtain ⟨v1, v2, v3⟩ := val x y hx hy
    have := hmx (9 * y + x) v3
    simp only [v1, v2] at this
    rw [if_pos ⟨hx, hy⟩] at this
    exact this
  have G0 := G 0 0 (Nat.zero_le _) (Nat.zero_le _)
  have hpv : p % 9 ≤ w ∧ p / 9 ≤ h := by
    apply Classical.byContradiction
    intro q
    rw [if_neg q] at G0
    have : Rg w M1 0 0 = 0 := rfl
    omega
  rw [if_pos hpv] at G
  obtain ⟨hx0, hy0⟩ := hpv
  generalize hx' : p % 9 = X at *
  generalize hy' : p / 9 = Y at *
  have hpe : p = 9 * Y + X := by omega
  have L1 := fun x y => Rg_le w M1 y x
  have hmax : ∀ x y, x ≤ w → y ≤ h → Dz w M1 M2 x y ≤ Dz w M1 M2 X Y := by
    intro x y hx hy
    have g1 := G x y hx hy
    have l1 := L1 x y
    have l2 := L1 X Y
    unfold Dz
    omega
  have hstr : ∀ x y, x ≤ w → y ≤ h → 9 * Y + X < 9 * y + x → Dz w M1 M2 x y < Dz w M1 M2 X Y := by
    intro x y hx hy hlt
    have g1 := G x y hx hy
    have l1 := L1 x y
    have l2 := L1 X Y
    unfold Dz
    omega
  intro x y hx hy
  apply Classical.byContradiction
  intro hpos
  have hm : 0 < Dz w M1 M2 X Y := by have := hmax x y hx hy; omega
  have hin : innB w U D (w * h) (Y * w + X) = true := by
    cases z : innB w U D (w * h) (Y * w + X) with
    | true => rfl
    | false => have := h0 X Y hx0 hy0 z; omega
  obtain ⟨i1, i2, i3, i4, i5, i6, i7, i8, i9⟩ := inn_of hin
  have hXw : X < w := by
    rcases Nat.lt_or_ge X w with q | q
    · exact q
    · have : X = w := by omega
      rw [this, show Y * w + w = (Y + 1) * w by rw [Nat.add_mul, Nat.one_mul], Nat.mul_mod_left] at i2
      exact absurd rfl i2
  have hX1 : 1 ≤ X := by
    rcases Nat.eq_zero_or_pos X with q | q
    · rw [q, Nat.add_zero, Nat.mul_mod_left] at i2; exact absurd rfl i2
    · exact q
  have hYh : Y < h := by
    rcases Nat.lt_or_ge Y h with q | q
    · exact q
    · have : Y = h := by omega
      rw [this, Nat.mul_comm h w] at i1
      omega
  -- to the right
  have r1 := hstr (X + 1) Y (by omega) hy0 (by omega)
  rw [Dz_h] at r1
  have k1 : M1 (Y * w + X) = 2 := by
    apply Classical.byContradiction
    intro q
    rw [b1_f q] at r1
    omega
  -- and up
  have r2 := hstr (X - 1) (Y + 1) (by omega) (by omega) (by omega)
  have v1 := Dz_v hw h1 h2 (show X - 1 ≤ w by omega) hYh
  have v2 := Dz_h w M1 M2 (X - 1) Y
  rw [show X - 1 + 1 = X by omega] at v2
  have ec : Y * w + X - 1 = Y * w + (X - 1) := by omega
  have s1 := k_sum h1 (show Y * w + (X - 1) < w * h by omega)
  have s2 := k_sum h2 (show Y * w + (X - 1) < w * h by omega)
  rw [ec] at i7
  rw [b1_f (show ¬ U (Y * w + (X - 1)) = false by rw [i7]; decide)] at s1 s2
  have k2 : M1 (Y * w + X - 1) = 0 := by
    rw [ec]
    apply Classical.byContradiction
    intro q
    rw [b1_f q] at s1
    omega
  exact bot_chain hw h1 h2 hn hm h0 hmax Y X hx0 hy0 rfl k1 k2
theorem Dz_swap (w : Nat) (K1 K2 : Nat → Nat) (x y : Nat) : Dz w K2 K1 x y = - Dz w K1 K2 x y := by
  unfold Dz
  omega
theorem Dz_eq {w h : Nat} {U D : Nat → Bool} {M1 M2 : Nat → Nat} (hw : 1 ≤ w) (h1 : LL w U D (w * h) M1) (h2 : LL w U D (w * h) M2) (h0 : ∀ x y, x ≤ w → y ≤ h → Dz w M1 M2 x y = 0) : M1 = M2 := by
  funext c
  rcases Nat.lt_or_ge c (w * h) with hc | hc
  · have hx := Nat.mod_lt c (show 0 < w by omega)
    have hy : c / w < h := Nat.div_lt_of_lt_mul hc
    have he : c / w * w + c % w = c := by rw [Nat.mul_comm]; exact Nat.div_add_mod c w
    have v1 := Dz_v hw h1 h2 (show c % w ≤ w by omega) hy
    have v2 := Dz_h w M1 M2 (c % w) (c / w)
    rw [h0 _ _ (by omega) (by omega), h0 _ _ (by omega) (by omega), he] at v1 v2
    have l1 := h1.1 c hc
    have l2 := h2.1 c hc
    have s1 := k_sum h1 hc
    have s2 := k_sum h2 hc
    have bb : ∀ a k : Nat, b1 (a = k) = if a = k then 1 else 0 := fun a k => rfl
    by_cases hu : U c = false
    · rw [l1.2.1.mpr hu, l2.2.1.mpr hu]
    · rw [b1_f hu] at s1 s2
      have n1 : M1 c < 3 := by have : ¬ M1 c = 3 := fun z => hu (l1.2.1.mp z); omega
      have n2 : M2 c < 3 := by have : ¬ M2 c = 3 := fun z => hu (l2.2.1.mp z); omega
      simp only [bb] at v1 v2
      rcases (show M1 c = 0 ∨ M1 c = 1 ∨ M1 c = 2 by omega) with e | e | e <;> rcases (show M2 c = 0 ∨ M2 c = 1 ∨ M2 c = 2 by omega) with f | f | f <;> rw [e, f] at v1 v2 ⊢ <;> simp at v1 v2
  · rw [h1.2.1 c hc, h2.2.1 c hc]
/-- the same BOTTOM, if and only if they agree at all POINTS that are not INNER -/
theorem bots {w h : Nat} {U D : Nat → Bool} {K1 K2 M1 M2 : Nat → Nat} {n1 n2 : Nat} (hw : 1 ≤ w) (hw8 : w ≤ 8) (hh8 : h ≤ 8) (h1 : LL w U D (w * h) K1) (h2 : LL w U D (w * h) K2) (u1 : UpN w U D (w * h) false n1 K1 M1) (u2 : UpN w U D (w * h) false n2 K2 M2) (b1' : NoP w U D (w * h) false M1) (b2' : NoP w U D (w * h) false M2) :
    M1 = M2 ↔ ∀ x y, x ≤ w → y ≤ h → innB w U D (w * h) (y * w + x) = false → Dz w K1 K2 x y = 0 := by
  have e : ∀ x y, innB w U D (w * h) (y * w + x) = false → Dz w M1 M2 x y = Dz w K1 K2 x y := fun x y hi => by
    unfold Dz
    rw [UpN_Rg hw hi u1, UpN_Rg hw hi u2]
  constructor
  · intro q x y hx hy hi
    rw [← e x y hi, q]
    unfold Dz
    omega
  · intro q
    have L1 := UpN_LL hw u1 h1
    have L2 := UpN_LL hw u2 h2
    have z : ∀ x y, x ≤ w → y ≤ h → innB w U D (w * h) (y * w + x) = false → Dz w M1 M2 x y = 0 := fun x y hx hy hi => by rw [e x y hi]; exact q x y hx hy hi
    have a1 := bot_le hw hw8 hh8 L1 L2 b1' z
    have a2 := bot_le hw hw8 hh8 L2 L1 b2' (fun x y hx hy hi => by rw [Dz_swap, z x y hx hy hi]; rfl)
    refine Dz_eq hw L1 L2 (fun x y hx hy => ?_)
    have := a1 x y hx hy
    have := a2 x y hx hy
    have := Dz_swap w M1 M2 x y
    omega
