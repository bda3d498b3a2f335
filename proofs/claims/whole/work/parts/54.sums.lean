/-! ===== HALF 2: finite sums; the steps from cell to cell ===== -/
def sm (f : Nat → Nat) : Nat → Nat
  | 0 => 0
  | n + 1 => sm f n + f n
theorem sm_congr {f g : Nat → Nat} : ∀ {n : Nat}, (∀ i, i < n → f i = g i) → sm f n = sm g n
  | 0, _ => rfl
  | n + 1, h => by
    unfold sm
    rw [sm_congr (fun i hi => h i (by omega)), h n (by omega)]
theorem sm_zero : ∀ n, sm (fun _ => 0) n = 0
  | 0 => rfl
  | n + 1 => by unfold sm; rw [sm_zero n]
theorem sm_all0 {f : Nat → Nat} {n : Nat} (h : ∀ i, i < n → f i = 0) : sm f n = 0 := by rw [sm_congr h, sm_zero]
theorem sm_add (f g : Nat → Nat) : ∀ n, sm (fun i => f i + g i) n = sm f n + sm g n
  | 0 => rfl
  | n + 1 => by unfold sm; rw [sm_add f g n]; omega
theorem sm_mul (a : Nat) (f : Nat → Nat) : ∀ n, sm (fun i => a * f i) n = a * sm f n
  | 0 => rfl
  | n + 1 => by unfold sm; rw [sm_mul a f n, Nat.mul_add]
theorem sm_le {f g : Nat → Nat} : ∀ {n : Nat}, (∀ i, i < n → f i ≤ g i) → sm f n ≤ sm g n
  | 0, _ => Nat.le_refl 0
  | n + 1, h => by
    unfold sm
    have h1 := sm_le (n := n) (fun i hi => h i (by omega))
    have h2 := h n (by omega)
    omega
theorem sm_swap (f : Nat → Nat → Nat) (m : Nat) : ∀ n, sm (fun i => sm (fun j => f i j) m) n = sm (fun j => sm (fun i => f i j) n) m
  | 0 => by
    show 0 = _
    exact (sm_zero m).symm
  | n + 1 => by
    show sm (fun i => sm (fun j => f i j) m) n + sm (fun j => f n j) m = sm (fun j => sm (fun i => f i j) n + f n j) m
    rw [sm_swap f m n, sm_add]
theorem sm_one {f : Nat → Nat} {a : Nat} : ∀ {n : Nat}, a < n → (∀ i, i < n → i ≠ a → f i = 0) → sm f n = f a
  | 0, h, _ => by omega
  | n + 1, h, h0 => by
    unfold sm
    by_cases ha : a = n
    · subst ha
      rw [sm_all0 (fun i hi => h0 i (by omega) (by omega)), Nat.zero_add]
    · rw [sm_one (by omega) (fun i hi hne => h0 i (by omega) hne), h0 n (by omega) (fun z => ha z.symm), Nat.add_zero]
theorem sm_term {f : Nat → Nat} {a n : Nat} (h : a < n) : f a ≤ sm f n := by
  have h1 : sm (fun i => if i = a then f a else 0) n = f a := by
    rw [sm_one h (fun i _ hne => by simp [hne])]
    simp
  rw [← h1]
  refine sm_le (fun i _ => ?_)
  by_cases hi : i = a
  · subst hi; simp
  · simp [hi]
theorem sm_split (f : Nat → Nat) (a : Nat) : ∀ b, sm f (a + b) = sm f a + sm (fun i => f (a + i)) b
  | 0 => rfl
  | b + 1 => by
    show sm f (a + b) + f (a + b) = sm f a + (sm (fun i => f (a + i)) b + f (a + b))
    rw [sm_split f a b, Nat.add_assoc]
/-- the step: cell c, open set m, KIND k (3: its UP is OUT) -/
def Tr (w : Nat) (U D : Nat → Bool) (c m k : Nat) : Option Nat :=
  if k = 3 then if U c = false ∧ m.testBit (w - 1) = false then some (2 * m + (D c).toNat) else none
  else if U c = false then none
  else if k = 0 then if m.testBit (w - 1) = false ∧ D c = true then some (2 * m) else none
  else if k = 1 then if m.testBit (w - 1) = false ∧ c % w ≠ 0 ∧ m.testBit 0 = true then some (2 * (m - 1) + (D c).toNat) else none
  else if k = 2 then if m.testBit (w - 1) = true then some (2 * (m - 2 ^ (w - 1)) + (D c).toNat) else none
  else none
theorem top_bit {w m : Nat} (hw : 1 ≤ w) (hm : m < 2 ^ w) : (m.testBit (w - 1) = false ↔ m < 2 ^ (w - 1)) ∧ (m.testBit (w - 1) = true ↔ 2 ^ (w - 1) ≤ m) := by
  have e : 2 ^ w = 2 * 2 ^ (w - 1) := by
    have : w = (w - 1) + 1 := by omega
    rw [this, Nat.pow_succ]
    simp
    omega
  have h1 : m < 2 ^ (w - 1) → m.testBit (w - 1) = false := fun h => Nat.testBit_lt_two_pow h
  have h2 : 2 ^ (w - 1) ≤ m → m.testBit (w - 1) = true := by
    intro h
    rw [Nat.testBit_eq_decide_div_mod_eq]
    have : m / 2 ^ (w - 1) = 1 := by
      apply Nat.div_eq_of_lt_le <;> omega
    rw [this]
    decide
  refine ⟨⟨fun h => ?_, h1⟩, ⟨fun h => ?_, h2⟩⟩
  · rcases Nat.lt_or_ge m (2 ^ (w - 1)) with q | q
    · exact q
    · rw [h2 q] at h; cases h
  · rcases Nat.lt_or_ge m (2 ^ (w - 1)) with q | q
    · rw [h1 q] at h; cases h
    · exact q
theorem Tr_lt {w : Nat} {U D : Nat → Bool} {c m k m' : Nat} (hw : 1 ≤ w) (hm : m < 2 ^ w) (h : Tr w U D c m k = some m') : m' < 2 ^ w := by
  obtain ⟨t1, t2⟩ := top_bit hw hm
  have e : 2 ^ w = 2 * 2 ^ (w - 1) := by
    have : w = (w - 1) + 1 := by omega
    rw [this, Nat.pow_succ]
    simp
    omega
  have hd : (D c).toNat ≤ 1 := by cases D c <;> simp
  unfold Tr at h
  split at h
  · split at h
    · next q => cases h; have := t1.mp q.2; omega
    · cases h
  · split at h
    · cases h
    · split at h
      · split at h
        · next q => cases h; have := t1.mp q.1; omega
        · cases h
      · split at h
        · split at h
          · next q => cases h; have := t1.mp q.1; omega
          · cases h
        · split at h
          · split at h
            · next q => cases h; omega
            · cases h
          · cases h
/-- ways from cell c with r cells to go, the open set m -/
def Wr (w : Nat) (U D : Nat → Bool) : Nat → Nat → Nat → Nat
  | 0, _, m => if m = 0 then 1 else 0
  | r + 1, c, m => sm (fun k => match Tr w U D c m k with
    | none => 0
    | some m' => Wr w U D r (c + 1) m') 4
def ov (o : Option Nat) (f : Nat → Nat) : Nat := match o with
  | none => 0
  | some m => f m
theorem Wr_succ (w : Nat) (U D : Nat → Bool) (r c m : Nat) : Wr w U D (r + 1) c m = sm (fun k => ov (Tr w U D c m k) (Wr w U D r (c + 1))) 4 := rfl
theorem Wr_zero (w : Nat) (U D : Nat → Bool) (c m : Nat) : Wr w U D 0 c m = if m = 0 then 1 else 0 := rfl
/-- which cells leave a choice -/
def chc (w c r : Nat) : Nat := cnt (fun i => decide ((c + i) % w ≠ 0)) r
theorem chc_succ (w c r : Nat) : chc w c (r + 1) = (if c % w ≠ 0 then 1 else 0) + chc w (c + 1) r := by
  unfold chc
  have h := cnt_add (fun i => decide ((c + i) % w ≠ 0)) 1 r
  rw [Nat.add_comm 1 r] at h
  rw [h]
  congr 1
  · simp [cnt]
  · exact cnt_congr (fun i _ => by rw [Nat.add_assoc c 1 i])
theorem sm4 (f : Nat → Nat) : sm f 4 = f 0 + f 1 + f 2 + f 3 := by
  show 0 + f 0 + f 1 + f 2 + f 3 = _
  omega
theorem Tr_out {w : Nat} {U D : Nat → Bool} {c m k : Nat} (hU : U c = false) (hk : k ≠ 3) : Tr w U D c m k = none := by
  unfold Tr
  rw [if_neg hk, if_pos hU]
theorem Tr_in3 {w : Nat} {U D : Nat → Bool} {c m : Nat} (hU : U c = true) : Tr w U D c m 3 = none := by
  unfold Tr
  rw [if_pos rfl, if_neg (by simp [hU])]
theorem Tr_last {w : Nat} {U D : Nat → Bool} {c m k : Nat} (hm : m.testBit (w - 1) = true) (hk : k ≠ 2) : Tr w U D c m k = none := by
  unfold Tr
  by_cases h3 : k = 3
  · rw [if_pos h3, if_neg (by simp [hm])]
  · rw [if_neg h3]
    by_cases hU : U c = false
    · rw [if_pos hU]
    · rw [if_neg hU]
      by_cases h0 : k = 0
      · rw [if_pos h0, if_neg (by simp [hm])]
      · rw [if_neg h0]
        by_cases h1 : k = 1
        · rw [if_pos h1, if_neg (by simp [hm])]
        · rw [if_neg h1, if_neg hk]
theorem Tr_no2 {w : Nat} {U D : Nat → Bool} {c m : Nat} (hm : m.testBit (w - 1) = false) : Tr w U D c m 2 = none := by
  unfold Tr
  by_cases hU : U c = false
  · simp [hU]
  · simp [hU, hm]
theorem Tr_no1 {w : Nat} {U D : Nat → Bool} {c m : Nat} (hc : c % w = 0) : Tr w U D c m 1 = none := by
  unfold Tr
  by_cases hU : U c = false
  · simp [hU]
  · simp [hU, hc]
theorem ov_le {o : Option Nat} {f : Nat → Nat} {B : Nat} (h : ∀ m, f m ≤ B) : ov o f ≤ B := by
  cases o with
  | none => exact Nat.zero_le _
  | some m => exact h m
theorem Wr_le (w : Nat) (U D : Nat → Bool) : ∀ (r c m : Nat), Wr w U D r c m ≤ 2 ^ chc w c r
  | 0, c, m => by
    rw [Wr_zero]
    show _ ≤ 2 ^ 0
    split <;> simp
  | r + 1, c, m => by
    have ih := Wr_le w U D r (c + 1)
    rw [Wr_succ, sm4, chc_succ]
    rw [Nat.pow_add]
    generalize Wr w U D r (c + 1) = f at *
    generalize 2 ^ chc w (c + 1) r = B at *
    have hp : B ≤ 2 ^ (if c % w ≠ 0 then 1 else 0) * B := Nat.le_mul_of_pos_left _ (Nat.pow_pos (by decide))
    have b0 : ov (Tr w U D c m 0) f ≤ B := ov_le ih
    have b1 : ov (Tr w U D c m 1) f ≤ B := ov_le ih
    have b2 : ov (Tr w U D c m 2) f ≤ B := ov_le ih
    have b3 : ov (Tr w U D c m 3) f ≤ B := ov_le ih
    cases hU : U c with
    | false =>
      rw [Tr_out hU (k := 0) (by decide), Tr_out hU (k := 1) (by decide), Tr_out hU (k := 2) (by decide)]
      show 0 + 0 + 0 + _ ≤ _
      omega
    | true =>
      rw [Tr_in3 hU]
      cases hl : m.testBit (w - 1) with
      | true =>
        rw [Tr_last hl (k := 0) (by decide), Tr_last hl (k := 1) (by decide)]
        show 0 + 0 + _ + 0 ≤ _
        omega
      | false =>
        rw [Tr_no2 hl]
        by_cases hc : c % w = 0
        · rw [Tr_no1 hc]
          show _ + 0 + 0 + 0 ≤ _
          omega
        · rw [if_pos hc]
          show _ + _ + 0 + 0 ≤ 2 ^ 1 * B
          omega
theorem chc_add (w a b : Nat) : chc w 0 (a + b) = chc w 0 a + chc w a b := by
  unfold chc
  rw [cnt_add]
  congr 1
  exact cnt_congr (fun i _ => by simp)
theorem chc_56 : ∀ w, w ≤ 8 → ∀ h, h ≤ 8 → chc w 0 (w * h) ≤ 56 := by decide +kernel
theorem Wr_56 {w h : Nat} {U D : Nat → Bool} (hw : w ≤ 8) (hh : h ≤ 8) {r c : Nat} (hc : c + r = w * h) (m : Nat) : Wr w U D r c m ≤ 2 ^ 56 := by
  have h1 := Wr_le w U D r c m
  have h2 := chc_add w c r
  have h3 := chc_56 w hw h hh
  rw [hc] at h2
  exact Nat.le_trans h1 (Nat.pow_le_pow_right (by decide) (by omega))
/-- ways from the start to cell c with the open set m -/
def Cm (w : Nat) (U D : Nat → Bool) : Nat → Nat → Nat
  | 0, m => if m = 0 then 1 else 0
  | c + 1, m' => sm (fun m => sm (fun k => if Tr w U D c m k = some m' then Cm w U D c m else 0) 4) (2 ^ w)
theorem Cm_succ (w : Nat) (U D : Nat → Bool) (c m' : Nat) : Cm w U D (c + 1) m' = sm (fun m => sm (fun k => if Tr w U D c m k = some m' then Cm w U D c m else 0) 4) (2 ^ w) := rfl
/-- what goes through cell c is all -/
theorem Cm_Wr {w : Nat} {U D : Nat → Bool} (hw : 1 ≤ w) (r : Nat) (c : Nat) : sm (fun m' => Cm w U D (c + 1) m' * Wr w U D r (c + 1) m') (2 ^ w) = sm (fun m => Cm w U D c m * Wr w U D (r + 1) c m) (2 ^ w) := by
  have h1 : ∀ m', Cm w U D (c + 1) m' * Wr w U D r (c + 1) m' = sm (fun m => sm (fun k => (if Tr w U D c m k = some m' then Cm w U D c m else 0) * Wr w U D r (c + 1) m') 4) (2 ^ w) := by
    intro m'
    rw [Cm_succ, Nat.mul_comm, ← sm_mul]
    refine sm_congr (fun m _ => ?_)
    rw [← sm_mul]
    exact sm_congr (fun k _ => Nat.mul_comm _ _)
  rw [sm_congr (fun m' _ => h1 m'), sm_swap]
  refine sm_congr (fun m hm => ?_)
  rw [sm_swap, Wr_succ, ← sm_mul]
  refine sm_congr (fun k _ => ?_)
  cases ht : Tr w U D c m k with
  | none => exact sm_all0 (fun m' _ => by simp)
  | some a =>
    have ha := Tr_lt hw hm ht
    rw [sm_one ha (fun i _ hi => by rw [if_neg (by simp; exact fun z => hi z.symm), Nat.zero_mul])]
    rw [if_pos rfl]
    rfl
theorem Cm_total {w : Nat} {U D : Nat → Bool} (hw : 1 ≤ w) : ∀ (c r : Nat), sm (fun m => Cm w U D c m * Wr w U D r c m) (2 ^ w) = Wr w U D (c + r) 0 0
  | 0, r => by
    rw [Nat.zero_add, sm_one (a := 0) (Nat.pow_pos (by decide)) (fun i _ hi => by rw [show Cm w U D 0 i = if i = 0 then 1 else 0 from rfl, if_neg hi, Nat.zero_mul])]
    rw [show Cm w U D 0 0 = 1 from rfl, Nat.one_mul]
  | c + 1, r => by
    rw [Cm_Wr hw, Cm_total hw c (r + 1)]
    congr 1
    omega
/-- how many ways have KIND k at cell c -/
def With (w : Nat) (U D : Nat → Bool) (r c k : Nat) : Nat := sm (fun m => Cm w U D c m * ov (Tr w U D c m k) (Wr w U D r (c + 1))) (2 ^ w)
theorem With_le {w : Nat} {U D : Nat → Bool} (hw : 1 ≤ w) (r c : Nat) {k : Nat} (hk : k < 4) : With w U D r c k ≤ Wr w U D (c + (r + 1)) 0 0 := by
  rw [← Cm_total hw c (r + 1)]
  refine sm_le (fun m _ => Nat.mul_le_mul_left _ ?_)
  rw [Wr_succ]
  exact sm_term (f := fun k => ov (Tr w U D c m k) (Wr w U D r (c + 1))) hk
