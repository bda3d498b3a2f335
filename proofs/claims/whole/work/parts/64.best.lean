/-! ===== HALF 2: the best WORTH, in the reference ===== -/
def iZ (z : Int) : Int32 := Int32.ofInt z
theorem iZ_add (a b : Int) : iZ a + iZ b = iZ (a + b) := (Int32.ofInt_add a b).symm
theorem iZ_le {a b : Int} (ha : -1000000000 ≤ a ∧ a ≤ 1000000000) (hb : -1000000000 ≤ b ∧ b ≤ 1000000000) : iZ a ≤ iZ b ↔ a ≤ b :=
  Int32.ofInt_le_iff_le (by show (-2147483648 : Int) ≤ a; omega) (by show a ≤ (2147483647 : Int); omega) (by show (-2147483648 : Int) ≤ b; omega) (by show b ≤ (2147483647 : Int); omega)
theorem iZ_lt {a b : Int} (ha : -1000000000 ≤ a ∧ a ≤ 1000000000) (hb : -1000000000 ≤ b ∧ b ≤ 1000000000) : iZ a < iZ b ↔ a < b :=
  Int32.ofInt_lt_iff_lt (by show (-2147483648 : Int) ≤ a; omega) (by show a ≤ (2147483647 : Int); omega) (by show (-2147483648 : Int) ≤ b; omega) (by show b ≤ (2147483647 : Int); omega)
theorem iZ_eq {a b : Int} (ha : -1000000000 ≤ a ∧ a ≤ 1000000000) (hb : -1000000000 ≤ b ∧ b ≤ 1000000000) : iZ a = iZ b ↔ a = b := by
  refine ⟨fun h => ?_, fun h => by rw [h]⟩
  have h1 := (iZ_le ha hb).mp (by rw [h]; exact Int32.le_refl _)
  have h2 := (iZ_le hb ha).mp (by rw [h]; exact Int32.le_refl _)
  omega
/-- the greater of two, none being the least -/
def oM : Option Int → Option Int → Option Int
  | none, b => b
  | some a, none => some a
  | some a, some b => some (if b ≤ a then a else b)
def om (f : Nat → Option Int) : Nat → Option Int
  | 0 => none
  | n + 1 => oM (om f n) (f n)
def oA (o : Option Nat) (f : Nat → Option Int) (v : Int) : Option Int := match o with
  | none => none
  | some m => match f m with
    | none => none
    | some z => some (z + v)
def Bs (w : Nat) (U D : Nat → Bool) (wt : Nat → Nat → Int) : Nat → Nat → Nat → Option Int
  | 0, _, m => if m = 0 then some 0 else none
  | r + 1, c, m => om (fun k => oA (Tr w U D c m k) (Bs w U D wt r (c + 1)) (wt c k)) 4
def oZ (o : Option Int) : Int32 := match o with
  | none => -900009
  | some z => iZ z
def oB (o : Option Int) (B : Int) : Prop := ∀ z, o = some z → -B ≤ z ∧ z ≤ B
theorem oM_B {a b : Option Int} {B : Int} (ha : oB a B) (hb : oB b B) : oB (oM a b) B := by
  intro z hz
  cases a with
  | none => exact hb z hz
  | some a =>
    cases b with
    | none => exact ha z hz
    | some b =>
      have h1 := ha a rfl
      have h2 := hb b rfl
      have hz' : (if b ≤ a then a else b) = z := Option.some.inj hz
      split at hz' <;> omega
theorem om_B {f : Nat → Option Int} {B : Int} : ∀ {n : Nat}, (∀ k, k < n → oB (f k) B) → oB (om f n) B
  | 0, _ => fun z hz => by cases hz
  | n + 1, h => oM_B (om_B (fun k hk => h k (by omega))) (h n (by omega))
theorem oA_B {o : Option Nat} {f : Nat → Option Int} {v B C : Int} (hf : ∀ m, oB (f m) B) (hv : -C ≤ v ∧ v ≤ C) : oB (oA o f v) (B + C) := by
  intro z hz
  cases o with
  | none => cases hz
  | some m =>
    have h1 := hf m
    simp only [oA] at hz
    cases hm : f m with
    | none => rw [hm] at hz; cases hz
    | some y =>
      rw [hm] at hz
      have h2 := h1 y hm
      have h3 : y + v = z := Option.some.inj hz
      omega
theorem Bs_B {w : Nat} {U D : Nat → Bool} {wt : Nat → Nat → Int} (hwt : ∀ c k, -99 ≤ wt c k ∧ wt c k ≤ 99) : ∀ (r c m : Nat), oB (Bs w U D wt r c m) (99 * r)
  | 0, c, m => by
    intro z hz
    unfold Bs at hz
    split at hz
    · have : (0 : Int) = z := Option.some.inj hz
      omega
    · cases hz
  | r + 1, c, m => by
    have h1 : oB (Bs w U D wt (r + 1) c m) (99 * r + 99) := om_B (fun k _ => oA_B (fun m => Bs_B hwt r (c + 1) m) (hwt c k))
    intro z hz
    have := h1 z hz
    omega
theorem oM_none {a b : Option Int} : oM a b = none ↔ a = none ∧ b = none := by
  cases a <;> cases b <;> simp [oM]
theorem om_none {f : Nat → Option Int} : ∀ {n : Nat}, om f n = none ↔ ∀ k, k < n → f k = none
  | 0 => by simp [om]
  | n + 1 => by
    show oM _ _ = none ↔ _
    rw [oM_none, om_none (n := n)]
    refine ⟨fun h k hk => ?_, fun h => ⟨fun k hk => h k (by omega), h n (by omega)⟩⟩
    by_cases e : k = n
    · rw [e]; exact h.2
    · exact h.1 k (by omega)
theorem sm_0 {f : Nat → Nat} {n : Nat} : sm f n = 0 ↔ ∀ k, k < n → f k = 0 := by
  refine ⟨fun h k hk => ?_, fun h => sm_all0 h⟩
  have := sm_term (f := f) hk
  omega
theorem oA_none {o : Option Nat} {f : Nat → Option Int} {v : Int} : oA o f v = none ↔ ∀ m, o = some m → f m = none := by
  cases o with
  | none => simp [oA]
  | some m =>
    simp only [oA, Option.some.injEq, forall_eq']
    cases f m <;> simp
theorem Bs_none {w : Nat} {U D : Nat → Bool} {wt : Nat → Nat → Int} : ∀ {r c m : Nat}, Bs w U D wt r c m = none ↔ Wr w U D r c m = 0
  | 0, c, m => by
    rw [Wr_zero]
    unfold Bs
    split <;> simp
  | r + 1, c, m => by
    rw [Wr_succ, sm_0]
    show om _ 4 = none ↔ _
    rw [om_none]
    refine forall_congr' (fun k => forall_congr' (fun hk => ?_))
    rw [oA_none]
    cases ht : Tr w U D c m k with
    | none => simp [ov]
    | some a =>
      simp only [Option.some.injEq, forall_eq', ov]
      exact Bs_none
theorem oZ_max {a b : Option Int} (ha : oB a 800000) (hb : oB b 800000) : (if oZ b ≤ oZ a then oZ a else oZ b) = oZ (oM a b) := by
  have low : ∀ z : Int, -800000 ≤ z ∧ z ≤ 800000 → ¬ iZ z ≤ -900009 ∧ (-900009 : Int32) ≤ iZ z := by
    intro z hz
    have e : (-900009 : Int32) = iZ (-900009) := rfl
    rw [e, iZ_le (by omega) (by omega), iZ_le (by omega) (by omega)]
    omega
  cases a with
  | none =>
    cases b with
    | none => rfl
    | some b =>
      have := low b (hb b rfl)
      show (if iZ b ≤ -900009 then _ else iZ b) = iZ b
      rw [if_neg this.1]
  | some a =>
    cases b with
    | none =>
      have := low a (ha a rfl)
      show (if -900009 ≤ iZ a then iZ a else _) = iZ a
      rw [if_pos this.2]
    | some b =>
      have h1 := ha a rfl
      have h2 := hb b rfl
      show (if iZ b ≤ iZ a then iZ a else iZ b) = iZ (if b ≤ a then a else b)
      by_cases h : b ≤ a
      · rw [if_pos h, if_pos ((iZ_le (by omega) (by omega)).mpr h)]
      · rw [if_neg h, if_neg (fun z => h ((iZ_le (by omega) (by omega)).mp z))]
theorem oZ_none {a : Option Int} (ha : oB a 800000) : oZ a = -900009 ↔ a = none := by
  cases a with
  | none => simp [oZ]
  | some z =>
    have := ha z rfl
    show iZ z = iZ (-900009) ↔ _
    rw [iZ_eq (by omega) (by omega)]
    simp
    omega
