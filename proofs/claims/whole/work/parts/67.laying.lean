/-! ===== HALF 2: LAYINGS in the class ===== -/
def putV (x b : Int64) (y : Bool) : Int64 := if y = true then x ||| b else x &&& (b ^^^ (-1))
theorem tb_putV (x b : Int64) (y : Bool) {i : Nat} (hi : i < 64) : tb (putV x b y) i = if tb b i = true then y else tb x i := by
  unfold putV
  cases y with
  | true =>
    rw [if_pos rfl, tb_or]
    cases tb b i <;> simp
  | false =>
    rw [if_neg (by decide), tb_and, tb_not _ hi]
    cases tb b i <;> simp
def putS (σ : St) (q : Nat) (b : Int64) (k : Nat) : St := sl (sl (sl σ q 1 (putV (gl σ q 1) b (k == 0))) q 2 (putV (gl σ q 2) b (k == 1))) q 3 (putV (gl σ q 3) b (k == 2))
theorem s_put (q : Nat) (b : Int64) {k : Nat} (hk : k < 3) (σ : St) : f_X2_put q b (nI k) σ = some ((), putS σ q b k) := by
  have r2 : ∀ v, gl (sl σ q 1 v) q 2 = gl σ q 2 := fun v => gl_sl_ne _ _ _ _ (by omega)
  have r3 : ∀ v u, gl (sl (sl σ q 1 v) q 2 u) q 3 = gl σ q 3 := fun v u => by rw [gl_sl_ne _ _ _ _ (by omega), gl_sl_ne _ _ _ _ (by omega)]
  unfold f_X2_put f_X2_put_24 f_X2_put_52 f_X2_put_80 putS putV
  rcases (show k = 0 ∨ k = 1 ∨ k = 2 by omega) with e | e | e <;> subst e
  · rw [if_pos (show nI 0 = 0 by decide), fL_at, if_neg (show ¬ nI 0 = 1 by decide), fL_at, if_neg (show ¬ nI 0 = 2 by decide), fL_at, r2, r3]
    rfl
  · rw [if_neg (show ¬ nI 1 = 0 by decide), fL_at, if_pos (show nI 1 = 1 by decide), fL_at, if_neg (show ¬ nI 1 = 2 by decide), fL_at, r2, r3]
    rfl
  · rw [if_neg (show ¬ nI 2 = 0 by decide), fL_at, if_neg (show ¬ nI 2 = 1 by decide), fL_at, if_pos (show nI 2 = 2 by decide), fL_at, r2, r3]
    rfl
theorem gl_putS (σ : St) (q : Nat) (b : Int64) (k : Nat) {j : Nat} (hj : j < 3) : gl (putS σ q b k) q (j + 1) = putV (gl σ q (j + 1)) b (k == j) := by
  unfold putS
  rw [gl_sl, gl_sl, gl_sl]
  rcases (show j = 0 ∨ j = 1 ∨ j = 2 by omega) with e | e | e <;> subst e <;> simp
theorem putS_eqx (σ : St) (q : Nat) (b : Int64) (k : Nat) : eqx (fun p => p = q) σ (putS σ q b k) := eqx.sl (eqx.sl (eqx.sl eqx.rf rfl) rfl) rfl
theorem putS_1 (σ : St) (q : Nat) (b : Int64) (k : Nat) : (putS σ q b k).1 = σ.1 := rfl
/-- the Laying p holds the KINDS K of the UP below N -/
def LC (σ : St) (p N : Nat) (U : Nat → Bool) (K : Nat → Nat) : Prop := ∀ c, c < 64 → ∀ k, k < 3 → tb (gl σ p (k + 1)) c = decide (c < N ∧ U c = true ∧ K c = k)
theorem s_kindAt {σ : St} {p N : Nat} {U : Nat → Bool} {K : Nat → Nat} (h : LC σ p N U K) {c : Nat} (hc : c < 64) (hN : c < N) (hK : U c = true → K c < 3) : f_X2_kindAt p (nI c) σ = some (if U c = true then nI (K c) else -1, σ) := by
  unfold f_X2_kindAt f_X2_kindAt_48
  have h0 := h c hc 0 (by decide)
  have h1 := h c hc 1 (by decide)
  have h2 := h c hc 2 (by decide)
  rw [show 0 + 1 = 1 from rfl] at h0
  rw [show 1 + 1 = 2 from rfl] at h1
  rw [show 2 + 1 = 3 from rfl] at h2
  have t0 := tb_read (gl σ p 1) hc
  have t1 := tb_read (gl σ p 2) hc
  have t2 := tb_read (gl σ p 3) hc
  rw [h0] at t0
  rw [h1] at t1
  rw [h2] at t2
  cases hU : U c with
  | false =>
    rw [if_pos (t0.mpr (by simp [hU])), if_pos (t1.mpr (by simp [hU])), if_pos (t2.mpr (by simp [hU]))]
    rfl
  | true =>
    have hk := hK hU
    rcases (show K c = 0 ∨ K c = 1 ∨ K c = 2 by omega) with e | e | e
    · rw [if_neg (fun z => by have := t0.mp z; simp [hU, e, hN] at this), e]; rfl
    · rw [if_pos (t0.mpr (by simp [e])), if_neg (fun z => by have := t1.mp z; simp [hU, e, hN] at this), e]; rfl
    · rw [if_pos (t0.mpr (by simp [e])), if_pos (t1.mpr (by simp [e])), if_neg (fun z => by have := t2.mp z; simp [hU, e, hN] at this), e]; rfl
def clrS (σ : St) (q : Nat) : St := sl (sl (sl (si σ q 0 0) q 1 0) q 2 0) q 3 0
theorem s_clr (q : Nat) (σ : St) : f_X2_clear q σ = some ((), clrS σ q) := rfl
theorem clrS_LC (σ : St) (q : Nat) (U : Nat → Bool) (K : Nat → Nat) : LC (clrS σ q) q 0 U K := by
  intro c hc k hk
  have : gl (clrS σ q) q (k + 1) = 0 := by
    unfold clrS
    rw [gl_sl, gl_sl, gl_sl]
    rcases (show k = 0 ∨ k = 1 ∨ k = 2 by omega) with e | e | e <;> subst e <;> simp
  rw [this, tb_0]
  simp
/-- a further UP's KIND -/
theorem LC_put {σ : St} {p N : Nat} {U : Nat → Bool} {K : Nat → Nat} (h : LC σ p N U K) (hN : N < 64) (hU : U N = true) : LC (putS σ p (lshl 1 (nI N)) (K N)) p (N + 1) U K := by
  intro c hc k hk
  rw [gl_putS _ _ _ _ hk, tb_putV _ _ _ hc, tb_bit hN, h c hc k hk]
  by_cases e : c = N
  · subst e
    simp [hU]
    by_cases z : K c = k <;> simp [z]
  · rw [if_neg (by simp [e])]
    exact decide_eq_decide.mpr ⟨fun z => ⟨by omega, z.2⟩, fun z => ⟨by omega, z.2⟩⟩
theorem LC_out {σ : St} {p N : Nat} {U : Nat → Bool} {K : Nat → Nat} (h : LC σ p N U K) (hU : U N = false) : LC σ p (N + 1) U K := by
  intro c hc k hk
  rw [h c hc k hk]
  by_cases e : c = N
  · subst e; simp [hU]
  · exact decide_eq_decide.mpr ⟨fun z => ⟨by omega, z.2⟩, fun z => ⟨by omega, z.2⟩⟩
theorem LC.keep {P : Nat → Prop} {σ τ : St} {p N : Nat} {U : Nat → Bool} {K : Nat → Nat} (h : LC σ p N U K) (he : eqx P σ τ) (hp : ¬ P p) : LC τ p N U K := fun c hc k hk => by
  rw [(he p hp _).2]
  exact h c hc k hk
