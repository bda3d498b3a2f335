/-! ===== HALF 2: product ===== -/
/-- what neither reads nor changes the state -/
def Pu {α : Type} (f : St → Option (α × St)) : Prop := ∃ r : Option α, ∀ σ, f σ = r.map (fun v => (v, σ))
section PUR
variable {α β : Type}
theorem Pu.sm (v : α) : Pu (fun σ => some (v, σ)) := ⟨some v, fun _ => rfl⟩
theorem Pu.no : Pu (fun _ => (none : Option (α × St))) := ⟨none, fun _ => rfl⟩
theorem Pu.ite {f g : St → Option (α × St)} {p : Prop} [Decidable p] (hf : Pu f) (hg : Pu g) : Pu (fun σ => if p then f σ else g σ) := by
  by_cases h : p
  · obtain ⟨r, hr⟩ := hf
    exact ⟨r, fun σ => by rw [← hr σ]; exact if_pos h⟩
  · obtain ⟨r, hr⟩ := hg
    exact ⟨r, fun σ => by rw [← hr σ]; exact if_neg h⟩
theorem Pu.bd {f : St → Option (β × St)} {g : β → St → Option (α × St)} (hf : Pu f) (hg : ∀ v, Pu (g v)) : Pu (fun σ => bd (f σ) g) := by
  obtain ⟨r, hr⟩ := hf
  cases r with
  | none => exact ⟨none, fun σ => by dsimp only; rw [hr σ]; rfl⟩
  | some v =>
    obtain ⟨s, hs⟩ := hg v
    refine ⟨s, fun σ => ?_⟩
    dsimp only
    rw [← hs σ, hr σ]
    rfl
theorem Pu.rdP {k : Int32 → St → Option (α × St)} (i : Int32) (h : ∀ v, Pu (k v)) : Pu (fun σ => rdP i fun v => k v σ) := Pu.ite Pu.no (h _)
theorem Pu.rmI {k : Int32 → St → Option (α × St)} (a b : Int32) (h : ∀ v, Pu (k v)) : Pu (fun σ => rmI a b fun v => k v σ) := Pu.ite Pu.no (h _)
theorem Pu.rmL {k : Int64 → St → Option (α × St)} (a b : Int64) (h : ∀ v, Pu (k v)) : Pu (fun σ => rmL a b fun v => k v σ) := Pu.ite Pu.no (h _)
theorem Pu.dvL {k : Int64 → St → Option (α × St)} (a b : Int64) (h : ∀ v, Pu (k v)) : Pu (fun σ => dvL a b fun v => k v σ) := Pu.ite Pu.no (h _)
end PUR
theorem pu_powerIn4 : ∀ (n : Nat) (x0 x1 x2 x3 : Int32), Pu (f_X5_powerIn_4 n x0 x1 x2 x3)
  | 0, _, _, _, _ => Pu.no
  | n + 1, x0, x1, x2, x3 => Pu.ite (Pu.sm x2) (Pu.ite (Pu.sm x2) (Pu.rmI x0 x3 (fun v => Pu.ite (pu_powerIn4 n x0 x1 (x2 + 1) (x3 * x1)) (Pu.sm x2))))
theorem pu_pip15 (k6 : Int32 → Int32 → Int32 → Int32 → Int32 → Int32 → St → Option (Int32 × St)) (hk : ∀ a b c d e f, Pu (k6 a b c d e f)) : ∀ (n : Nat) (x0 x1 x2 x3 x4 x5 x6 : Int32), Pu (f_X5_powerInProduct_15 k6 n x0 x1 x2 x3 x4 x5 x6)
  | 0, _, _, _, _, _, _, _ => Pu.no
  | n + 1, x0, x1, x2, x3, x4, x5, x6 => Pu.ite (hk x0 x1 x2 x3 x4 (x5 + 1)) (Pu.bd (pu_powerIn4 FU (((x5 + x6) + x2) - 1) x3 0 x3) (fun v1 => Pu.bd (pu_powerIn4 FU ((x5 + x6) - 1) x3 0 x3) (fun v3 => pu_pip15 k6 hk n x0 x1 x2 x3 (x4 + (v1 - v3)) x5 (x6 + 1))))
theorem pu_pip6 : ∀ (n : Nat) (x0 x1 x2 x3 x4 x5 : Int32), Pu (f_X5_powerInProduct_6 n x0 x1 x2 x3 x4 x5)
  | 0, _, _, _, _, _, _ => Pu.no
  | n + 1, x0, x1, x2, x3, x4, x5 => Pu.ite (Pu.sm x4) (pu_pip15 (f_X5_powerInProduct_6 n) (pu_pip6 n) FU x0 x1 x2 x3 x4 x5 1)
theorem pu_p56 (k29 : Int32 → Int32 → Int32 → Int64 → Int32 → Int32 → St → Option (Int64 × St)) (hk : ∀ a b c d e f, Pu (k29 a b c d e f)) : ∀ (n : Nat) (x1 x2 x3 : Int32) (x4 : Int64) (x7 x8 x9 x10 x11 : Int32), Pu (f_X5_product_56 k29 n x1 x2 x3 x4 x7 x8 x9 x10 x11)
  | 0, _, _, _, _, _, _, _, _, _ => Pu.no
  | n + 1, x1, x2, x3, x4, x7, x8, x9, x10, x11 => Pu.ite (hk x1 x2 x3 x4 x7 (x8 + 1)) (pu_p56 k29 hk n x1 x2 x3 (x4 * x9.toInt64) x7 x8 x9 x10 (x11 + 1))
theorem pu_p29 : ∀ (n : Nat) (x1 x2 x3 : Int32) (x4 : Int64) (x7 x8 : Int32), Pu (f_X5_product_29 n x1 x2 x3 x4 x7 x8)
  | 0, _, _, _, _, _, _ => Pu.no
  | n + 1, x1, x2, x3, x4, x7, x8 => Pu.ite (Pu.sm x4) (Pu.rdP x8 (fun v1 => Pu.bd (pu_pip6 FU x1 x2 x3 v1 0 1) (fun v2 => pu_p56 (f_X5_product_29 n) (pu_p29 n) FU x1 x2 x3 x4 x7 x8 v1 v2 0)))
theorem pu_com6 : ∀ (n : Nat) (x4 x6 : Int64), Pu (f_X6_common_6 n x4 x6)
  | 0, _, _ => Pu.no
  | n + 1, x4, x6 => Pu.ite (Pu.sm x4) (Pu.rmL x4 x6 (fun v1 => pu_com6 n x6 v1))
theorem pu_q40 (k31 : Int32 → Int32 → Int32 → Int64 → Int64 → Int32 → Int32 → St → Option (Int64 × St)) (hk : ∀ a b c d e f g, Pu (k31 a b c d e f g)) : ∀ (n : Nat) (x1 x2 x3 : Int32) (x4 x6 : Int64) (x8 x9 x10 : Int32), Pu (f_X6_product_40 k31 n x1 x2 x3 x4 x6 x8 x9 x10)
  | 0, _, _, _, _, _, _, _, _ => Pu.no
  | n + 1, x1, x2, x3, x4, x6, x8, x9, x10 => Pu.ite (hk x1 x2 x3 x4 x6 x8 (x9 + 1)) (Pu.bd (pu_com6 FU _ _) (fun v1 => Pu.dvL _ v1 (fun v3 => Pu.dvL _ v1 (fun v4 => pu_q40 k31 hk n x1 x2 x3 v3 v4 x8 x9 (x10 + 1)))))
theorem pu_q31 (k22 : Int32 → Int32 → Int32 → Int64 → Int64 → Int32 → St → Option (Int64 × St)) (hk : ∀ a b c d e f, Pu (k22 a b c d e f)) : ∀ (n : Nat) (x1 x2 x3 : Int32) (x4 x6 : Int64) (x8 x9 : Int32), Pu (f_X6_product_31 k22 n x1 x2 x3 x4 x6 x8 x9)
  | 0, _, _, _, _, _, _, _ => Pu.no
  | n + 1, x1, x2, x3, x4, x6, x8, x9 => Pu.ite (hk x1 x2 x3 x4 x6 (x8 + 1)) (pu_q40 (f_X6_product_31 k22 n) (pu_q31 k22 hk n) FU x1 x2 x3 x4 x6 x8 x9 1)
theorem pu_q22 : ∀ (n : Nat) (x1 x2 x3 : Int32) (x4 x6 : Int64) (x8 : Int32), Pu (f_X6_product_22 n x1 x2 x3 x4 x6 x8)
  | 0, _, _, _, _, _, _ => Pu.no
  | n + 1, x1, x2, x3, x4, x6, x8 => Pu.ite (Pu.sm x4) (pu_q31 (f_X6_product_22 n) (pu_q22 n) FU x1 x2 x3 x4 x6 x8 1)
def st0 : St := (fun _ _ => 0, fun _ _ => 0)
def v5P (a b c : Nat) : Option Int64 := (f_X5_product_29 FU (nI a) (nI b) (nI c) 1 6 0 st0).map Prod.fst
def v6P (a b c : Nat) : Option Int64 := (f_X6_product_22 FU (nI a) (nI b) (nI c) 1 1 1 st0).map Prod.fst
def okP3 (c : Nat) : Bool := (List.range (8 - c)).all fun i => (List.range (8 - c)).all fun j => decide (v5P (i + 1) (j + 1) c = v6P (i + 1) (j + 1) c) && (v5P (i + 1) (j + 1) c).isSome
theorem prod_7 : okP3 7 = true := by decide +kernel
theorem prod_6 : okP3 6 = true := by decide +kernel
theorem prod_5 : okP3 5 = true := by decide +kernel
theorem prod_4 : okP3 4 = true := by decide +kernel
theorem prod_3 : okP3 3 = true := by decide +kernel
theorem prod_2 : okP3 2 = true := by decide +kernel
theorem prod_1 : okP3 1 = true := by decide +kernel
theorem prod_all {a b c : Nat} (ha : 1 ≤ a) (hb : 1 ≤ b) (hc : 1 ≤ c) (hac : a + c ≤ 8) (hbc : b + c ≤ 8) : ∃ v, v5P a b c = some v ∧ v6P a b c = some v := by
  have h : okP3 c = true := by
    rcases (show c = 1 ∨ c = 2 ∨ c = 3 ∨ c = 4 ∨ c = 5 ∨ c = 6 ∨ c = 7 by omega) with e | e | e | e | e | e | e <;> subst e
    · exact prod_1
    · exact prod_2
    · exact prod_3
    · exact prod_4
    · exact prod_5
    · exact prod_6
    · exact prod_7
  unfold okP3 at h
  rw [List.all_eq_true] at h
  have h1 := h (a - 1) (List.mem_range.mpr (by omega))
  rw [List.all_eq_true] at h1
  have h2 := h1 (b - 1) (List.mem_range.mpr (by omega))
  rw [Nat.sub_add_cancel ha, Nat.sub_add_cancel hb, Bool.and_eq_true, decide_eq_true_iff] at h2
  obtain ⟨e1, e2⟩ := h2
  cases hv : v5P a b c with
  | none => rw [hv] at e2; cases e2
  | some v => exact ⟨v, rfl, by rw [← e1, hv]⟩
theorem Pu.at {α : Type} {f : St → Option (α × St)} {v : α} {τ : St} (hf : Pu f) (h : (f τ).map Prod.fst = some v) (σ : St) : f σ = some (v, σ) := by
  obtain ⟨r, hr⟩ := hf
  rw [hr τ] at h
  cases r with
  | none => cases h
  | some u =>
    have e : u = v := Option.some.inj h
    rw [hr σ, e]
    rfl
theorem m_product {σ : St} {w h : Nat} {U D : Nat → Bool} {wt : Nat → Nat → Int} (h0 : RZ σ w h U D wt) (x y z : Int32) : Both (f_X5_product x y z) (f_X6_product x y z) σ := by
  unfold Both f_X5_product f_X6_product
  by_cases hq : (nI 1 ≤ x ∧ x ≤ nI 7) ∧ (nI 1 ≤ y ∧ y ≤ nI 7) ∧ (nI 1 ≤ z ∧ z ≤ nI 7) ∧ ¬ (8 : Int32) < x + z ∧ ¬ (8 : Int32) < y + z
  · obtain ⟨q1, q2, q3, q4, q5⟩ := hq
    rcases rng x 1 7 (by decide) (by decide) with ⟨a, a1, a2, rfl⟩ | n
    rotate_left
    · exact absurd q1 n
    rcases rng y 1 7 (by decide) (by decide) with ⟨b, b1, b2, rfl⟩ | n
    rotate_left
    · exact absurd q2 n
    rcases rng z 1 7 (by decide) (by decide) with ⟨c, c1', c2, rfl⟩ | n
    rotate_left
    · exact absurd q3 n
    rw [nI_add] at q4 q5
    have hac : a + c ≤ 8 := by
      apply Classical.byContradiction
      intro n
      exact q4 (nI_lt (a := 8) (by omega) (by omega))
    have hbc : b + c ≤ 8 := by
      apply Classical.byContradiction
      intro n
      exact q5 (nI_lt (a := 8) (by omega) (by omega))
    obtain ⟨v, p1, p2⟩ := prod_all a1 b1 c1' hac hbc
    rw [bd_at (hx5_yes a1 b1 c1' hac hbc σ), if_neg (by decide)]
    refine ⟨v, σ, σ, (pu_p29 FU (nI a) (nI b) (nI c) 1 6 0).at p1 σ, ?_, h0.rel⟩
    rw [bd_at (hx6_yes a1 b1 c1' hac hbc σ), if_neg (by decide)]
    exact (pu_q22 FU (nI a) (nI b) (nI c) 1 1 1).at p2 σ
  · rw [bd_at (hx5_no σ hq), if_pos rfl]
    refine ⟨_, σ, σ, rfl, ?_, h0.rel⟩
    rw [bd_at (hx6_no σ hq), if_pos rfl]
