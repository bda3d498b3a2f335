/-! ===== HALF 2: pointOf, turnOver, end of the reference ===== -/
def ptN (w : Nat) (U D : Nat → Bool) (N : Nat) (K : Nat → Nat) (c : Nat) : Nat := if innB w U D N c = false then 0 else if K c = 1 ∧ K (c - 1) = 2 ∧ K (c - w) = 0 then 2 else if K c = 2 ∧ K (c - 1) = 0 ∧ K (c - w) = 1 then 3 else 1
theorem ptN_at (w : Nat) (U D : Nat → Bool) (N : Nat) (K : Nat → Nat) (c : Nat) (t : Bool) : ptN w U D N K c = (if t then 2 else 3) ↔ atP w U D N t K c := by
  unfold ptN atP
  cases hi : innB w U D N c with
  | false => cases t <;> simp
  | true =>
    rw [if_neg (by decide)]
    by_cases h1 : K c = 1 ∧ K (c - 1) = 2 ∧ K (c - w) = 0
    · rw [if_pos h1]
      cases t
      · simp [sA, h1.1]
      · simp [sA, sB, sC, h1]
    · rw [if_neg h1]
      by_cases h2 : K c = 2 ∧ K (c - 1) = 0 ∧ K (c - w) = 1
      · rw [if_pos h2]
        cases t
        · simp [sA, sB, sC, h2]
        · simp [sA, h2.1]
      · rw [if_neg h2]
        cases t
        · simp only [Bool.false_eq_true, if_false, sA, sB, sC]
          exact ⟨fun q => (by cases q), fun q => absurd q.2 h2⟩
        · simp only [if_true, sA, sB, sC]
          exact ⟨fun q => (by cases q), fun q => absurd q.2 h1⟩
theorem ptN_lt (w : Nat) (U D : Nat → Bool) (N : Nat) (K : Nat → Nat) (c : Nat) : ptN w U D N K c < 4 := by
  unfold ptN
  split
  · decide
  · split
    · decide
    · split <;> decide
theorem s_pointOf {σ : St} {w h : Nat} {U D : Nat → Bool} (g : MG σ w h U D) {s : Nat} (hs : s < 4) {K : Nat → Nat} (hL : LM σ s (w * h) K) (hK : ∀ c, c < w * h → K c < 4) {x y : Nat} (hx : x ≤ w) (hy : y ≤ h) : f_X6_pointOf (nI s) (nI x) (nI y) σ = some (nI (ptN w U D (w * h) K (y * w + x)), σ) := by
  obtain ⟨hw1, hw8, hh1, hh8, e0, e1, eT⟩ := id g
  have har := area_le hw8 hh8
  unfold f_X6_pointOf f_X6_pointOf_88 ptN
  rw [bd_at (s_isInner g hx hy)]
  cases hi : innB w U D (w * h) (y * w + x) with
  | false => rw [if_pos bI_f, if_pos rfl]; rfl
  | true =>
    obtain ⟨i1, i2, i3, i4, -⟩ := inn_of hi
    rw [if_neg bIt, if_neg (by decide), e0]
    have ei : (64 : Int32) * nI s + nI y * nI w + nI x = nI (64 * s + (y * w + x)) := by rw [show (64 : Int32) = nI 64 from rfl, nI_mul, nI_mul, nI_add, nI_add, Nat.add_assoc]
    rw [ei]
    generalize y * w + x = c at *
    rw [show nI (64 * s + c) - 1 = nI (64 * s + (c - 1)) by rw [show (1 : Int32) = nI 1 from rfl, nI_sub (by omega)]; congr 1; omega, show nI (64 * s + c) - nI w = nI (64 * s + (c - w)) by rw [nI_sub (by omega)]; congr 1; omega]
    rw [rdI_at _ _ (show 64 * s + c < len 30 by show _ < 256; omega) (by decide), rdI_at _ _ (show 64 * s + (c - 1) < len 30 by show _ < 256; omega) (by decide), rdI_at _ _ (show 64 * s + (c - w) < len 30 by show _ < 256; omega) (by decide)]
    rw [hL c i1, hL (c - 1) (by omega), hL (c - w) (by omega)]
    have k1 := hK c i1
    have k2 := hK (c - 1) (by omega)
    have k3 := hK (c - w) (by omega)
    rw [show (100 : Int32) * nI (K c) + (10 : Int32) * nI (K (c - 1)) + nI (K (c - w)) = nI (100 * K c + 10 * K (c - 1) + K (c - w)) by rw [show (100 : Int32) = nI 100 from rfl, show (10 : Int32) = nI 10 from rfl, nI_mul, nI_mul, nI_add, nI_add]]
    by_cases h1 : K c = 1 ∧ K (c - 1) = 2 ∧ K (c - w) = 0
    · rw [if_pos h1, if_pos (show nI _ = (120 : Int32) from (nI_eq (b := 120) (by omega) (by decide)).mpr (by omega))]
      rfl
    · rw [if_neg h1, if_neg (show ¬ nI _ = (120 : Int32) from fun q => h1 (by have := (nI_eq (b := 120) (by omega) (by decide)).mp q; omega))]
      by_cases h2 : K c = 2 ∧ K (c - 1) = 0 ∧ K (c - w) = 1
      · rw [if_pos h2, if_pos (show nI _ = (201 : Int32) from (nI_eq (b := 201) (by omega) (by decide)).mpr (by omega))]
        rfl
      · rw [if_neg h2, if_neg (show ¬ nI _ = (201 : Int32) from fun q => h2 (by have := (nI_eq (b := 201) (by omega) (by decide)).mp q; omega))]
        rfl
/-- alike but for the reference's slot s -/
def eqs (s : Nat) (σ τ : St) : Prop := τ.2 = σ.2 ∧ ∀ p j, ¬ (p = 30 ∧ 64 * s ≤ j ∧ j < 64 * s + 64) → gi τ p j = gi σ p j
theorem eqs.rf {s : Nat} {σ : St} : eqs s σ σ := ⟨rfl, fun _ _ _ => rfl⟩
theorem eqs.tr {s : Nat} {σ τ υ : St} (h1 : eqs s σ τ) (h2 : eqs s τ υ) : eqs s σ υ := ⟨h2.1.trans h1.1, fun p j h => (h2.2 p j h).trans (h1.2 p j h)⟩
theorem eqs.si {s : Nat} {σ τ : St} {k : Nat} {v : Int32} (h : eqs s σ τ) (hk : 64 * s ≤ k ∧ k < 64 * s + 64) : eqs s σ (si τ 30 k v) := ⟨h.1, fun p j hj => by
  rw [gi_si_ne _ _ _ _ (fun z => hj ⟨z.1, by omega, by omega⟩)]
  exact h.2 p j hj⟩
theorem eqs.eqx {s : Nat} {σ τ : St} (h : eqs s σ τ) : eqx (fun p => p = 30) σ τ := fun p hp k => ⟨h.2 p k (fun z => hp z.1), by unfold gl; rw [h.1]⟩
theorem eqs_MG {σ τ : St} {s w h : Nat} {U D : Nat → Bool} (g : MG σ w h U D) (he : eqs s σ τ) : MG τ w h U D := g.keep he.eqx (by decide) (by decide)
theorem s_turnOver {σ : St} {w h : Nat} {U D : Nat → Bool} (g : MG σ w h U D) {s : Nat} (hs : s < 4) {K : Nat → Nat} (hL : LM σ s (w * h) K) {x y : Nat} {t : Bool} (hat : atP w U D (w * h) t K (y * w + x)) : ∃ σ', f_X6_turnOver (nI s) (nI x) (nI y) σ = some ((), σ') ∧ LM σ' s (w * h) (tu w t K (y * w + x)) ∧ eqs s σ σ' := by
  obtain ⟨hw1, hw8, hh1, hh8, e0, e1, eT⟩ := id g
  have har := area_le hw8 hh8
  obtain ⟨i1, i2, i3, i4, i5, -⟩ := inn_of hat.1
  have hw2 := i5 hw1
  have ei : (64 : Int32) * nI s + nI y * nI w + nI x = nI (64 * s + (y * w + x)) := by rw [show (64 : Int32) = nI 64 from rfl, nI_mul, nI_mul, nI_add, nI_add, Nat.add_assoc]
  unfold f_X6_turnOver
  rw [e0, ei]
  generalize y * w + x = c at *
  have em1 : nI (64 * s + c) - 1 = nI (64 * s + (c - 1)) := by rw [show (1 : Int32) = nI 1 from rfl, nI_sub (by omega)]; congr 1; omega
  have emw : nI (64 * s + c) - nI w = nI (64 * s + (c - w)) := by rw [nI_sub (by omega)]; congr 1; omega
  rw [rdI_at _ _ (show 64 * s + c < len 30 by show _ < 256; omega) (by decide), hL c i1, hat.2.1]
  have fin : ∀ v1 v2 v3 : Nat, v1 = sA (!t) → v2 = sB (!t) → v3 = sC (!t) → LM (si (si (si σ 30 (64 * s + c) (nI v1)) 30 (64 * s + (c - 1)) (nI v2)) 30 (64 * s + (c - w)) (nI v3)) s (w * h) (tu w t K c) ∧ eqs s σ (si (si (si σ 30 (64 * s + c) (nI v1)) 30 (64 * s + (c - 1)) (nI v2)) 30 (64 * s + (c - w)) (nI v3)) := by
    intro v1 v2 v3 q1 q2 q3
    refine ⟨fun i hi => ?_, eqs.si (eqs.si (eqs.si eqs.rf (by omega)) (by omega)) (by omega)⟩
    rw [gi_si, gi_si, gi_si]
    unfold tu
    by_cases r1 : i = c
    · subst r1; rw [if_neg (by omega), if_neg (by omega), if_pos ⟨rfl, rfl⟩, if_pos rfl, q1]
    · rw [if_neg r1]
      by_cases r2 : i = c - 1
      · subst r2; rw [if_neg (by omega), if_pos ⟨rfl, rfl⟩, if_pos rfl, q2]
      · rw [if_neg r2]
        by_cases r3 : i = c - w
        · subst r3; rw [if_pos ⟨rfl, rfl⟩, if_pos rfl, q3]
        · rw [if_neg r3, if_neg (by omega), if_neg (by omega), if_neg (by omega)]
          exact hL i hi
  cases t with
  | true =>
    rw [if_pos (show nI (sA true) = 1 by decide)]
    unfold f_X6_turnOver_31 f_X6_turnOver_49 f_X6_turnOver_68 f_X6_turnOver_90
    rw [if_neg (by decide), wrI_at _ _ _ (show 64 * s + c < len 30 by show _ < 256; omega) (by decide), if_neg (by decide), em1, wrI_at _ _ _ (show 64 * s + (c - 1) < len 30 by show _ < 256; omega) (by decide), if_neg (by decide), gi_si_ne _ _ _ _ (by omega), gi_si_ne _ _ _ _ (by omega), e0, emw, wrI_at _ _ _ (show 64 * s + (c - w) < len 30 by show _ < 256; omega) (by decide)]
    exact ⟨_, rfl, fin 2 0 1 rfl rfl rfl⟩
  | false =>
    rw [if_neg (show ¬ nI (sA false) = 1 by decide)]
    unfold f_X6_turnOver_31 f_X6_turnOver_49 f_X6_turnOver_68 f_X6_turnOver_90
    rw [if_pos rfl, wrI_at _ _ _ (show 64 * s + c < len 30 by show _ < 256; omega) (by decide), if_pos rfl, em1, wrI_at _ _ _ (show 64 * s + (c - 1) < len 30 by show _ < 256; omega) (by decide), if_pos rfl, gi_si_ne _ _ _ _ (by omega), gi_si_ne _ _ _ _ (by omega), e0, emw, wrI_at _ _ _ (show 64 * s + (c - w) < len 30 by show _ < 256; omega) (by decide)]
    exact ⟨_, rfl, fin 1 2 0 rfl rfl rfl⟩
/-- the CELL's number of the p-th POINT -/
def pcell (w p : Nat) : Nat := p / (w + 1) * w + p % (w + 1)
theorem p_xy {w h p : Nat} (hp : p < (w + 1) * (h + 1)) : p % (w + 1) ≤ w ∧ p / (w + 1) ≤ h := by
  have h1 := Nat.mod_lt p (show 0 < w + 1 by omega)
  have h2 : p / (w + 1) < h + 1 := Nat.div_lt_of_lt_mul hp
  omega
theorem p_of {w h c : Nat} (hc : c < w * h) (hw : 1 ≤ w) : ∃ p, p < (w + 1) * (h + 1) ∧ pcell w p = c := by
  have h1 := Nat.mod_lt c (show 0 < w by omega)
  have h2 : c / w < h := Nat.div_lt_of_lt_mul hc
  have h3 : w * (c / w) + c % w = c := Nat.div_add_mod c w
  refine ⟨(w + 1) * (c / w) + c % w, ?_, ?_⟩
  · have : (w + 1) * (c / w + 1) ≤ (w + 1) * (h + 1) := Nat.mul_le_mul_left _ (by omega)
    rw [Nat.mul_add] at this
    omega
  · unfold pcell
    rw [Nat.mul_add_mod, Nat.mod_eq_of_lt (show c % w < w + 1 by omega), Nat.mul_add_div (by omega), Nat.div_eq_of_lt (show c % w < w + 1 by omega), Nat.add_zero, Nat.mul_comm]
    exact h3
theorem pp_le {w h : Nat} (hw : w ≤ 8) (hh : h ≤ 8) : (w + 1) * (h + 1) ≤ 81 := Nat.mul_le_mul (show w + 1 ≤ 9 by omega) (show h + 1 ≤ 9 by omega)
theorem LL_4 {w : Nat} {U D : Nat → Bool} {N : Nat} {K : Nat → Nat} (hL : LL w U D N K) : ∀ c, c < N → K c < 4 := fun c hc => (hL.1 c hc).1
theorem s_end38 {w h s : Nat} {U D : Nat → Bool} (hs : s < 4) (t : Bool) (k27 : Int32 → Int32 → Int32 → Int32 → St → Option (Int32 × St)) : ∀ (n p k : Nat) (b : Bool) (K : Nat → Nat) (σ : St), p ≤ (w + 1) * (h + 1) → (w + 1) * (h + 1) - p < n → MG σ w h U D → LM σ s (w * h) K → LL w U D (w * h) K →
    ∃ σ' M m b', f_X6_end_38 k27 n (nI s) (bI t) (nI k) (bI b) (nI p) σ = k27 (nI s) (bI t) (nI (k + m)) (bI b') σ' ∧ UpN w U D (w * h) t m K M ∧ LM σ' s (w * h) M ∧ eqs s σ σ' ∧ (b' = true → b = true ∨ 1 ≤ m) ∧ (b' = false → b = false ∧ M = K ∧ ∀ p', p ≤ p' → p' < (w + 1) * (h + 1) → ¬ atP w U D (w * h) t K (pcell w p')) := by
  intro n
  induction n with
  | zero => intro p k b K σ h1 h2; omega
  | succ n ih =>
    intro p k b K σ h1 h2 g hL hK
    obtain ⟨hw1, hw8, hh1, hh8, e0, e1, eT⟩ := id g
    have h81 := pp_le hw8 hh8
    rw [f_X6_end_38, e0, e1, nI_1, nI_1, nI_mul]
    by_cases hp : (w + 1) * (h + 1) ≤ p
    · rw [if_pos (nI_le hp (by omega))]
      exact ⟨σ, K, 0, b, rfl, rfl, hL, eqs.rf, fun q => Or.inl q, fun q => ⟨q, rfl, fun p' h3 h4 => by omega⟩⟩
    · have hp' : p < (w + 1) * (h + 1) := by omega
      obtain ⟨hx, hy⟩ := p_xy hp'
      rw [if_neg (nI_ge hp' (by omega)), rmI_at _ (by omega) (by omega) (by omega), dvI_at _ (by omega) (by omega) (by omega), bd_at (s_pointOf g hs hL (LL_4 hK) hx hy)]
      have go : ∃ σ' M m b', f_X6_end_96 (f_X6_end_38 k27 n) (nI s) (bI t) (nI k) (bI b) (nI p) (nI (p % (w + 1))) (nI (p / (w + 1))) (nI (ptN w U D (w * h) K (pcell w p))) (nI (if t then 2 else 3)) σ = k27 (nI s) (bI t) (nI (k + m)) (bI b') σ' ∧ UpN w U D (w * h) t m K M ∧ LM σ' s (w * h) M ∧ eqs s σ σ' ∧ (b' = true → b = true ∨ 1 ≤ m) ∧ (b' = false → b = false ∧ M = K ∧ ∀ p', p ≤ p' → p' < (w + 1) * (h + 1) → ¬ atP w U D (w * h) t K (pcell w p')) := by
        have hlt := ptN_lt w U D (w * h) K (pcell w p)
        have h23 : (if t then 2 else 3) < 4 := by cases t <;> decide
        unfold f_X6_end_96 f_X6_end_114
        by_cases hq : ptN w U D (w * h) K (pcell w p) = (if t then 2 else 3)
        · have hat := (ptN_at w U D (w * h) K (pcell w p) t).mp hq
          obtain ⟨τ, f1, f2, f3⟩ := s_turnOver g hs hL hat
          rw [if_pos (by rw [hq]), bd_at f1, nI_1, nI_1, show (1 : Int32) = bI true from rfl]
          obtain ⟨σ', M, m, b', d1, d2, d3, d4, d5, d6⟩ := ih (p + 1) (k + 1) true (tu w t K (pcell w p)) τ (by omega) (by omega) (eqs_MG g f3) f2 (tu_LL hw1 hat hK)
          refine ⟨σ', M, m + 1, b', by rw [d1, show k + 1 + m = k + (m + 1) by omega], ⟨pcell w p, hat, d2⟩, d3, eqs.tr f3 d4, fun _ => Or.inr (by omega), fun q => ?_⟩
          have := (d6 q).1
          cases this
        · rw [if_neg (fun z => hq ((nI_eq (by omega) (by omega)).mp z)), nI_1]
          obtain ⟨σ', M, m, b', d1, d2, d3, d4, d5, d6⟩ := ih (p + 1) k b K σ (by omega) (by omega) g hL hK
          refine ⟨σ', M, m, b', d1, d2, d3, d4, d5, fun q => ⟨(d6 q).1, (d6 q).2.1, fun p' h3 h4 => ?_⟩⟩
          by_cases z : p' = p
          · subst z
            exact fun r => hq ((ptN_at w U D (w * h) K (pcell w p') t).mpr r)
          · exact (d6 q).2.2 p' (by omega) h4
      cases t with
      | false => rw [if_pos bI_f]; exact go
      | true => rw [if_neg bIt]; exact go
theorem NoP_of {w h : Nat} {U D : Nat → Bool} {t : Bool} {K : Nat → Nat} (hw : 1 ≤ w) (h0 : ∀ p', p' < (w + 1) * (h + 1) → ¬ atP w U D (w * h) t K (pcell w p')) : NoP w U D (w * h) t K := by
  intro c hc
  obtain ⟨p, hp, e⟩ := p_of (h := h) (inn_of hc.1).1 hw
  rw [← e] at hc
  exact h0 p hp hc
theorem s_end27 {w h s : Nat} {U D : Nat → Bool} (hs : s < 4) (t : Bool) : ∀ (n k : Nat) (K : Nat → Nat) (σ : St), mea w (w * h) t K + 1 < n → MG σ w h U D → LM σ s (w * h) K → LL w U D (w * h) K →
    ∃ σ' M m, f_X6_end_27 n (nI s) (bI t) (nI k) (bI true) σ = some (nI (k + m), σ') ∧ UpN w U D (w * h) t m K M ∧ NoP w U D (w * h) t M ∧ LM σ' s (w * h) M ∧ eqs s σ σ' := by
  intro n
  induction n with
  | zero => intro k K σ h1; omega
  | succ n ih =>
    intro k K σ h1 g hL hK
    obtain ⟨hw1, hw8, hh1, hh8, e0, e1, eT⟩ := id g
    have h81 := pp_le hw8 hh8
    have har := area_le hw8 hh8
    rw [f_X6_end_27, if_neg bIt]
    obtain ⟨τ, M, m, b', d1, d2, d3, d4, d5, d6⟩ := s_end38 hs t (f_X6_end_27 n) FU 0 k false K σ (Nat.zero_le _) (by unfold FU; omega) g hL hK
    rw [show nI 0 = 0 from rfl, bI_f] at d1
    rw [d1]
    cases b' with
    | false =>
      obtain ⟨q1, q2, q3⟩ := d6 rfl
      obtain ⟨n, rfl⟩ : ∃ n', n = n' + 1 := ⟨n - 1, by omega⟩
      rw [f_X6_end_27, if_pos bI_f]
      refine ⟨τ, M, m, rfl, d2, ?_, d3, d4⟩
      rw [q2]
      exact NoP_of hw1 (fun p' hp' => q3 p' (Nat.zero_le _) hp')
    | true =>
      have hm : 1 ≤ m := by
        rcases d5 rfl with z | z
        · cases z
        · exact z
      have hme := UpN_mea hw1 hw8 har d2
      obtain ⟨σ', M', m', f1, f2, f3, f4, f5⟩ := ih (k + m) M τ (by omega) (eqs_MG g d4) d3 (UpN_LL hw1 d2 hK)
      exact ⟨σ', M', m + m', by rw [f1, Nat.add_assoc], UpN_app d2 f2, f3, f4, eqs.tr d4 f5⟩
