/-! ===== HALF 2: spread of the reference ===== -/
theorem s_crossed {σ : St} {w h s : Nat} {U D : Nat → Bool} {K : Nat → Nat} (hs : s < 4) (g : MG σ w h U D) (hM : LM σ s (w * h) K) (hL : LL w U D (w * h) K) {x y k : Nat} (hk : k < 3) (hx : x < w ∨ (x = w ∧ k = 1)) (hy : y ≤ h) : f_X6_crossed (nI s) (nI x) (nI y) (nI k) σ = some (nI (b1 (K (y * w + x) = k)), σ) := by
  obtain ⟨hw1, hw8, hh1, hh8, e0, e1, eT⟩ := id g
  have har := area_le hw8 hh8
  unfold f_X6_crossed f_X6_crossed_74 f_X6_crossed_75
  rw [e0, show nI w - 1 = nI (w - 1) from nI_sub (b := 1) hw1, bd_at (s_in0 _ _ σ), in_n (by omega) (by omega)]
  by_cases h1 : x ≤ w - 1
  · rw [decide_eq_true h1, if_neg bIt, e1, show nI h - 1 = nI (h - 1) from nI_sub (b := 1) hh1, bd_at (s_in0 _ _ σ), in_n (by omega) (by omega)]
    by_cases h2 : y ≤ h - 1
    · have hlt := cell_lt (show x < w by omega) (show y < h by omega)
      rw [decide_eq_true h2, if_neg bIt, e0, nI_mul, nI_add, bd_at (s_isUp g hlt)]
      have l := hL.1 _ hlt
      cases hU : U (y * w + x) with
      | false =>
        rw [if_pos bI_f, b1_f (fun q => by have := l.2.1.mpr hU; omega)]
        rfl
      | true =>
        rw [if_neg bIt, e0, show (64 : Int32) * nI s + nI y * nI w + nI x = nI (64 * s + (y * w + x)) by rw [show (64 : Int32) = nI 64 from rfl, nI_mul, nI_mul, nI_add, nI_add, Nat.add_assoc]]
        rw [rdI_at _ _ (show 64 * s + (y * w + x) < len 30 by show _ < 256; omega) (by decide), hM _ hlt]
        by_cases q : K (y * w + x) = k
        · rw [if_pos (by rw [q]), b1_t q]
          rfl
        · rw [if_neg (fun z => q ((nI_eq (by omega) (by omega)).mp z)), b1_f q]
          rfl
    · have : y = h := by omega
      rw [decide_eq_false h2, if_pos bI_f, b1_f (fun q => by rw [hL.2.1 _ (by rw [this, Nat.mul_comm w h]; omega)] at q; omega)]
      rfl
  · have hxw : x = w ∧ k = 1 := by omega
    rw [decide_eq_false h1, if_pos bI_f, b1_f (fun q => by
      rw [hxw.1, hxw.2] at q
      rcases Nat.lt_or_ge (y * w + w) (w * h) with r | r
      · have := (hL.1 _ r).2.2.1 q
        rw [show y * w + w = (y + 1) * w by rw [Nat.add_mul, Nat.one_mul], Nat.mul_mod_left] at this
        exact this rfl
      · rw [hL.2.1 _ r] at q
        cases q)]
    rfl
def KH (σ : St) (kn : Nat → Bool) (hi : Nat → Int) : Prop := ∀ p, p < 81 → gi σ 35 p = bI (kn p) ∧ (kn p = true → gi σ 34 p = iZ (hi p))
def upB (f : Nat → Bool) (a : Nat) (v : Bool) (p : Nat) : Bool := if p = a then v else f p
def upZ (f : Nat → Int) (a : Nat) (v : Int) (p : Nat) : Int := if p = a then v else f p
theorem KH_set {σ : St} {kn : Nat → Bool} {hi : Nat → Int} (h : KH σ kn hi) (a : Nat) (v : Int) : KH (si (si σ 35 a 1) 34 a (iZ v)) (upB kn a true) (upZ hi a v) := by
  intro p hp
  unfold upB upZ
  rw [gi_si, gi_si, gi_si, gi_si]
  by_cases e : p = a
  · subst e
    simp [bI]
  · have := h p hp
    simp only [e, and_false, if_false]
    exact ⟨by simpa using this.1, by simpa using this.2⟩
theorem s_step1 {σ : St} {kn : Nat → Bool} {hi : Nat → Int} (h : KH σ kn hi) {a b : Nat} (ha : a < 81) (hb : b < 81) (v : Int) :
    (kn a = kn b → f_X6_step (nI a) (nI b) (iZ v) σ = some (0, σ)) ∧ (kn a = true → kn b = false → f_X6_step (nI a) (nI b) (iZ v) σ = some (1, si (si σ 35 b 1) 34 b (iZ (hi a + v)))) ∧ (kn a = false → kn b = true → f_X6_step (nI a) (nI b) (iZ v) σ = some (1, si (si σ 35 a 1) 34 a (iZ (hi b - v)))) := by
  have ra : ∀ (f : Int32 → Option (Int32 × St)), rdI σ 35 (nI a) f = f (bI (kn a)) := fun f => by rw [rdI_at _ _ (show a < len 35 from ha) (by decide), (h a ha).1]
  have rb : ∀ (f : Int32 → Option (Int32 × St)), rdI σ 35 (nI b) f = f (bI (kn b)) := fun f => by rw [rdI_at _ _ (show b < len 35 from hb) (by decide), (h b hb).1]
  unfold f_X6_step f_X6_step_41 f_X6_step_82
  refine ⟨fun q => ?_, fun q1 q2 => ?_, fun q1 q2 => ?_⟩
  · rw [ra]
    cases z : kn a with
    | false =>
      rw [z] at q
      rw [if_pos bI_f, rb, ← q, if_pos bI_f]
    | true =>
      rw [z] at q
      rw [if_neg bIt, rb, ← q, if_neg bIt, rb, ← q, if_neg bIt, ra, z, if_neg bIt]
  · rw [ra, q1, if_neg bIt, rb, q2, if_pos bI_f, wrZ_at _ _ _ (show b < len 35 from hb) (by decide), zn_1, rdI_at _ _ (show a < len 34 from ha) (by decide), gi_si_ne _ _ _ _ (by omega), (h a ha).2 q1, iZ_add, wrI_at _ _ _ (show b < len 34 from hb) (by decide)]
  · rw [ra, q1, if_pos bI_f, rb, q2, if_neg bIt, ra, q1, if_pos bI_f, wrZ_at _ _ _ (show a < len 35 from ha) (by decide), zn_1, rdI_at _ _ (show b < len 34 from hb) (by decide), gi_si_ne _ _ _ _ (by omega), (h b hb).2 q2, iZ_sub, wrI_at _ _ _ (show a < len 34 from ha) (by decide)]
/-- while one seed spreads: what was known before, and what is known now -/
def INV (σ : St) (kn : Nat → Bool) (hi : Nat → Int) (kn0 : Nat → Bool) (hi0 : Nat → Int) (cst : Int × Nat) (Dq : Nat → Int) : Prop := KH σ kn hi ∧ (∀ p, p < 81 → kn0 p = true → kn p = true ∧ hi p = hi0 p) ∧ (∀ p, p < 81 → kn p = true → kn0 p = false → hi p = Dq p + cst.1) ∧ kn cst.2 = true
def unk (kn : Nat → Bool) : Nat := cnt (fun p => !kn p) 81
theorem cnt_upd {f : Nat → Bool} {a : Nat} : ∀ {n : Nat}, a < n → f a = true → cnt (upB f a false) n + 1 = cnt f n
  | 0, h, _ => by omega
  | n + 1, h, hf => by
    show cnt (upB f a false) n + (if upB f a false n = true then 1 else 0) + 1 = cnt f n + (if f n = true then 1 else 0)
    by_cases e : a = n
    · subst e
      have e1 : cnt (upB f a false) a = cnt f a := cnt_congr (fun i hi => by unfold upB; rw [if_neg (by omega)])
      have e2 : upB f a false a = false := if_pos rfl
      rw [e1, e2, hf]
      simp
    · have ih := cnt_upd (n := n) (show a < n by omega) hf
      have e2 : upB f a false n = f n := if_neg (by omega)
      rw [e2]
      omega
theorem unk_up {kn : Nat → Bool} {a : Nat} (ha : a < 81) (hk : kn a = false) : unk (upB kn a true) + 1 = unk kn := by
  unfold unk
  rw [← cnt_upd (f := fun p => !kn p) ha (by rw [hk]; rfl)]
  congr 1
  refine cnt_congr (fun i _ => ?_)
  unfold upB
  by_cases e : i = a
  · rw [if_pos e, if_pos e]; rfl
  · rw [if_neg e, if_neg e]
def P45 : Nat → Prop := fun p => p = 34 ∨ p = 35
/-- the outcome of some steps: flag b before -/
def RES (kn0 : Nat → Bool) (hi0 : Nat → Int) (cst : Int × Nat) (Dq : Nat → Int) (E : List (Nat × Nat)) (σ : St) (kn : Nat → Bool) (o : Option (Int32 × St)) (b : Bool) : Prop := ∃ σ' kn' hi' m, o = some (bI m, σ') ∧ INV σ' kn' hi' kn0 hi0 cst Dq ∧ eqx P45 σ σ' ∧ unk kn' ≤ unk kn ∧ (m = true → b = true ∨ unk kn' < unk kn) ∧ (m = false → b = false ∧ kn' = kn ∧ ∀ e, e ∈ E → kn e.1 = kn e.2)
theorem RES_end {kn0 : Nat → Bool} {hi0 : Nat → Int} {cst : Int × Nat} {Dq : Nat → Int} {σ : St} {kn : Nat → Bool} {hi : Nat → Int} (hI : INV σ kn hi kn0 hi0 cst Dq) (b : Bool) : RES kn0 hi0 cst Dq [] σ kn (some (bI b, σ)) b := ⟨σ, kn, hi, b, rfl, hI, eqx.rf, Nat.le_refl _, fun q => Or.inl q, fun q => ⟨q, rfl, fun e he => by cases he⟩⟩
theorem step_bind {kn0 : Nat → Bool} {hi0 : Nat → Int} {cst : Int × Nat} {Dq : Nat → Int} {E : List (Nat × Nat)} {σ : St} {kn : Nat → Bool} {hi : Nat → Int} {a b : Nat} {v : Int} {bb : Bool} {kk : Int32 → St → Option (Int32 × St)} (hI : INV σ kn hi kn0 hi0 cst Dq) (ha : a < 81) (hb : b < 81) (h0 : kn0 a = kn0 b) (hv : v = Dq b - Dq a)
    (hk : ∀ σ1 kn1 hi1 m1, INV σ1 kn1 hi1 kn0 hi0 cst Dq → eqx P45 σ σ1 → RES kn0 hi0 cst Dq E σ1 kn1 (kk (bI m1) σ1) (m1 || bb)) : RES kn0 hi0 cst Dq ((a, b) :: E) σ kn (bd (f_X6_step (nI a) (nI b) (iZ v) σ) kk) bb := by
  obtain ⟨i1, i2, i3, i4⟩ := id hI
  obtain ⟨t1, t2, t3⟩ := s_step1 i1 ha hb v
  by_cases q : kn a = kn b
  · rw [bd_at (t1 q)]
    obtain ⟨σ', kn', hi', m, d1, d2, d3, d4, d5, d6⟩ := hk σ kn hi false hI eqx.rf
    rw [Bool.false_or] at d5 d6
    refine ⟨σ', kn', hi', m, d1, d2, d3, d4, d5, fun z => ⟨(d6 z).1, (d6 z).2.1, fun e he => ?_⟩⟩
    rcases List.mem_cons.mp he with r | r
    · rw [r]; exact q
    · exact (d6 z).2.2 e r
  · have gen : ∀ c d : Nat, ∀ u : Int, c < 81 → d < 81 → kn c = true → kn d = false → kn0 c = kn0 d → u = hi c + (Dq d - Dq c) → f_X6_step (nI a) (nI b) (iZ v) σ = some (1, si (si σ 35 d 1) 34 d (iZ u)) → RES kn0 hi0 cst Dq ((a, b) :: E) σ kn (bd (f_X6_step (nI a) (nI b) (iZ v) σ) kk) bb := by
      intro c d u hc hd kc kd h0' hu hf
      have hc0 : kn0 c = false := by
        cases z : kn0 c with
        | false => rfl
        | true =>
          rw [z] at h0'
          have := (i2 d hd h0'.symm).1
          rw [kd] at this
          cases this
      have hI' : INV (si (si σ 35 d 1) 34 d (iZ u)) (upB kn d true) (upZ hi d u) kn0 hi0 cst Dq := by
        refine ⟨KH_set i1 d u, fun p hp hp0 => ?_, fun p hp hp1 hp0 => ?_, by
          unfold upB
          split
          · rfl
          · exact i4⟩
        · have hne : p ≠ d := fun z => by
            rw [z, ← h0', hc0] at hp0
            cases hp0
          unfold upB upZ
          rw [if_neg hne, if_neg hne]
          exact i2 p hp hp0
        · unfold upZ
          by_cases e : p = d
          · rw [if_pos e, e, hu, i3 c hc kc hc0]
            omega
          · rw [if_neg e]
            unfold upB at hp1
            rw [if_neg e] at hp1
            exact i3 p hp hp1 hp0
      have hex : eqx P45 σ (si (si σ 35 d 1) 34 d (iZ u)) := eqx.si (eqx.si eqx.rf (Or.inr rfl)) (Or.inl rfl)
      have hun := unk_up hd kd
      rw [bd_at hf]
      obtain ⟨σ', kn', hi', m, d1, d2, d3, d4, d5, d6⟩ := hk _ _ _ true hI' hex
      rw [Bool.true_or] at d5 d6
      refine ⟨σ', kn', hi', m, d1, d2, eqx.tr hex d3, by omega, fun _ => Or.inr (by omega), fun z => ?_⟩
      have := (d6 z).1
      cases this
    cases za : kn a with
    | true =>
      have zb : kn b = false := by
        cases r : kn b with
        | false => rfl
        | true => rw [za, r] at q; exact absurd rfl q
      exact gen a b (hi a + v) ha hb za zb h0 (by rw [hv]) (t2 za zb)
    | false =>
      have zb : kn b = true := by
        cases r : kn b with
        | true => rfl
        | false => rw [za, r] at q; exact absurd rfl q
      exact gen b a (hi b - v) hb ha zb za h0.symm (by rw [hv]; omega) (t3 za zb)
theorem ite_flag {α : Type} (A : Int32 → α) (m b : Bool) : (if bI m = 0 then (if bI b = 0 then A (0 : Int32) else A (1 : Int32)) else A (1 : Int32)) = A (bI (m || b)) := by
  cases m <;> cases b <;> rfl
/-- known sets that no step leaves -/
def Cl (w h : Nat) (U D : Nat → Bool) (kn : Nat → Bool) : Prop := ∀ x y, x < w → y < h → (U (y * w + x) = true → kn (9 * y + x) = kn (9 * y + x + 1) ∧ kn (9 * y + x + 1) = kn (9 * y + x + 9)) ∧ (D (y * w + x) = true → kn (9 * y + x + 1) = kn (9 * y + x + 9) ∧ kn (9 * y + x + 9) = kn (9 * y + x + 10))
def Dq (w : Nat) (K1 K2 : Nat → Nat) (p : Nat) : Int := Dz w K1 K2 (p % 9) (p / 9)
def bd2 (K1 K2 : Nat → Nat) (c k : Nat) : Int := (b1 (K2 c = k) : Int) - (b1 (K1 c = k) : Int)
theorem Dq_e {w h : Nat} {U D : Nat → Bool} {K1 K2 : Nat → Nat} (hw : 1 ≤ w) (hw8 : w ≤ 8) (h1 : LL w U D (w * h) K1) (h2 : LL w U D (w * h) K2) {x y : Nat} (hx : x < w) (hy : y < h) :
    bd2 K1 K2 (y * w + x) 2 = Dq w K1 K2 (9 * y + x + 1) - Dq w K1 K2 (9 * y + x) ∧ bd2 K1 K2 (y * w + x) 0 = Dq w K1 K2 (9 * y + x + 9) - Dq w K1 K2 (9 * y + x + 1) ∧ bd2 K1 K2 (y * w + x) 1 = Dq w K1 K2 (9 * y + x) - Dq w K1 K2 (9 * y + x + 9) ∧ bd2 K1 K2 ((y + 1) * w + x) 2 = Dq w K1 K2 (9 * y + x + 10) - Dq w K1 K2 (9 * y + x + 9) ∧ bd2 K1 K2 (y * w + (x + 1)) 1 = Dq w K1 K2 (9 * y + x + 1) - Dq w K1 K2 (9 * y + x + 10) := by
  have q0 : Dq w K1 K2 (9 * y + x) = Dz w K1 K2 x y := by unfold Dq; rw [show (9 * y + x) % 9 = x by omega, show (9 * y + x) / 9 = y by omega]
  have q1 : Dq w K1 K2 (9 * y + x + 1) = Dz w K1 K2 (x + 1) y := by unfold Dq; rw [show (9 * y + x + 1) % 9 = x + 1 by omega, show (9 * y + x + 1) / 9 = y by omega]
  have q9 : Dq w K1 K2 (9 * y + x + 9) = Dz w K1 K2 x (y + 1) := by unfold Dq; rw [show (9 * y + x + 9) % 9 = x by omega, show (9 * y + x + 9) / 9 = y + 1 by omega]
  have q10 : Dq w K1 K2 (9 * y + x + 10) = Dz w K1 K2 (x + 1) (y + 1) := by unfold Dq; rw [show (9 * y + x + 10) % 9 = x + 1 by omega, show (9 * y + x + 10) / 9 = y + 1 by omega]
  have hlt := cell_lt hx hy
  have s1 := k_sum h1 hlt
  have s2 := k_sum h2 hlt
  have v0 := Dz_v hw h1 h2 (show x ≤ w by omega) hy
  have v1 := Dz_v hw h1 h2 (show x + 1 ≤ w by omega) hy
  have a0 := Dz_h w K1 K2 x y
  have a1 := Dz_h w K1 K2 x (y + 1)
  rw [q0, q1, q9, q10]
  unfold bd2
  refine ⟨by omega, by omega, by omega, by omega, by omega⟩
section SC
variable {w h s o : Nat} {U D : Nat → Bool} {K1 K2 : Nat → Nat}
def SX (w h s o : Nat) (U D : Nat → Bool) (K1 K2 : Nat → Nat) (σ : St) : Prop := MG σ w h U D ∧ LM σ s (w * h) K1 ∧ LM σ o (w * h) K2
theorem SX.keep {σ τ : St} (h0 : SX w h s o U D K1 K2 σ) (he : eqx P45 σ τ) : SX w h s o U D K1 K2 τ := ⟨h0.1.keep he (by unfold P45; omega) (by unfold P45; omega), fun c hc => by rw [(he 30 (by unfold P45; omega) _).1]; exact h0.2.1 c hc, fun c hc => by rw [(he 30 (by unfold P45; omega) _).1]; exact h0.2.2 c hc⟩
/-- the difference of two crossings -/
theorem s_cross2 (hs : s < 4) (ho : o < 4) (l1 : LL w U D (w * h) K1) (l2 : LL w U D (w * h) K2) {σ : St} (hS : SX w h s o U D K1 K2 σ) {x y k : Nat} (hk : k < 3) (hx : x < w ∨ (x = w ∧ k = 1)) (hy : y ≤ h) {α : Type} (f : Int32 → St → Option α) :
    (bd (f_X6_crossed (nI o) (nI x) (nI y) (nI k) σ) fun v1 σ2 => bd (f_X6_crossed (nI s) (nI x) (nI y) (nI k) σ2) fun v3 σ4 => f (v1 - v3) σ4) = f (iZ (bd2 K1 K2 (y * w + x) k)) σ := by
  rw [bd_at (s_crossed ho hS.1 hS.2.2 l2 hk hx hy), bd_at (s_crossed hs hS.1 hS.2.1 l1 hk hx hy), nI_d]
  rfl
end SC
