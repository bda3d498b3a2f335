/-! ===== HALF 2: apart of the reference ===== -/
theorem s_isPt {σ : St} {w h : Nat} {U D : Nat → Bool} (g : MG σ w h U D) {x y : Nat} (hx : x < 100) (hy : y < 100) : f_X6_isPoint (nI x) (nI y) σ = some (bI (decide (x ≤ w ∧ y ≤ h)), σ) := by
  have hw8 := g.2.1
  have hh8 := g.2.2.2.1
  rw [s_isPoint g]
  congr 3
  refine decide_eq_decide.mpr ⟨fun q => ⟨(nI_leI (by omega) (by omega)).mp q.1.2, (nI_leI (by omega) (by omega)).mp q.2.2⟩, fun q => ⟨⟨nI_pos' (by omega), nI_le q.1 (by omega)⟩, nI_pos' (by omega), nI_le q.2 (by omega)⟩⟩
def vld (w h p : Nat) : Prop := p % 9 ≤ w ∧ p / 9 ≤ h
def cel (w p : Nat) : Nat := p / 9 * w + p % 9
/-- what is added up at last -/
def SA (w h : Nat) (U D : Nat → Bool) (K1 K2 : Nat → Nat) (p : Nat) : Nat := if (p % 9 ≤ w ∧ p / 9 ≤ h) ∧ innB w U D (w * h) (cel w p) = true then (Dq w K1 K2 p).natAbs else 0
theorem Dq_b (w : Nat) (K1 K2 : Nat → Nat) (p : Nat) : -8 ≤ Dq w K1 K2 p ∧ Dq w K1 K2 p ≤ 8 := by
  have h1 := Rg_le w K1 (p / 9) (p % 9)
  have h2 := Rg_le w K2 (p / 9) (p % 9)
  unfold Dq Dz
  omega
theorem s_183n {w h : Nat} {U D : Nat → Bool} {σ : St} (g : MG σ w h U D) : ∀ (n p : Nat) (x3 : Int32), p ≤ 81 → 81 - p < n → f_X6_apart_183 n x3 (0 : Int32) (nI p) σ = some (-900009, σ) := by
  intro n
  induction n with
  | zero => intro p x3 h1 h2; omega
  | succ n ih =>
    intro p x3 h1 h2
    rw [f_X6_apart_183]
    by_cases hp : 81 ≤ p
    · rw [if_pos (show (81 : Int32) ≤ nI p from nI_le (a := 81) hp (by omega)), if_pos rfl]
      rfl
    · rw [if_neg (show ¬ (81 : Int32) ≤ nI p from nI_ge (a := p) (b := 81) (by omega) (by decide)), show (9 : Int32) = nI 9 from rfl, rmI_at _ (by omega) (by decide) (by decide), dvI_at _ (by omega) (by decide) (by decide), bd_at (s_isPt g (by omega) (by omega))]
      unfold f_X6_apart_255 f_X6_apart_257
      by_cases hv : p % 9 ≤ w ∧ p / 9 ≤ h
      · rw [decide_eq_true hv, if_neg bIt, bd_at (s_isInner g hv.1 hv.2), nI_1]
        split
        · exact ih (p + 1) x3 (by omega) (by omega)
        · rw [rdI_at _ _ (show p < len 34 by show _ < 81; omega) (by decide)]
          split
          · rw [rdI_at _ _ (show p < len 34 by show _ < 81; omega) (by decide)]
            exact ih (p + 1) _ (by omega) (by omega)
          · rw [rdI_at _ _ (show p < len 34 by show _ < 81; omega) (by decide)]
            exact ih (p + 1) _ (by omega) (by omega)
      · rw [decide_eq_false hv, if_pos bI_f, nI_1]
        exact ih (p + 1) x3 (by omega) (by omega)
theorem s_183y {w h : Nat} {U D : Nat → Bool} {K1 K2 : Nat → Nat} {σ : St} (g : MG σ w h U D) (hv : ∀ p, p < 81 → vld w h p → innB w U D (w * h) (cel w p) = true → gi σ 34 p = iZ (Dq w K1 K2 p)) : ∀ (n p : Nat), p ≤ 81 → 81 - p < n → f_X6_apart_183 n (nI (sm (SA w h U D K1 K2) p)) (1 : Int32) (nI p) σ = some (nI (sm (SA w h U D K1 K2) 81), σ) := by
  intro n
  induction n with
  | zero => intro p h1 h2; omega
  | succ n ih =>
    intro p h1 h2
    rw [f_X6_apart_183]
    by_cases hp : 81 ≤ p
    · have : p = 81 := by omega
      rw [if_pos (show (81 : Int32) ≤ nI p from nI_le (a := 81) hp (by omega)), if_neg (by decide), this]
      rfl
    · rw [if_neg (show ¬ (81 : Int32) ≤ nI p from nI_ge (a := p) (b := 81) (by omega) (by decide)), show (9 : Int32) = nI 9 from rfl, rmI_at _ (by omega) (by decide) (by decide), dvI_at _ (by omega) (by decide) (by decide), bd_at (s_isPt g (by omega) (by omega))]
      unfold f_X6_apart_255 f_X6_apart_257
      have key := ih (p + 1) (by omega) (by omega)
      have hs1 : sm (SA w h U D K1 K2) (p + 1) = sm (SA w h U D K1 K2) p + SA w h U D K1 K2 p := rfl
      rw [hs1] at key
      by_cases hq : p % 9 ≤ w ∧ p / 9 ≤ h
      · rw [decide_eq_true hq, if_neg bIt, bd_at (s_isInner g hq.1 hq.2), nI_1]
        cases hi : innB w U D (w * h) (p / 9 * w + p % 9) with
        | false =>
          rw [if_pos bI_f]
          rw [show SA w h U D K1 K2 p = 0 from if_neg (fun z => by have := z.2; unfold cel at this; rw [hi] at this; cases this)] at key
          exact key
        | true =>
          have hb := Dq_b w K1 K2 p
          rw [if_neg bIt, rdI_at _ _ (show p < len 34 by show _ < 81; omega) (by decide), hv p (by omega) hq hi]
          rw [show SA w h U D K1 K2 p = (Dq w K1 K2 p).natAbs from if_pos ⟨hq, hi⟩, ← nI_add] at key
          by_cases hz : 0 ≤ Dq w K1 K2 p
          · rw [if_pos (show (0 : Int32) ≤ iZ _ from (iZ_le (a := 0) (by omega) (by omega)).mpr hz), rdI_at _ _ (show p < len 34 by show _ < 81; omega) (by decide), hv p (by omega) hq hi]
            rw [nI_iZ (Dq w K1 K2 p).natAbs, show ((Dq w K1 K2 p).natAbs : Int) = Dq w K1 K2 p by omega] at key
            exact key
          · rw [if_neg (show ¬ (0 : Int32) ≤ iZ _ from fun r => hz ((iZ_le (a := 0) (by omega) (by omega)).mp r)), rdI_at _ _ (show p < len 34 by show _ < 81; omega) (by decide), hv p (by omega) hq hi, iZ_neg]
            rw [nI_iZ (Dq w K1 K2 p).natAbs, show ((Dq w K1 K2 p).natAbs : Int) = - Dq w K1 K2 p by omega] at key
            exact key
      · rw [decide_eq_false hq, if_pos bI_f, nI_1]
        rw [show SA w h U D K1 K2 p = 0 from if_neg (fun z => hq z.1)] at key
        exact key
/-- between two seeds -/
def AI (σ : St) (w h : Nat) (U D : Nat → Bool) (K1 K2 : Nat → Nat) (kn : Nat → Bool) (hi : Nat → Int) (p : Nat) (mb : Bool) : Prop := KH σ kn hi ∧ Cl w h U D kn ∧ (∀ x y, x < w → y < h → U (y * w + x) = true → kn (9 * y + x) = true → hi (9 * y + x + 1) - hi (9 * y + x) = Dq w K1 K2 (9 * y + x + 1) - Dq w K1 K2 (9 * y + x)) ∧ (∀ q, q < 81 → kn q = true → -100 ≤ hi q ∧ hi q ≤ 100) ∧ (∀ q, q < p → vld w h q → innB w U D (w * h) (cel w q) = false → kn q = true ∧ (mb = true → hi q = 0)) ∧ (mb = false → ∃ q, q < 81 ∧ vld w h q ∧ innB w U D (w * h) (cel w q) = false ∧ kn q = true ∧ hi q ≠ 0) ∧ (agr w h U D K1 K2 → ∀ q, q < 81 → kn q = true → hi q = Dq w K1 K2 q)
theorem Dq_xy {w : Nat} (K1 K2 : Nat → Nat) {x y : Nat} (hx : x ≤ 8) : Dq w K1 K2 (9 * y + x) = Dz w K1 K2 x y ∧ cel w (9 * y + x) = y * w + x := by
  unfold Dq cel
  rw [show (9 * y + x) % 9 = x by omega, show (9 * y + x) / 9 = y by omega]
  exact ⟨rfl, rfl⟩
/-- a row from its first POINT -/
theorem AI_row {σ : St} {w h : Nat} {U D : Nat → Bool} {K1 K2 : Nat → Nat} (hw1 : 1 ≤ w) (hw8 : w ≤ 8) (hh8 : h ≤ 8) (l1 : LL w U D (w * h) K1) (l2 : LL w U D (w * h) K2) {kn : Nat → Bool} {hi : Nat → Int} (hA : AI σ w h U D K1 K2 kn hi 81 true) {y : Nat} (hy : y ≤ h) : ∀ x, x ≤ w → kn (9 * y + x) = true ∧ hi (9 * y + x) = Dz w K1 K2 x y := by
  obtain ⟨a1, a2, a3, a4, a5, a6, a7⟩ := hA
  have out : ∀ x, x ≤ w → innB w U D (w * h) (y * w + x) = false → kn (9 * y + x) = true ∧ hi (9 * y + x) = 0 := fun x hx hn => by
    have e := Dq_xy (w := w) K1 K2 (x := x) (y := y) (by omega)
    have := a5 (9 * y + x) (by omega) ⟨by omega, by omega⟩ (by rw [e.2]; exact hn)
    exact ⟨this.1, this.2 rfl⟩
  intro x
  induction x with
  | zero =>
    intro _
    have hn : innB w U D (w * h) (y * w + 0) = false := by
      cases z : innB w U D (w * h) (y * w + 0) with
      | false => rfl
      | true =>
        have := (inn_of z).2.1
        rw [Nat.add_zero, Nat.mul_mod_left] at this
        exact absurd rfl this
    have := out 0 (Nat.zero_le _) hn
    exact ⟨this.1, this.2⟩
  | succ x ih =>
    intro hx
    obtain ⟨i1, i2⟩ := ih (by omega)
    by_cases hU : y < h ∧ U (y * w + x) = true
    · have h3 := a3 x y (by omega) hU.1 hU.2 i1
      have h4 := (a2 x y (by omega) hU.1).1 hU.2
      rw [i1] at h4
      have e0 := (Dq_xy (w := w) K1 K2 (x := x) (y := y) (by omega)).1
      have e1 := (Dq_xy (w := w) K1 K2 (x := x + 1) (y := y) (by omega)).1
      refine ⟨h4.1.symm, ?_⟩
      rw [show 9 * y + (x + 1) = 9 * y + x + 1 by omega] at e1 ⊢
      rw [e0, e1] at h3
      omega
    · -- the UP between them is not there: neither is INNER
      have k3 : K1 (y * w + x) = 3 ∧ K2 (y * w + x) = 3 ∧ innB w U D (w * h) (y * w + x) = false ∧ innB w U D (w * h) (y * w + (x + 1)) = false := by
        by_cases hyh : y < h
        · have hlt := cell_lt (show x < w by omega) hyh
          have hUf : U (y * w + x) = false := by
            cases z : U (y * w + x) with
            | false => rfl
            | true => exact absurd ⟨hyh, z⟩ hU
          refine ⟨(l1.1 _ hlt).2.1.mpr hUf, (l2.1 _ hlt).2.1.mpr hUf, ?_, ?_⟩
          · cases z : innB w U D (w * h) (y * w + x) with
            | false => rfl
            | true => have := (inn_of z).2.2.2.2.2.1; rw [hUf] at this; cases this
          · cases z : innB w U D (w * h) (y * w + (x + 1)) with
            | false => rfl
            | true =>
              have := (inn_of z).2.2.2.2.2.2.1
              rw [show y * w + (x + 1) - 1 = y * w + x by omega, hUf] at this
              cases this
        · have hge : w * h ≤ y * w := by
            have : y = h := by omega
            rw [this, Nat.mul_comm]
            exact Nat.le_refl _
          refine ⟨l1.2.1 _ (by omega), l2.2.1 _ (by omega), ?_, ?_⟩
          · cases z : innB w U D (w * h) (y * w + x) with
            | false => rfl
            | true => have := (inn_of z).1; omega
          · cases z : innB w U D (w * h) (y * w + (x + 1)) with
            | false => rfl
            | true => have := (inn_of z).1; omega
      obtain ⟨k1, k2, n1, n2⟩ := k3
      have o1 := out x (by omega) n1
      have o2 := out (x + 1) hx n2
      refine ⟨o2.1, ?_⟩
      rw [o2.2, Dz_h, k1, k2, ← i2, o1.2]
      rfl
theorem cst_seed {σ : St} {w h s o : Nat} {U D : Nat → Bool} {K1 K2 : Nat → Nat} (hs : s < 4) (ho : o < 4) (l1 : LL w U D (w * h) K1) (l2 : LL w U D (w * h) K2) (hS : SX w h s o U D K1 K2 σ) {kn : Nat → Bool} {hi : Nat → Int} {p : Nat} {mb : Bool} (hp : p < 81) (hv : vld w h p) (hn : innB w U D (w * h) (cel w p) = false) (hk : kn p = false) (hA : AI σ w h U D K1 K2 kn hi p mb) :
    ∃ σ' kn' hi', f_X6_spread (nI s) (nI o) (si (si σ 35 p 1) 34 p (0 : Int32)) = some ((), σ') ∧ eqx P45 σ σ' ∧ AI σ' w h U D K1 K2 kn' hi' (p + 1) mb := by
  obtain ⟨a1, a2, a3, a4, a5, a6, a7⟩ := id hA
  have hex : eqx P45 σ (si (si σ 35 p 1) 34 p (0 : Int32)) := eqx.si (eqx.si eqx.rf (Or.inr rfl)) (Or.inl rfl)
  have hI : INV (si (si σ 35 p 1) 34 p (0 : Int32)) (upB kn p true) (upZ hi p 0) kn hi (- Dq w K1 K2 p, p) (Dq w K1 K2) := by
    refine ⟨KH_set a1 p 0, fun q hq hq0 => ?_, fun q hq hq1 hq0 => ?_, if_pos rfl⟩
    · have hne : q ≠ p := fun z => by rw [z, hk] at hq0; cases hq0
      unfold upB upZ
      rw [if_neg hne, if_neg hne]
      exact ⟨hq0, rfl⟩
    · unfold upB at hq1
      unfold upZ
      by_cases e : q = p
      · rw [if_pos e, e]
        show (0 : Int) = Dq w K1 K2 p + - Dq w K1 K2 p
        omega
      · rw [if_neg e, hq0] at hq1; cases hq1
  have hun : unk (upB kn p true) ≤ 81 := cnt_le _ _
  obtain ⟨σ', kn', hi', f1, f2, f3, f4⟩ := s_spread2 hs ho l1 l2 a2 FU _ _ _ (by unfold FU; omega) (hS.keep hex) hI
  obtain ⟨i1, i2, i3, i4⟩ := f2
  have i3 : ∀ q, q < 81 → kn' q = true → kn q = false → hi' q = Dq w K1 K2 q + - Dq w K1 K2 p := i3
  have hkp : kn' p = true ∧ hi' p = 0 := by
    have f1' : kn' p = true := i4
    exact ⟨f1', by rw [i3 p hp f1' hk]; omega⟩
  refine ⟨σ', kn', hi', f1, eqx.tr hex f3, i1, f4, fun x y hx hy hU hkx => ?_, fun q hq hkq => ?_, fun q hq hvq hnq => ?_, fun hm => ?_, fun ha q hq hkq => ?_⟩
  · have hw8 := hS.1.2.1
    have hh8 := hS.1.2.2.2.1
    have hc0 := ((a2 x y hx hy).1 hU).1
    have hc1 := ((f4 x y hx hy).1 hU).1
    cases z : kn (9 * y + x) with
    | true =>
      rw [z] at hc0
      rw [(i2 _ (by omega) z).2, (i2 _ (by omega) hc0.symm).2]
      exact a3 x y hx hy hU z
    | false =>
      rw [z] at hc0
      rw [hkx] at hc1
      rw [i3 _ (by omega) hkx z, i3 _ (by omega) hc1.symm hc0.symm]
      omega
  · cases z : kn q with
    | true => rw [(i2 q hq z).2]; exact a4 q hq z
    | false =>
      have := Dq_b w K1 K2 p
      have := Dq_b w K1 K2 q
      rw [i3 q hq hkq z]
      omega
  · by_cases e : q = p
    · rw [e]; exact ⟨hkp.1, fun _ => hkp.2⟩
    · have h5 := a5 q (by omega) hvq hnq
      have h2 := i2 q (by omega) h5.1
      exact ⟨h2.1, fun hm => by rw [h2.2]; exact h5.2 hm⟩
  · obtain ⟨q, q1, q2, q3, q4, q5⟩ := a6 hm
    have h2 := i2 q q1 q4
    exact ⟨q, q1, q2, q3, h2.1, by rw [h2.2]; exact q5⟩
  · cases z : kn q with
    | true => rw [(i2 q hq z).2]; exact a7 ha q hq z
    | false =>
      have h0 := ha (p % 9) (p / 9) hv.1 hv.2 hn
      have h0' : Dq w K1 K2 p = 0 := h0
      rw [i3 q hq hkq z, h0']
      omega
theorem s_apart67 {w h s o : Nat} {U D : Nat → Bool} {K1 K2 : Nat → Nat} (hs : s < 4) (ho : o < 4) (l1 : LL w U D (w * h) K1) (l2 : LL w U D (w * h) K2) : ∀ (n p : Nat) (mb : Bool) (σ : St) (kn : Nat → Bool) (hi : Nat → Int), p ≤ 81 → 81 - p < n → SX w h s o U D K1 K2 σ → AI σ w h U D K1 K2 kn hi p mb →
    ∃ σ' r, f_X6_apart_67 n (nI s) (nI o) (0 : Int32) (bI mb) (nI p) σ = some (r, σ') ∧ (agr w h U D K1 K2 → r = nI (sm (SA w h U D K1 K2) 81)) ∧ (¬ agr w h U D K1 K2 → r = -900009) ∧ eqx P45 σ σ' := by
  intro n
  induction n with
  | zero => intro p mb σ kn hi h1 h2; omega
  | succ n ih =>
    intro p mb σ kn hi h1 h2 hS hA
    obtain ⟨hw1, hw8, hh1, hh8, e0, -⟩ := id hS.1
    rw [f_X6_apart_67]
    by_cases hp : 81 ≤ p
    · have hp81 : p = 81 := by omega
      rw [if_pos (show (81 : Int32) ≤ nI p from nI_le (a := 81) hp (by omega))]
      subst hp81
      cases mb with
      | true =>
        have row := fun x y (hx : x ≤ w) (hy : y ≤ h) => AI_row hw1 hw8 hh8 l1 l2 hA hy x hx
        have hval : ∀ q, q < 81 → vld w h q → innB w U D (w * h) (cel w q) = true → gi σ 34 q = iZ (Dq w K1 K2 q) := fun q hq hv _ => by
          have r := row (q % 9) (q / 9) hv.1 hv.2
          rw [show 9 * (q / 9) + q % 9 = q by omega] at r
          rw [(hA.1 q hq).2 r.1, r.2]
          rfl
        have hagr : agr w h U D K1 K2 := fun x y hx hy hn => by
          have r := row x y hx hy
          have e := Dq_xy (w := w) K1 K2 (x := x) (y := y) (by omega)
          have := (hA.2.2.2.2.1 (9 * y + x) (by omega) ⟨by omega, by omega⟩ (by rw [e.2]; exact hn)).2 rfl
          rw [← r.2]
          exact this
        have h183 := s_183y hS.1 hval FU 0 (Nat.zero_le _) (by decide)
        exact ⟨σ, _, h183, fun _ => rfl, fun q => absurd hagr q, eqx.rf⟩
      | false =>
        have h183 := s_183n hS.1 FU 0 0 (Nat.zero_le _) (by decide)
        refine ⟨σ, _, h183, fun q => ?_, fun _ => rfl, eqx.rf⟩
        exfalso
        obtain ⟨q', q1, q2, q3, q4, q5⟩ := hA.2.2.2.2.2.1 rfl
        have := hA.2.2.2.2.2.2 q q' q1 q4
        have h0 : Dq w K1 K2 q' = 0 := q (q' % 9) (q' / 9) q2.1 q2.2 q3
        rw [h0] at this
        exact q5 this
    · have hp' : p < 81 := by omega
      rw [if_neg (show ¬ (81 : Int32) ≤ nI p from nI_ge (a := p) (b := 81) (by omega) (by decide)), show (9 : Int32) = nI 9 from rfl, rmI_at _ (by omega) (by decide) (by decide), dvI_at _ (by omega) (by decide) (by decide), bd_at (s_isPt hS.1 (by omega) (by omega))]
      by_cases hv : p % 9 ≤ w ∧ p / 9 ≤ h
      · rw [decide_eq_true hv, if_neg bIt, bd_at (s_isInner hS.1 hv.1 hv.2)]
        cases hin : innB w U D (w * h) (p / 9 * w + p % 9) with
        | true =>
          rw [if_neg bIt]
          unfold f_X6_apart_174
          rw [nI_1]
          refine ih (p + 1) mb σ kn hi (by omega) (by omega) hS ?_
          obtain ⟨a1, a2, a3, a4, a5, a6, a7⟩ := hA
          refine ⟨a1, a2, a3, a4, fun q hq hvq hnq => ?_, a6, a7⟩
          by_cases e : q = p
          · rw [e] at hnq; unfold cel at hnq; rw [hin] at hnq; cases hnq
          · exact a5 q (by omega) hvq hnq
        | false =>
          rw [if_pos bI_f]
          -- the block behind the flag
          have go : ∀ mb' : Bool, (kn p = true → mb' = (mb && decide (hi p = 0))) → (kn p = false → mb' = mb) → ∃ σ' r, f_X6_apart_140 (f_X6_apart_67 n) (nI s) (nI o) (0 : Int32) (nI p) (bI mb') σ = some (r, σ') ∧ (agr w h U D K1 K2 → r = nI (sm (SA w h U D K1 K2) 81)) ∧ (¬ agr w h U D K1 K2 → r = -900009) ∧ eqx P45 σ σ' := by
            intro mb' g1 g2
            unfold f_X6_apart_140 f_X6_apart_174
            rw [rdI_at _ _ (show p < len 35 from hp') (by decide), (hA.1 p hp').1, nI_1]
            cases hk : kn p with
            | false =>
              rw [if_pos bI_f, wrZ_at _ _ _ (show p < len 35 from hp') (by decide), zn_1, wrI_at _ _ _ (show p < len 34 from hp') (by decide)]
              obtain ⟨σ1, kn1, hi1, d1, d2, d3⟩ := cst_seed hs ho l1 l2 hS hp' hv hin hk hA
              rw [bd_at d1, g2 hk]
              obtain ⟨σ2, r, f1, f2, f3, f4⟩ := ih (p + 1) mb σ1 kn1 hi1 (by omega) (by omega) (hS.keep d2) d3
              exact ⟨σ2, r, f1, f2, f3, eqx.tr d2 f4⟩
            | true =>
              rw [if_neg bIt]
              refine ih (p + 1) mb' σ kn hi (by omega) (by omega) hS ?_
              have hmb := g1 hk
              obtain ⟨a1, a2, a3, a4, a5, a6, a7⟩ := hA
              refine ⟨a1, a2, a3, a4, fun q hq hvq hnq => ?_, fun hm => ?_, a7⟩
              · by_cases e : q = p
                · rw [e]
                  refine ⟨hk, fun hm => ?_⟩
                  rw [hm] at hmb
                  cases hmm : mb with
                  | false => rw [hmm] at hmb; cases hmb
                  | true => rw [hmm, Bool.true_and] at hmb; exact of_decide_eq_true hmb.symm
                · have h5 := a5 q (by omega) hvq hnq
                  refine ⟨h5.1, fun hm => h5.2 ?_⟩
                  rw [hm] at hmb
                  cases hmm : mb with
                  | false => rw [hmm] at hmb; cases hmb
                  | true => rfl
              · cases hmm : mb with
                | false => exact a6 hmm
                | true =>
                  rw [hm, hmm, Bool.true_and] at hmb
                  exact ⟨p, hp', hv, hin, hk, of_decide_eq_false hmb.symm⟩
          unfold f_X6_apart_139 f_X6_apart_135
          cases hm : mb with
          | false =>
            rw [if_pos bI_f]
            exact go false (fun _ => by rw [hm]; rfl) (fun _ => hm.symm)
          | true =>
            rw [if_neg bIt, rdI_at _ _ (show p < len 35 from hp') (by decide), (hA.1 p hp').1]
            cases hk : kn p with
            | false =>
              rw [if_pos bI_f]
              exact go true (fun q => by rw [hk] at q; cases q) (fun _ => hm.symm)
            | true =>
              have hb := hA.2.2.2.1 p hp' hk
              rw [if_neg bIt, rdI_at _ _ (show p < len 34 from hp') (by decide), (hA.1 p hp').2 hk]
              by_cases hz : hi p = 0
              · rw [if_pos (by rw [hz]; rfl)]
                exact go true (fun _ => by rw [hm, decide_eq_true hz]; rfl) (fun q => by rw [hk] at q; cases q)
              · rw [if_neg (show ¬ iZ (hi p) = (0 : Int32) from fun z => hz ((iZ_eq (b := 0) (by omega) (by omega)).mp z))]
                exact go false (fun _ => by rw [hm, decide_eq_false hz]; rfl) (fun q => by rw [hk] at q; cases q)
      · rw [decide_eq_false hv, if_pos bI_f]
        unfold f_X6_apart_174
        rw [nI_1]
        refine ih (p + 1) mb σ kn hi (by omega) (by omega) hS ?_
        obtain ⟨a1, a2, a3, a4, a5, a6, a7⟩ := hA
        refine ⟨a1, a2, a3, a4, fun q hq hvq hnq => ?_, a6, a7⟩
        by_cases e : q = p
        · rw [e] at hvq; exact absurd hvq hv
        · exact a5 q (by omega) hvq hnq
theorem s_apart40 {w h s o : Nat} {U D : Nat → Bool} {K1 K2 : Nat → Nat} (hs : s < 4) (ho : o < 4) (l1 : LL w U D (w * h) K1) (l2 : LL w U D (w * h) K2) : ∀ (n p : Nat) (σ : St), p ≤ 81 → 81 - p < n → SX w h s o U D K1 K2 σ → (∀ q, q < p → gi σ 35 q = 0) →
    ∃ σ' r, f_X6_apart_40 n (nI s) (nI o) (nI p) σ = some (r, σ') ∧ (agr w h U D K1 K2 → r = nI (sm (SA w h U D K1 K2) 81)) ∧ (¬ agr w h U D K1 K2 → r = -900009) ∧ eqx P45 σ σ' := by
  intro n
  induction n with
  | zero => intro p σ h1 h2; omega
  | succ n ih =>
    intro p σ h1 h2 hS h0
    rw [f_X6_apart_40]
    by_cases hp : 81 ≤ p
    · rw [if_pos (show (81 : Int32) ≤ nI p from nI_le (a := 81) hp (by omega))]
      refine s_apart67 hs ho l1 l2 FU 0 true σ (fun _ => false) (fun _ => 0) (Nat.zero_le _) (by decide) hS ⟨fun q hq => ⟨(by rw [h0 q (by omega)]; rfl), fun z => (by cases z)⟩, fun x y _ _ => ⟨fun _ => ⟨rfl, rfl⟩, fun _ => ⟨rfl, rfl⟩⟩, fun x y _ _ _ z => (by cases z), fun q _ z => (by cases z), fun q hq => (by omega), fun z => (by cases z), fun _ q _ z => (by cases z)⟩
    · rw [if_neg (show ¬ (81 : Int32) ≤ nI p from nI_ge (a := p) (b := 81) (by omega) (by decide)), wrZ_at _ _ _ (show p < len 35 by show _ < 81; omega) (by decide), zn_0, nI_1]
      have hex : eqx P45 σ (si σ 35 p 0) := eqx.si eqx.rf (Or.inr rfl)
      obtain ⟨σ2, r, f1, f2, f3, f4⟩ := ih (p + 1) (si σ 35 p 0) (by omega) (by omega) (hS.keep hex) (fun q hq => by
        rw [gi_si]
        by_cases e : q = p
        · rw [if_pos ⟨rfl, e⟩]
        · rw [if_neg (by omega)]; exact h0 q (by omega))
      exact ⟨σ2, r, f1, f2, f3, eqx.tr hex f4⟩
/-! both add up to the same -/
theorem sm_rows (G : Nat → Nat → Nat) {a : Nat} (ha : 1 ≤ a) : ∀ b, sm (fun c => G (c % a) (c / a)) (a * b) = sm (fun y => sm (fun x => G x y) a) b
  | 0 => rfl
  | b + 1 => by
    rw [Nat.mul_succ, sm_split, sm_rows G ha b]
    show _ = sm (fun y => sm (fun x => G x y) a) b + sm (fun x => G x b) a
    congr 1
    refine sm_congr (fun i hi => ?_)
    rw [Nat.mul_add_mod, Nat.mod_eq_of_lt hi, Nat.mul_add_div (by omega), Nat.div_eq_of_lt hi, Nat.add_zero]
theorem sm_cut {f : Nat → Nat} {a b : Nat} (hab : a ≤ b) (h0 : ∀ i, a ≤ i → i < b → f i = 0) : sm f b = sm f a := by
  obtain ⟨d, rfl⟩ : ∃ d, b = a + d := ⟨b - a, by omega⟩
  rw [sm_split, sm_all0 (f := fun i => f (a + i)) (fun i hi => h0 _ (by omega) (by omega)), Nat.add_zero]
theorem Rg_big {w N : Nat} {K : Nat → Nat} (h3 : ∀ c, N ≤ c → K c = 3) {x y : Nat} (hy : N ≤ y * w) : Rg w K x y = 0 := by
  unfold Rg
  exact sm_all0 (fun i _ => b1_f (by rw [h3 _ (by omega)]; decide))
theorem apart_sum {w h : Nat} {U D : Nat → Bool} {K1 K2 : Nat → Nat} (hw1 : 1 ≤ w) (hw8 : w ≤ 8) (hh8 : h ≤ 8) (l1 : LL w U D (w * h) K1) (l2 : LL w U D (w * h) K2) (ha : agr w h U D K1 K2) : sm (fun p => (Rr w K2 p - Rr w K1 p).natAbs) 64 = sm (SA w h U D K1 K2) 81 := by
  have har := area_le hw8 hh8
  have e1 : sm (fun p => (Rr w K2 p - Rr w K1 p).natAbs) 64 = sm (fun y => sm (fun x => (Dz w K1 K2 x y).natAbs) w) h := by
    rw [sm_cut har (fun p hp _ => by
      have hy : w * h ≤ p / w * w := by
        have : h ≤ p / w := (Nat.le_div_iff_mul_le (by omega)).mpr (by rw [Nat.mul_comm]; exact hp)
        rw [Nat.mul_comm w h]
        exact Nat.mul_le_mul_right w this
      unfold Rr
      rw [Rg_big l1.2.1 hy, Rg_big l2.2.1 hy]
      rfl)]
    exact sm_rows (fun x y => (Dz w K1 K2 x y).natAbs) hw1 h
  have e2 : sm (SA w h U D K1 K2) 81 = sm (fun y => sm (fun x => if (x ≤ w ∧ y ≤ h) ∧ innB w U D (w * h) (y * w + x) = true then (Dz w K1 K2 x y).natAbs else 0) 9) 9 := sm_rows (fun x y => if (x ≤ w ∧ y ≤ h) ∧ innB w U D (w * h) (y * w + x) = true then (Dz w K1 K2 x y).natAbs else 0) (a := 9) (by decide) 9
  have big : ∀ x y, (w ≤ x ∨ h ≤ y) → (if (x ≤ w ∧ y ≤ h) ∧ innB w U D (w * h) (y * w + x) = true then (Dz w K1 K2 x y).natAbs else 0) = 0 := by
    intro x y hxy
    refine if_neg (fun z => ?_)
    have hi := inn_of z.2
    rcases hxy with q | q
    · have : x = w := by omega
      have h2 := hi.2.1
      rw [this, show y * w + w = (y + 1) * w by rw [Nat.add_mul, Nat.one_mul], Nat.mul_mod_left] at h2
      exact h2 rfl
    · have : y = h := by omega
      have h1 := hi.1
      rw [this, Nat.mul_comm h w] at h1
      omega
  rw [e1, e2, sm_cut (show h ≤ 9 by omega) (fun y hy _ => sm_all0 (fun x _ => big x y (Or.inr hy)))]
  refine sm_congr (fun y hy => ?_)
  rw [sm_cut (show w ≤ 9 by omega) (fun x hx _ => big x y (Or.inl hx))]
  refine sm_congr (fun x hx => ?_)
  by_cases hi : innB w U D (w * h) (y * w + x) = true
  · rw [if_pos ⟨by omega, hi⟩]
  · rw [if_neg (fun z => hi z.2), ha x y (by omega) (by omega) (by
      cases z : innB w U D (w * h) (y * w + x) with
      | false => rfl
      | true => exact absurd z hi)]
    rfl
