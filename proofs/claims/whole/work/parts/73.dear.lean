/-! ===== HALF 2: THE DEAREST, the reference's walk ===== -/
theorem om_some {f : Nat → Option Int} : ∀ {n : Nat} {z : Int}, om f n = some z → ∃ k, k < n ∧ f k = some z
  | 0, z, h => by cases h
  | n + 1, z, h => by
    have h' : oM (om f n) (f n) = some z := h
    cases h1 : om f n with
    | none =>
      rw [h1] at h'
      exact ⟨n, by omega, h'⟩
    | some a =>
      cases h2 : f n with
      | none =>
        rw [h1, h2] at h'
        obtain ⟨k, hk, e⟩ := om_some (n := n) h1
        exact ⟨k, by omega, by rw [e]; exact h'⟩
      | some b =>
        rw [h1, h2] at h'
        have h3 : (if b ≤ a then a else b) = z := Option.some.inj h'
        by_cases q : b ≤ a
        · rw [if_pos q] at h3
          subst h3
          obtain ⟨k, hk, e⟩ := om_some (n := n) h1
          exact ⟨k, by omega, e⟩
        · rw [if_neg q] at h3
          subst h3
          exact ⟨n, by omega, h2⟩
/-- the first of four that is v -/
def lk (f : Nat → Option Int) (v : Option Int) : Nat := if f 0 = v then 0 else if f 1 = v then 1 else if f 2 = v then 2 else 3
theorem lk_spec {f : Nat → Option Int} {v : Option Int} (h : ∃ k, k < 4 ∧ f k = v) : f (lk f v) = v ∧ lk f v < 4 ∧ ∀ j, j < lk f v → f j ≠ v := by
  unfold lk
  by_cases h0 : f 0 = v
  · rw [if_pos h0]
    exact ⟨h0, by decide, fun j hj => by omega⟩
  · rw [if_neg h0]
    by_cases h1 : f 1 = v
    · rw [if_pos h1]
      refine ⟨h1, by decide, fun j hj => ?_⟩
      have : j = 0 := by omega
      subst this
      exact h0
    · rw [if_neg h1]
      by_cases h2 : f 2 = v
      · rw [if_pos h2]
        refine ⟨h2, by decide, fun j hj => ?_⟩
        rcases (show j = 0 ∨ j = 1 by omega) with e | e <;> subst e
        · exact h0
        · exact h1
      · rw [if_neg h2]
        obtain ⟨k, hk, e⟩ := h
        rcases (show k = 0 ∨ k = 1 ∨ k = 2 ∨ k = 3 by omega) with q | q | q | q <;> subst q
        · exact absurd e h0
        · exact absurd e h1
        · exact absurd e h2
        · refine ⟨e, by decide, fun j hj => ?_⟩
          rcases (show j = 0 ∨ j = 1 ∨ j = 2 by omega) with q | q | q <;> subst q
          · exact h0
          · exact h1
          · exact h2
/-- what is best by each KIND -/
def fB (w : Nat) (U D : Nat → Bool) (wt : Nat → Nat → Int) (N c m k : Nat) : Option Int := oA (Tr w U D c m k) (Bs w U D wt (N - (c + 1)) (c + 1)) (wt c k)
theorem Bs_fB {w : Nat} {U D : Nat → Bool} {wt : Nat → Nat → Int} {N c m : Nat} (hc : c < N) : Bs w U D wt (N - c) c m = om (fB w U D wt N c m) 4 := by
  rw [show N - c = N - (c + 1) + 1 by omega]
  rfl
def DW (w : Nat) (U D : Nat → Bool) (wt : Nat → Nat → Int) (N : Nat) : Nat → Nat
  | 0 => 0
  | c + 1 => (Tr w U D c (DW w U D wt N c) (lk (fB w U D wt N c (DW w U D wt N c)) (Bs w U D wt (N - c) c (DW w U D wt N c)))).getD 0
def DK (w : Nat) (U D : Nat → Bool) (wt : Nat → Nat → Int) (N c : Nat) : Nat := lk (fB w U D wt N c (DW w U D wt N c)) (Bs w U D wt (N - c) c (DW w U D wt N c))
theorem DW_step {w : Nat} {U D : Nat → Bool} {wt : Nat → Nat → Int} {N c : Nat} (hc : c < N) {z : Int} (h : Bs w U D wt (N - c) c (DW w U D wt N c) = some z) :
    DK w U D wt N c < 4 ∧ Tr w U D c (DW w U D wt N c) (DK w U D wt N c) = some (DW w U D wt N (c + 1)) ∧ fB w U D wt N c (DW w U D wt N c) (DK w U D wt N c) = some z ∧ (∀ j, j < DK w U D wt N c → fB w U D wt N c (DW w U D wt N c) j ≠ some z) ∧ ∃ y, Bs w U D wt (N - (c + 1)) (c + 1) (DW w U D wt N (c + 1)) = some y := by
  have e : om (fB w U D wt N c (DW w U D wt N c)) 4 = some z := by rw [← Bs_fB hc]; exact h
  have hs := lk_spec (om_some e)
  have hk : DK w U D wt N c = lk (fB w U D wt N c (DW w U D wt N c)) (some z) := by unfold DK; rw [h]
  have e1 : DW w U D wt N (c + 1) = (Tr w U D c (DW w U D wt N c) (DK w U D wt N c)).getD 0 := rfl
  rw [← hk] at hs
  obtain ⟨s1, s2, s3⟩ := hs
  refine ⟨s2, ?_, s1, s3, ?_⟩
  · cases ht : Tr w U D c (DW w U D wt N c) (DK w U D wt N c) with
    | none => unfold fB at s1; rw [ht] at s1; cases s1
    | some a => rw [e1, ht]; rfl
  · cases ht : Tr w U D c (DW w U D wt N c) (DK w U D wt N c) with
    | none => unfold fB at s1; rw [ht] at s1; cases s1
    | some a =>
      rw [e1, ht]
      show ∃ y, Bs w U D wt (N - (c + 1)) (c + 1) a = some y
      cases hb : Bs w U D wt (N - (c + 1)) (c + 1) a with
      | none =>
        unfold fB at s1
        rw [ht] at s1
        simp only [oA, hb] at s1
        cases s1
      | some y => exact ⟨y, rfl⟩
theorem DW_ok {w : Nat} {U D : Nat → Bool} {wt : Nat → Nat → Int} {N : Nat} {z0 : Int} (h0 : Bs w U D wt N 0 0 = some z0) : ∀ {c : Nat}, c ≤ N → ∃ z, Bs w U D wt (N - c) c (DW w U D wt N c) = some z
  | 0, _ => ⟨z0, h0⟩
  | c + 1, hc => by
    obtain ⟨z, hz⟩ := DW_ok h0 (c := c) (by omega)
    exact (DW_step (by omega) hz).2.2.2.2
theorem DK_Rn {w : Nat} {U D : Nat → Bool} {wt : Nat → Nat → Int} {N : Nat} {z0 : Int} (h0 : Bs w U D wt N 0 0 = some z0) : ∀ {c : Nat}, c ≤ N → Rn w U D (DK w U D wt N) c = some (DW w U D wt N c)
  | 0, _ => rfl
  | c + 1, hc => by
    obtain ⟨z, hz⟩ := DW_ok h0 (c := c) (by omega)
    unfold Rn
    rw [DK_Rn h0 (by omega)]
    exact (DW_step (by omega) hz).2.1
theorem DK_IsL {w : Nat} {U D : Nat → Bool} {wt : Nat → Nat → Int} {N : Nat} {z0 : Int} (h0 : Bs w U D wt N 0 0 = some z0) : IsL w U D N (DK w U D wt N) := by
  refine ⟨?_, fun c hc => ?_⟩
  · rw [DK_Rn h0 (Nat.le_refl _)]
    obtain ⟨z, hz⟩ := DW_ok h0 (Nat.le_refl N)
    rw [Nat.sub_self] at hz
    have hz' : (if DW w U D wt N N = 0 then some (0 : Int) else none) = some z := hz
    by_cases q : DW w U D wt N N = 0
    · rw [q]
    · rw [if_neg q] at hz'; cases hz'
  · obtain ⟨z, hz⟩ := DW_ok h0 (c := c) (by omega)
    exact (DW_step hc hz).1
theorem DW_lt {w : Nat} {U D : Nat → Bool} {wt : Nat → Nat → Int} (hw : 1 ≤ w) {N : Nat} {z0 : Int} (h0 : Bs w U D wt N 0 0 = some z0) {c : Nat} (hc : c ≤ N) : DW w U D wt N c < 2 ^ w ∧ DW w U D wt N c ∈ lev w U D c := by
  have h := Rn_lev (DK_IsL h0).2 hc (DK_Rn h0 hc)
  exact ⟨lev_lt hw h, h⟩
theorem s_isBestM {F : Nat → Int32} {w h : Nat} {U D : Nat → Bool} {wt : Nat → Nat → Int} (hW : WtR F w h wt 3 1) {σ : St} (g : MG σ w h U D) (hF : ∀ j, gi σ 28 j = F j) (hB : BestOK σ w h U D wt) {c m k : Nat} (hc : c < w * h) (hm : m < 2 ^ w) (hk : k < 4) {z : Int} (hz : Bs w U D wt (w * h - c) c m = some z) :
    f_X6_isBest (nI c) (nI m) (nI k) σ = some (bI (decide (fB w U D wt (w * h) c m k = some z)), σ) := by
  obtain ⟨hw1, hw8, hh1, hh8, -⟩ := id g
  have har := area_le hw8 hh8
  have h256 := pow_256 hw8
  have hbz := B_800 hw8 hh8 (U := U) (D := D) hW.1 (show w * h - c ≤ w * h by omega) c m z hz
  unfold f_X6_isBest f_X6_isBest_83 f_X6_isBest_84
  rw [bd_at (s_then g hc hm hk)]
  cases ht : Tr w U D c m k with
  | none =>
    rw [if_pos (show oI none = -900009 from rfl), gz_0, decide_eq_false (by unfold fB; rw [ht]; intro q; cases q), bI_f]
  | some a =>
    have ha := Tr_lt hw1 hm ht
    have hl := l256 (by omega : c + 1 ≤ w * h) hw8 hh8 ha
    rw [if_neg (show ¬ oI (some a) = -900009 from nI_none (by omega)), oI_some, show (256 : Int32) = nI 256 from rfl, nI_mul, nI_add, nI_add, nI_add, show 256 * c + 256 + a = 256 * (c + 1) + a by omega]
    rw [rdI_at _ _ (show 256 * (c + 1) + a < len 33 from hl) (by decide), hB (c + 1) (by omega) a ha]
    have hba := oB_le (B_800 hw8 hh8 (U := U) (D := D) hW.1 (show w * h - (c + 1) ≤ w * h by omega) (c + 1) a) (show (10000 : Int) ≤ 800000 by decide)
    cases hb : Bs w U D wt (w * h - (c + 1)) (c + 1) a with
    | none =>
      rw [if_pos (show oZ none = -900009 from rfl), gz_0, decide_eq_false (by unfold fB; rw [ht]; simp only [oA, hb]; intro q; cases q), bI_f]
    | some b =>
      rw [hb] at hba
      have hbb := B_800 hw8 hh8 (U := U) (D := D) hW.1 (show w * h - (c + 1) ≤ w * h by omega) (c + 1) a b hb
      have hwt := hW.1 c k
      have hl2 := l256 (by omega : c ≤ w * h) hw8 hh8 hm
      rw [if_neg (fun q => by have := (oZ_none hba).mp q; cases this), rdI_at _ _ (show 256 * (c + 1) + a < len 33 from hl) (by decide), hB (c + 1) (by omega) a ha, hb, bd_at (hW.2 σ hF c hc k hk)]
      rw [rdI_at _ _ (show 256 * c + m < len 33 from hl2) (by decide), hB c (by omega) m hm, hz]
      show (if iZ b + iZ (wt c k) = iZ z then _ else _) = _
      rw [iZ_add]
      have hf : fB w U D wt (w * h) c m k = some (b + wt c k) := by unfold fB; rw [ht]; simp only [oA, hb]
      by_cases q : b + wt c k = z
      · rw [if_pos (by rw [q]), gz_1, decide_eq_true (by rw [hf, q]), bI_t]
      · rw [if_neg (fun e => q ((iZ_eq (by omega) (by omega)).mp e)), gz_0, decide_eq_false (by rw [hf]; intro e; exact q (Option.some.inj e)), bI_f]
theorem s_ld45 {F : Nat → Int32} {w h : Nat} {U D : Nat → Bool} {wt : Nat → Nat → Int} (hW : WtR F w h wt 3 1) {σ : St} (g : MG σ w h U D) (hF : ∀ j, gi σ 28 j = F j) (hB : BestOK σ w h U D wt) {c s : Nat} (hc : c < w * h) (hs : s < 4) {z0 : Int} (h0 : Bs w U D wt (w * h) 0 0 = some z0) (k34 : Int32 → Int32 → Int32 → St → Option (Int32 × St)) :
    ∀ (n k : Nat), k ≤ DK w U D wt (w * h) c → DK w U D wt (w * h) c - k < n → f_X6_layDearest_45 k34 n (nI s) (nI (DW w U D wt (w * h) c)) (nI c) (nI k) σ = k34 (nI s) (nI (DW w U D wt (w * h) (c + 1))) (nI (c + 1)) (si σ 30 (64 * s + c) (nI (DK w U D wt (w * h) c))) := by
  obtain ⟨hw1, hw8, hh1, hh8, -⟩ := id g
  have har := area_le hw8 hh8
  obtain ⟨z, hz⟩ := DW_ok h0 (show c ≤ w * h by omega)
  obtain ⟨s1, s2, s3, s4, -⟩ := DW_step hc hz
  have hm := (DW_lt hw1 h0 (show c ≤ w * h by omega)).1
  have ei : (64 : Int32) * nI s + nI c = nI (64 * s + c) := by rw [show (64 : Int32) = nI 64 from rfl, nI_mul, nI_add]
  intro n
  induction n with
  | zero => intro k h1 h2; omega
  | succ n ih =>
    intro k h1 h2
    rw [f_X6_layDearest_45, bd_at (s_isBestM hW g hF hB hc hm (show k < 4 by omega) hz)]
    by_cases e : k = DK w U D wt (w * h) c
    · have hex : eqx (fun p => p = 30) σ (si σ 30 (64 * s + c) (nI (DK w U D wt (w * h) c))) := eqx.si eqx.rf rfl
      rw [e, decide_eq_true s3, if_neg (by decide), ei, wrI_at _ _ _ (show 64 * s + c < len 30 by show _ < 256; omega) (by decide), bd_at (s_then (g.keep hex (by decide) (by decide)) hc hm s1), s2, oI_some, nI_1]
    · rw [decide_eq_false (s4 k (by omega)), if_pos (by decide), nI_1]
      exact ih (k + 1) (by omega) (by omega)
theorem s_ld34 {F : Nat → Int32} {w h : Nat} {U D : Nat → Bool} {wt : Nat → Nat → Int} (hW : WtR F w h wt 3 1) {s : Nat} (hs : s < 4) {z0 : Int} (h0 : Bs w U D wt (w * h) 0 0 = some z0) : ∀ (n c : Nat) (σ : St), c ≤ w * h → w * h - c < n → MG σ w h U D → (∀ j, gi σ 28 j = F j) → BestOK σ w h U D wt → LM σ s c (DK w U D wt (w * h)) →
    ∃ σ', f_X6_layDearest_34 n (nI s) (nI (DW w U D wt (w * h) c)) (nI c) σ = some (iZ z0, σ') ∧ LM σ' s (w * h) (DK w U D wt (w * h)) ∧ gi σ' 29 s = 1 ∧ σ'.2 = σ.2 ∧ (∀ p j, ¬ (p = 29 ∧ j = s) → ¬ (p = 30 ∧ 64 * s ≤ j ∧ j < 64 * s + 64) → gi σ' p j = gi σ p j) := by
  intro n
  induction n with
  | zero => intro c σ h1 h2; omega
  | succ n ih =>
    intro c σ h1 h2 g hF hB hL
    obtain ⟨hw1, hw8, hh1, hh8, -⟩ := id g
    have har := area_le hw8 hh8
    rw [f_X6_layDearest_34, bd_at (s_cells g)]
    by_cases hc : w * h ≤ c
    · have e : c = w * h := by omega
      rw [if_pos (nI_le hc (by omega)), wrZ_at _ _ _ (show s < len 29 from hs) (by decide), show vp_nar .boolean 1 = 1 from rfl, show (0 : Int32) = nI 0 from rfl, rdI_at _ _ (show 0 < len 33 by decide) (by decide)]
      refine ⟨_, by rw [gi_si_ne _ _ _ _ (by omega), show (0 : Nat) = 256 * 0 + 0 from rfl, hB 0 (Nat.zero_le _) 0 (Nat.pow_pos (by decide)), Nat.sub_zero, h0]; rfl, fun c' hc' => ?_, gi_si_same _ _ _ _, rfl, fun p j h3 h4 => gi_si_ne _ _ _ _ h3⟩
      rw [gi_si_ne _ _ _ _ (by omega)]
      exact hL c' (by omega)
    · have hc' : c < w * h := by omega
      rw [if_neg (nI_ge hc' (by omega))]
      obtain ⟨z, hz⟩ := DW_ok h0 (show c ≤ w * h by omega)
      have h45 := s_ld45 hW g hF hB hc' hs h0 (f_X6_layDearest_34 n) FU 0 (Nat.zero_le _) (by have := (DW_step hc' hz).1; unfold FU; omega)
      rw [show nI 0 = 0 from rfl] at h45
      rw [h45]
      have hex : eqx (fun p => p = 30) σ (si σ 30 (64 * s + c) (nI (DK w U D wt (w * h) c))) := eqx.si eqx.rf rfl
      obtain ⟨σ', e1, e2, e3, e4, e5⟩ := ih (c + 1) (si σ 30 (64 * s + c) (nI (DK w U D wt (w * h) c))) (by omega) (by omega) (g.keep hex (by decide) (by decide)) (fun j => by rw [gi_si_ne _ _ _ _ (by omega)]; exact hF j) (fun c2 hc2 m hm => by rw [gi_si_ne _ _ _ _ (by omega)]; exact hB c2 hc2 m hm) (fun c' hc2 => by
        by_cases he : c' = c
        · subst he; rw [gi_si_same]
        · rw [gi_si_ne _ _ _ _ (by omega)]; exact hL c' (by omega))
      refine ⟨σ', e1, e2, e3, e4, fun p j h3 h4 => ?_⟩
      rw [e5 p j h3 h4, gi_si_ne _ _ _ _ (by omega)]
