/-! ===== HALF 2: the reference's comings, with, kinds, forced ===== -/
def ComeOK (σ : St) (w h : Nat) (U D : Nat → Bool) : Prop := ∀ c, c ≤ w * h → ∀ m, m < 2 ^ w → gl σ 32 (256 * c + m) = lN (Cm w U D c m)
def Pt (w : Nat) (U D : Nat → Bool) (c m k m' : Nat) : Nat := sm (fun i => sm (fun j => if Tr w U D c i j = some m' then Cm w U D c i else 0) 4) m + sm (fun j => if Tr w U D c m j = some m' then Cm w U D c m else 0) k
def CO (σ : St) (w h : Nat) (U D : Nat → Bool) (c : Nat) : Prop := (∀ c', c' ≤ c → ∀ m', m' < 2 ^ w → gl σ 32 (256 * c' + m') = lN (Cm w U D c' m')) ∧ ∀ c', c < c' → c' ≤ w * h → ∀ m', m' < 2 ^ w → gl σ 32 (256 * c' + m') = 0
def CI (σ : St) (w h : Nat) (U D : Nat → Bool) (c m k : Nat) : Prop := (∀ c', c' ≤ c → ∀ m', m' < 2 ^ w → gl σ 32 (256 * c' + m') = lN (Cm w U D c' m')) ∧ (∀ m', m' < 2 ^ w → gl σ 32 (256 * (c + 1) + m') = lN (Pt w U D c m k m')) ∧ ∀ c', c + 1 < c' → c' ≤ w * h → ∀ m', m' < 2 ^ w → gl σ 32 (256 * c' + m') = 0
theorem Pt_4 (w : Nat) (U D : Nat → Bool) (c m m' : Nat) : Pt w U D c m 4 m' = Pt w U D c (m + 1) 0 m' := rfl
theorem CI_next {σ : St} {w h : Nat} {U D : Nat → Bool} {c m : Nat} (h0 : CI σ w h U D c m 4) : CI σ w h U D c (m + 1) 0 := h0
theorem CI_0 {σ : St} {w h : Nat} {U D : Nat → Bool} {c : Nat} (hc : c < w * h) (h0 : CO σ w h U D c) : CI σ w h U D c 0 0 := ⟨h0.1, fun m' hm' => by rw [h0.2 (c + 1) (by omega) (by omega) m' hm']; rfl, fun c' h1 h2 => h0.2 c' (by omega) h2⟩
theorem CI_end {σ : St} {w h : Nat} {U D : Nat → Bool} {c : Nat} (h0 : CI σ w h U D c (2 ^ w) 0) : CO σ w h U D (c + 1) := by
  refine ⟨fun c' h1 m' hm' => ?_, h0.2.2⟩
  by_cases hc : c' = c + 1
  · subst hc; rw [h0.2.1 m' hm']; rfl
  · exact h0.1 c' (by omega) m' hm'
theorem s_layCome_56 {w h : Nat} {U D : Nat → Bool} {c m : Nat} (hc : c < w * h) (hm : m < 2 ^ w) (k48 : Int32 → Int32 → Int32 → St → Option (Unit × St)) (x1 : Int32) :
    ∀ (n k : Nat) (σ : St), k ≤ 4 → 4 - k < n → MG σ w h U D → CI σ w h U D c m k →
    ∃ σ', f_X6_layCome_56 k48 n x1 (nI c) (nI m) (nI k) σ = k48 x1 (nI c) (nI (m + 1)) σ' ∧ CI σ' w h U D c m 4 ∧ σ'.1 = σ.1 ∧ eqx (fun p => p = 32) σ σ' := by
  intro n
  induction n with
  | zero => intro k σ h1 h2; omega
  | succ n ih =>
    intro k σ h1 h2 g hr
    obtain ⟨hw1, hw8, hh1, hh8, -⟩ := id g
    have hl := l256 (by omega : c ≤ w * h) hw8 hh8 hm
    have h256 := pow_256 hw8
    rw [f_X6_layCome_56]
    by_cases hk : 4 ≤ k
    · have e : k = 4 := by omega
      subst e
      rw [if_pos (show (4 : Int32) ≤ nI 4 by decide), nI_1]
      exact ⟨σ, rfl, hr, rfl, eqx.rf⟩
    · rw [if_neg (show ¬ (4 : Int32) ≤ nI k from nI_ge (a := k) (b := 4) (by omega) (by decide)), bd_at (s_then g hc hm (by omega))]
      unfold f_X6_layCome_111
      have hs : ∀ m', Pt w U D c m (k + 1) m' = Pt w U D c m k m' + if Tr w U D c m k = some m' then Cm w U D c m else 0 := fun m' => by unfold Pt; rw [Nat.add_assoc]; rfl
      cases ht : Tr w U D c m k with
      | none =>
        rw [if_pos (show oI none = -900009 from rfl), nI_1]
        exact ih (k + 1) σ (by omega) (by omega) g ⟨hr.1, fun m' hm' => by rw [hs, ht, if_neg (by simp), Nat.add_zero]; exact hr.2.1 m' hm', hr.2.2⟩
      | some a =>
        have ha := Tr_lt hw1 hm ht
        have hl' := l256 (by omega : c + 1 ≤ w * h) hw8 hh8 ha
        rw [if_neg (show ¬ oI (some a) = -900009 from nI_none (by omega)), oI_some, show (256 : Int32) = nI 256 from rfl, nI_mul, nI_add, nI_add, nI_add]
        have ei : 256 * c + 256 + a = 256 * (c + 1) + a := by omega
        rw [ei, rdL_at _ _ (show 256 * (c + 1) + a < len 32 from hl') (by decide), rdL_at _ _ (show 256 * c + m < len 32 from hl) (by decide), wrL_at _ _ _ (show 256 * (c + 1) + a < len 32 from hl') (by decide), nI_1]
        rw [hr.2.1 a ha, hr.1 c (Nat.le_refl _) m hm, lN_add]
        obtain ⟨σ', e1, e2, e3, e4⟩ := ih (k + 1) (sl σ 32 (256 * (c + 1) + a) (lN (Pt w U D c m k a + Cm w U D c m))) (by omega) (by omega) g ⟨fun c' h3 m' hm' => by
            rw [gl_sl_ne _ _ _ _ (by omega)]; exact hr.1 c' h3 m' hm', fun m' hm' => by
            rw [hs, ht]
            by_cases hq : m' = a
            · subst hq; rw [gl_sl_same, if_pos rfl]
            · rw [gl_sl_ne _ _ _ _ (by omega), if_neg (by simp; exact fun z => hq z.symm), Nat.add_zero]; exact hr.2.1 m' hm', fun c' h3 h4 m' hm' => by
            rw [gl_sl_ne _ _ _ _ (by omega)]; exact hr.2.2 c' h3 h4 m' hm'⟩
        exact ⟨σ', e1, e2, e3, eqx.tr (eqx.sl eqx.rf rfl) e4⟩
theorem s_layCome_48 {w h : Nat} {U D : Nat → Bool} {c : Nat} (hc : c < w * h) (k38 : Int32 → Int32 → St → Option (Unit × St)) :
    ∀ (n m : Nat) (σ : St), m ≤ 2 ^ w → 2 ^ w - m < n → MG σ w h U D → CI σ w h U D c m 0 →
    ∃ σ', f_X6_layCome_48 k38 n (nI (2 ^ w)) (nI c) (nI m) σ = k38 (nI (2 ^ w)) (nI (c + 1)) σ' ∧ CI σ' w h U D c (2 ^ w) 0 ∧ σ'.1 = σ.1 ∧ eqx (fun p => p = 32) σ σ' := by
  intro n
  induction n with
  | zero => intro m σ h1 h2; omega
  | succ n ih =>
    intro m σ h1 h2 g hr
    obtain ⟨hw1, hw8, hh1, hh8, -⟩ := id g
    have h256 := pow_256 hw8
    rw [f_X6_layCome_48]
    by_cases hm : 2 ^ w ≤ m
    · have e : m = 2 ^ w := by omega
      rw [if_pos (nI_le hm (by omega)), nI_1]
      rw [e] at hr
      exact ⟨σ, rfl, hr, rfl, eqx.rf⟩
    · rw [if_neg (nI_ge (by omega) (by omega))]
      obtain ⟨τ, e1, e2, e3, e4⟩ := s_layCome_56 hc (by omega : m < 2 ^ w) (f_X6_layCome_48 k38 n) (nI (2 ^ w)) FU 0 σ (by decide) (by decide) g hr
      rw [show nI 0 = 0 from rfl] at e1
      rw [e1]
      obtain ⟨σ', f1, f2, f3, f4⟩ := ih (m + 1) τ (by omega) (by omega) (g.keep e4 (by decide) (by decide)) (CI_next e2)
      exact ⟨σ', f1, f2, f3.trans e3, eqx.tr e4 f4⟩
theorem s_layCome_38 {w h : Nat} {U D : Nat → Bool} : ∀ (n c : Nat) (σ : St), c ≤ w * h → w * h - c < n → MG σ w h U D → CO σ w h U D c →
    ∃ σ', f_X6_layCome_38 n (nI (2 ^ w)) (nI c) σ = some ((), σ') ∧ ComeOK σ' w h U D ∧ σ'.1 = σ.1 ∧ eqx (fun p => p = 32) σ σ' := by
  intro n
  induction n with
  | zero => intro c σ h1 h2; omega
  | succ n ih =>
    intro c σ h1 h2 g hr
    obtain ⟨hw1, hw8, hh1, hh8, -⟩ := id g
    have h256 := pow_256 hw8
    have har := area_le hw8 hh8
    rw [f_X6_layCome_38, bd_at (s_cells g)]
    by_cases hc : w * h ≤ c
    · rw [if_pos (nI_le hc (by omega))]
      exact ⟨σ, rfl, fun c' h3 m hm => hr.1 c' (by omega) m hm, rfl, eqx.rf⟩
    · rw [if_neg (nI_ge (by omega) (by omega))]
      obtain ⟨τ, e1, e2, e3, e4⟩ := s_layCome_48 (by omega : c < w * h) (f_X6_layCome_38 n) FU 0 σ (Nat.zero_le _) (by unfold FU; omega) g (CI_0 (by omega) hr)
      rw [show nI 0 = 0 from rfl] at e1
      rw [e1]
      obtain ⟨σ', f1, f2, f3, f4⟩ := ih (c + 1) τ (by omega) (by omega) (g.keep e4 (by decide) (by decide)) (CI_end e2)
      exact ⟨σ', f1, f2, f3.trans e3, eqx.tr e4 f4⟩
theorem s_layCome_9 {w h : Nat} {U D : Nat → Bool} : ∀ (n x : Nat) (σ : St), x ≤ 16640 → 16640 - x < n → MG σ w h U D → (∀ j, j < x → gl σ 32 j = 0) →
    ∃ σ', f_X6_layCome_9 n (nI (2 ^ w)) (nI x) σ = some ((), σ') ∧ ComeOK σ' w h U D ∧ σ'.1 = σ.1 ∧ eqx (fun p => p = 32) σ σ' := by
  intro n
  induction n with
  | zero => intro x σ h1 h2; omega
  | succ n ih =>
    intro x σ h1 h2 g hr
    obtain ⟨hw1, hw8, hh1, hh8, -⟩ := id g
    have h256 := pow_256 hw8
    have har := area_le hw8 hh8
    rw [f_X6_layCome_9, show (16640 : Int32) = nI 16640 from rfl]
    by_cases hx : 16640 ≤ x
    · rw [if_pos (nI_le hx (by omega)), show (0 : Int32) = nI 0 from rfl, wrL_at _ _ _ (show 0 < len 32 by decide) (by decide)]
      obtain ⟨σ', e1, e2, e3, e4⟩ := s_layCome_38 FU 0 (sl σ 32 0 1) (Nat.zero_le _) (by unfold FU; omega) g ⟨fun c' h3 m' hm' => by
        have : c' = 0 := by omega
        subst this
        by_cases h0 : m' = 0
        · subst h0; rw [show 256 * 0 + 0 = 0 from rfl, gl_sl_same]; rfl
        · rw [gl_sl_ne _ _ _ _ (by omega), hr _ (by omega), show Cm w U D 0 m' = if m' = 0 then 1 else 0 from rfl, if_neg h0]; rfl, fun c' h3 h4 m' hm' => by
        have hl := l256 h4 hw8 hh8 hm'
        rw [gl_sl_ne _ _ _ _ (by omega), hr _ (by omega)]⟩
      exact ⟨σ', e1, e2, e3, eqx.tr (eqx.sl eqx.rf rfl) e4⟩
    · rw [if_neg (nI_ge (by omega) (by omega)), wrL_at _ _ _ (show x < len 32 by show x < 16640; omega) (by decide), nI_1]
      obtain ⟨σ', e1, e2, e3, e4⟩ := ih (x + 1) (sl σ 32 x 0) (by omega) (by omega) g (fun j hj => by
        by_cases hq : j = x
        · subst hq; rw [gl_sl_same]
        · rw [gl_sl_ne _ _ _ _ (by omega)]; exact hr j (by omega))
      exact ⟨σ', e1, e2, e3, eqx.tr (eqx.sl eqx.rf rfl) e4⟩
theorem s_layCome {σ : St} {w h : Nat} {U D : Nat → Bool} (g : MG σ w h U D) : ∃ σ', f_X6_layCome σ = some ((), σ') ∧ ComeOK σ' w h U D ∧ σ'.1 = σ.1 ∧ eqx (fun p => p = 32) σ σ' := by
  unfold f_X6_layCome
  rw [g.2.2.2.2.1, sh_many w (by have := g.2.1; omega), show (0 : Int32) = nI 0 from rfl]
  exact s_layCome_9 FU 0 σ (Nat.zero_le _) (by unfold FU; omega) g (fun j hj => by omega)
/-! with, kinds, forced -/
theorem lN_mul' (a b : Nat) : lN a * lN b = lN (a * b) := lN_mul a b
theorem s_withKind_5 {w h : Nat} {U D : Nat → Bool} {σ : St} (g : MG σ w h U D) (hW : WaysOK σ w h U D) (hC : ComeOK σ w h U D) {c k : Nat} (hc : c < w * h) (hk : k < 3) :
    ∀ (n m : Nat), m ≤ 2 ^ w → 2 ^ w - m < n → f_X6_withKind_5 n (nI c) (nI k) (lN (sm (fun m => Cm w U D c m * ov (Tr w U D c m k) (Wr w U D (w * h - (c + 1)) (c + 1))) m)) (nI m) σ = some (lN (With w U D (w * h - (c + 1)) c k), σ) := by
  obtain ⟨hw1, hw8, hh1, hh8, eW, -⟩ := id g
  have h256 := pow_256 hw8
  intro n
  induction n with
  | zero => intro m h1 h2; omega
  | succ n ih =>
    intro m h1 h2
    rw [f_X6_withKind_5, eW, sh_many w (by omega)]
    by_cases hm : 2 ^ w ≤ m
    · have e : m = 2 ^ w := by omega
      rw [if_pos (nI_le hm (by omega)), e]
      rfl
    · have hm' : m < 2 ^ w := by omega
      have hl := l256 (by omega : c ≤ w * h) hw8 hh8 hm'
      have hs : sm (fun m => Cm w U D c m * ov (Tr w U D c m k) (Wr w U D (w * h - (c + 1)) (c + 1))) (m + 1) = sm (fun m => Cm w U D c m * ov (Tr w U D c m k) (Wr w U D (w * h - (c + 1)) (c + 1))) m + Cm w U D c m * ov (Tr w U D c m k) (Wr w U D (w * h - (c + 1)) (c + 1)) := rfl
      have key := ih (m + 1) (by omega) (by omega)
      rw [if_neg (nI_ge hm' (by omega)), bd_at (s_isUp g hc)]
      have none_case : Tr w U D c m k = none → f_X6_withKind_37 (f_X6_withKind_5 n) (nI c) (nI k) (lN (sm (fun m => Cm w U D c m * ov (Tr w U D c m k) (Wr w U D (w * h - (c + 1)) (c + 1))) m)) (nI m) (-900009) σ = some (lN (With w U D (w * h - (c + 1)) c k), σ) := by
        intro ht
        unfold f_X6_withKind_37 f_X6_withKind_82
        rw [if_pos rfl, nI_1, show (0 : Int64) = lN 0 from rfl, lN_add]
        rw [hs, ht] at key
        exact key
      cases hU : U c with
      | false =>
        rw [if_pos bIf]
        exact none_case (Tr_out hU (by omega))
      | true =>
        rw [if_neg bIt, bd_at (s_then g hc hm' (by omega))]
        cases ht : Tr w U D c m k with
        | none => exact none_case ht
        | some a =>
          have ha := Tr_lt hw1 hm' ht
          have hl' := l256 (by omega : c + 1 ≤ w * h) hw8 hh8 ha
          unfold f_X6_withKind_37 f_X6_withKind_82
          rw [if_neg (show ¬ oI (some a) = -900009 from nI_none (by omega)), oI_some, show (256 : Int32) = nI 256 from rfl, nI_mul, nI_add, nI_add, nI_add]
          have ei : 256 * c + 256 + a = 256 * (c + 1) + a := by omega
          rw [ei, rdL_at _ _ (show 256 * c + m < len 32 from hl) (by decide), rdL_at _ _ (show 256 * (c + 1) + a < len 31 from hl') (by decide), nI_1]
          rw [hC c (by omega) m hm', hW (c + 1) (by omega) a ha, lN_mul', lN_add]
          rw [hs, ht] at key
          exact key
theorem s_withKind {w h : Nat} {U D : Nat → Bool} {σ : St} (g : MG σ w h U D) (hW : WaysOK σ w h U D) (hC : ComeOK σ w h U D) {c k : Nat} (hc : c < w * h) (hk : k < 3) : f_X6_withKind (nI c) (nI k) σ = some (lN (With w U D (w * h - (c + 1)) c k), σ) := by
  unfold f_X6_withKind
  exact s_withKind_5 g hW hC hc hk FU 0 (Nat.zero_le _) (by have := pow_256 g.2.1; unfold FU; omega)
/-- the KINDS of an UP in some LAYING, as a set -/
def kset (w : Nat) (U D : Nat → Bool) (N c : Nat) : Nat → Nat
  | 0 => 0
  | k + 1 => kset w U D N c k + (if With w U D (N - (c + 1)) c k = 0 then 0 else 2 ^ k)
theorem kset_lt (w : Nat) (U D : Nat → Bool) (N c : Nat) : ∀ k, kset w U D N c k < 2 ^ k
  | 0 => by show 0 < 1; decide
  | k + 1 => by
    have := kset_lt w U D N c k
    unfold kset
    rw [Nat.pow_succ]
    split <;> omega
theorem or_bit : ∀ k, k < 3 → ∀ s, s < 2 ^ k → (nI s ||| jshl 1 (nI k)) = nI (s + 2 ^ k) ∧ (nI s ||| 0) = nI s := by decide +kernel
theorem With_57 {w h : Nat} {U D : Nat → Bool} (hw1 : 1 ≤ w) (hw : w ≤ 8) (hh : h ≤ 8) {c k : Nat} (hc : c < w * h) (hk : k < 4) : With w U D (w * h - (c + 1)) c k ≤ 2 ^ 56 := by
  have h1 := With_le (U := U) (D := D) hw1 (w * h - (c + 1)) c hk
  have e : c + (w * h - (c + 1) + 1) = w * h := by omega
  rw [e] at h1
  exact Nat.le_trans h1 (Wr_56 hw hh (by omega) 0)
theorem s_kindsOf_4 {w h : Nat} {U D : Nat → Bool} {σ : St} (g : MG σ w h U D) (hW : WaysOK σ w h U D) (hC : ComeOK σ w h U D) {c : Nat} (hc : c < w * h) :
    ∀ (n k : Nat), k ≤ 3 → 3 - k < n → f_X6_kindsOf_4 n (nI c) (nI (kset w U D (w * h) c k)) (nI k) σ = some (nI (kset w U D (w * h) c 3), σ) := by
  intro n
  induction n with
  | zero => intro k h1 h2; omega
  | succ n ih =>
    intro k h1 h2
    rw [f_X6_kindsOf_4]
    by_cases hk : 3 ≤ k
    · have e : k = 3 := by omega
      subst e
      rw [if_pos (show (3 : Int32) ≤ nI 3 by decide)]
    · rw [if_neg (show ¬ (3 : Int32) ≤ nI k from nI_ge (a := k) (b := 3) (by omega) (by decide)), bd_at (s_withKind g hW hC hc (by omega))]
      unfold f_X6_kindsOf_28
      have hb := With_57 (U := U) (D := D) g.1 g.2.1 g.2.2.2.1 hc (show k < 4 by omega)
      have hs := kset_lt w U D (w * h) c k
      have key := ih (k + 1) (by omega) (by omega)
      unfold kset at key
      by_cases h0 : With w U D (w * h - (c + 1)) c k = 0
      · rw [h0] at key ⊢
        rw [if_pos (show lN 0 ≤ 0 by decide), (or_bit k (by omega) _ hs).2, nI_1]
        rw [if_pos rfl, Nat.add_zero] at key
        exact key
      · rw [if_neg (show ¬ lN (With w U D (w * h - (c + 1)) c k) ≤ 0 from fun z => h0 (by
          have := (pk_lLE (a := With w U D (w * h - (c + 1)) c k) (b := 0) (by omega) (by decide)).mp z
          omega)), (or_bit k (by omega) _ hs).1, nI_1]
        rw [if_neg h0] at key
        exact key
theorem s_kindsOf {w h : Nat} {U D : Nat → Bool} {σ : St} (g : MG σ w h U D) (hW : WaysOK σ w h U D) (hC : ComeOK σ w h U D) {c : Nat} (hc : c < w * h) : f_X6_kindsOf (nI c) σ = some (nI (kset w U D (w * h) c 3), σ) := by
  unfold f_X6_kindsOf
  exact s_kindsOf_4 g hW hC hc FU 0 (by decide) (by decide)
/-- how many UP have one KIND alone -/
def forcedN (w : Nat) (U D : Nat → Bool) (N : Nat) (n : Nat) : Nat := cnt (fun c => kset w U D N c 3 == 1 || kset w U D N c 3 == 2 || kset w U D N c 3 == 4) n
theorem s_forced_12 {w h : Nat} {U D : Nat → Bool} {σ : St} (g : MG σ w h U D) (hW : WaysOK σ w h U D) (hC : ComeOK σ w h U D) :
    ∀ (n c : Nat), c ≤ w * h → w * h - c < n → f_X6_forced_12 n (nI (forcedN w U D (w * h) c)) (nI c) σ = some (nI (forcedN w U D (w * h) (w * h)), σ) := by
  have har := area_le g.2.1 g.2.2.2.1
  intro n
  induction n with
  | zero => intro c h1 h2; omega
  | succ n ih =>
    intro c h1 h2
    rw [f_X6_forced_12, bd_at (s_cells g)]
    by_cases hc : w * h ≤ c
    · have e : c = w * h := by omega
      rw [if_pos (nI_le hc (by omega)), e]
    · have hc' : c < w * h := by omega
      have hk := kset_lt w U D (w * h) c 3
      have key := ih (c + 1) (by omega) (by omega)
      have hs : forcedN w U D (w * h) (c + 1) = forcedN w U D (w * h) c + (if (kset w U D (w * h) c 3 == 1 || kset w U D (w * h) c 3 == 2 || kset w U D (w * h) c 3 == 4) = true then 1 else 0) := rfl
      rw [hs] at key
      rw [if_neg (nI_ge hc' (by omega)), bd_at (s_kindsOf g hW hC hc')]
      unfold f_X6_forced_42 f_X6_forced_47
      have q : ∀ j, j < 8 → (nI (kset w U D (w * h) c 3) = nI j ↔ kset w U D (w * h) c 3 = j) := fun j hj => nI_eq (by omega) (by omega)
      by_cases h1' : kset w U D (w * h) c 3 = 1
      · rw [if_pos (show nI (kset w U D (w * h) c 3) = 1 from (q 1 (by decide)).mpr h1'), nI_1, nI_1]
        rw [h1'] at key
        exact key
      · rw [if_neg (show ¬ nI (kset w U D (w * h) c 3) = 1 from fun z => h1' ((q 1 (by decide)).mp z))]
        by_cases h2' : kset w U D (w * h) c 3 = 2
        · rw [if_pos (show nI (kset w U D (w * h) c 3) = 2 from (q 2 (by decide)).mpr h2'), nI_1, nI_1]
          rw [h2'] at key
          exact key
        · rw [if_neg (show ¬ nI (kset w U D (w * h) c 3) = 2 from fun z => h2' ((q 2 (by decide)).mp z))]
          by_cases h4' : kset w U D (w * h) c 3 = 4
          · rw [if_pos (show nI (kset w U D (w * h) c 3) = 4 from (q 4 (by decide)).mpr h4'), nI_1, nI_1]
            rw [h4'] at key
            exact key
          · rw [if_neg (show ¬ nI (kset w U D (w * h) c 3) = 4 from fun z => h4' ((q 4 (by decide)).mp z)), nI_1, show (0 : Int32) = nI 0 from rfl, nI_add]
            rw [if_neg (by simp [h1', h2', h4'])] at key
            exact key
