/-! ===== HALF 2: the reference's steps, ways, comings ===== -/
/-- the reference's ground -/
def MG (σ : St) (w h : Nat) (U D : Nat → Bool) : Prop := 1 ≤ w ∧ w ≤ 8 ∧ 1 ≤ h ∧ h ≤ 8 ∧ gi σ 26 0 = nI w ∧ gi σ 26 1 = nI h ∧ ∀ c, c < w * h → gi σ 27 (2 * c) = bI (U c) ∧ gi σ 27 (2 * c + 1) = bI (D c)
theorem MG.keep {P : Nat → Prop} {σ τ : St} {w h : Nat} {U D : Nat → Bool} (h0 : MG σ w h U D) (he : eqx P σ τ) (h1 : ¬ P 26) (h2 : ¬ P 27) : MG τ w h U D := by
  obtain ⟨a1, a2, a3, a4, a5, a6, a7⟩ := h0
  exact ⟨a1, a2, a3, a4, by rw [(he 26 h1 0).1]; exact a5, by rw [(he 26 h1 1).1]; exact a6, fun c hc => ⟨by rw [(he 27 h2 _).1]; exact (a7 c hc).1, by rw [(he 27 h2 _).1]; exact (a7 c hc).2⟩⟩
theorem s_cells {σ : St} {w h : Nat} {U D : Nat → Bool} (g : MG σ w h U D) : f_X6_cells σ = some (nI (w * h), σ) := by
  unfold f_X6_cells
  rw [g.2.2.2.2.1, g.2.2.2.2.2.1, nI_mul]
theorem s_isUp {σ : St} {w h : Nat} {U D : Nat → Bool} (g : MG σ w h U D) {c : Nat} (hc : c < w * h) : f_X6_isUp (nI c) σ = some (bI (U c), σ) := by
  have har := area_le g.2.1 g.2.2.2.1
  unfold f_X6_isUp
  rw [show (2 : Int32) = nI 2 from rfl, nI_mul, rdI_at _ _ (show 2 * c < len 27 by show 2 * c < 128; omega) (by decide), (g.2.2.2.2.2.2 c hc).1, gz_of (bI_or _)]
theorem s_isDown {σ : St} {w h : Nat} {U D : Nat → Bool} (g : MG σ w h U D) {c : Nat} (hc : c < w * h) : f_X6_isDown (nI c) σ = some (bI (D c), σ) := by
  have har := area_le g.2.1 g.2.2.2.1
  unfold f_X6_isDown
  rw [show (2 : Int32) = nI 2 from rfl, nI_mul, nI_1, rdI_at _ _ (show 2 * c + 1 < len 27 by show 2 * c + 1 < 128; omega) (by decide), (g.2.2.2.2.2.2 c hc).2, gz_of (bI_or _)]
theorem sh_last : ∀ w, w < 9 → 1 ≤ w → jshl 1 (nI w - 1) = nI (2 ^ (w - 1)) := by decide +kernel
theorem sh_many : ∀ w, w < 9 → jshl 1 (nI w) = nI (2 ^ w) := by decide +kernel
theorem mk_and : ∀ j, j < 8 → ∀ m, m < 256 → ((nI m &&& nI (2 ^ j)) = 0 ↔ m.testBit j = false) := by decide +kernel
theorem mk_clr : ∀ j, j < 8 → ∀ m, m < 256 → (nI m &&& (nI (2 ^ j) ^^^ (-1))) = nI (if m.testBit j then m - 2 ^ j else m) := by decide +kernel
theorem mk_odd : ∀ m, m < 256 → ((nI m &&& 1) = 1 ↔ m.testBit 0 = true) := by decide +kernel
theorem mk_c0 : ∀ m, m < 256 → (nI m &&& (-2)) = nI (if m.testBit 0 then m - 1 else m) := by decide +kernel
theorem pow_256 {w : Nat} (hw : w ≤ 8) : 2 ^ w ≤ 256 := Nat.pow_le_pow_right (by decide) hw
def oI (o : Option Nat) : Int32 := match o with
  | none => -900009
  | some m => nI m
theorem oI_none : oI none = -900009 := rfl
theorem oI_some (m : Nat) : oI (some m) = nI m := rfl
theorem nI_none {m : Nat} (h : m < 2 ^ 31) : nI m ≠ -900009 := by
  intro e
  have h1 := congrArg Int32.toInt e
  rw [nI_toInt h] at h1
  have h2 : (-900009 : Int32).toInt = -900009 := by decide
  rw [h2] at h1
  omega
theorem s_then_134 {σ : St} {w h : Nat} {U D : Nat → Bool} (g : MG σ w h U D) {c l : Nat} (hc : c < w * h) (k : Nat) (hk : k < 4) : f_X6_then_134 (nI c) (nI k) (nI l) σ = some (nI (2 * l + if k = 0 then 0 else (D c).toNat), σ) := by
  unfold f_X6_then_134 f_X6_then_154 f_X6_then_155
  rw [bd_at (s_isDown g hc), show (2 : Int32) = nI 2 from rfl, nI_mul]
  cases hD : D c with
  | false =>
    rw [if_pos bIf, show (0 : Int32) = nI 0 from rfl, nI_add]
    simp
  | true =>
    rw [if_neg bIt]
    by_cases h0 : k = 0
    · subst h0
      rw [if_pos rfl, show (0 : Int32) = nI 0 from rfl, nI_add]
      simp
    · rw [if_neg (nI_ne0 (by omega) (by omega)), show (1 : Int32) = nI 1 from rfl, nI_add, if_neg h0]
      rfl
theorem s_then_119 {σ : St} {w h : Nat} {U D : Nat → Bool} (g : MG σ w h U D) {c l : Nat} (hc : c < w * h) (k : Nat) (hk : k < 4) : f_X6_then_119 (nI c) (nI k) (nI l) σ = some (oI (if k = 0 ∧ D c = false then none else some (2 * l + if k = 0 then 0 else (D c).toNat)), σ) := by
  unfold f_X6_then_119
  by_cases h0 : k = 0
  · subst h0
    rw [show nI 0 = 0 from rfl, if_pos rfl, bd_at (s_isDown g hc)]
    cases hD : D c with
    | false =>
      rw [if_pos bIf, if_pos ⟨rfl, rfl⟩]
      rfl
    | true =>
      rw [if_neg bIt, if_neg (by simp)]
      exact s_then_134 g hc 0 hk
  · rw [if_neg (nI_ne0 (by omega) (by omega)), if_neg (fun z => h0 z.1)]
    exact s_then_134 g hc k hk
theorem s_then {σ : St} {w h : Nat} {U D : Nat → Bool} (g : MG σ w h U D) {c m : Nat} (hc : c < w * h) (hm : m < 2 ^ w) {k : Nat} (hk : k < 4) : f_X6_then (nI c) (nI m) (nI k) σ = some (oI (Tr w U D c m k), σ) := by
  obtain ⟨hw1, hw8, hh1, hh8, e1, e2, e3⟩ := id g
  have har := area_le hw8 hh8
  have h256 := pow_256 hw8
  have hm8 : m < 256 := by omega
  have hb : ∀ b : Bool, m.testBit (w - 1) = b → f_X6_then (nI c) (nI m) (nI k) σ = f_X6_then_44 (nI c) (nI m) (nI k) (nI (if b then m - 2 ^ (w - 1) else m)) (bI b) (bI (decide (k = 2))) σ := by
    intro b hb
    have key : f_X6_then (nI c) (nI m) (nI k) σ = f_X6_then_22 (nI c) (nI m) (nI k) (nI (2 ^ (w - 1))) (bI b) σ := by
      unfold f_X6_then
      rw [e1, sh_last w (by omega) hw1]
      cases b with
      | false => rw [if_pos ((mk_and (w - 1) (by omega) m hm8).mpr hb)]; rfl
      | true => rw [if_neg (fun z => by rw [(mk_and (w - 1) (by omega) m hm8).mp z] at hb; cases hb)]; rfl
    rw [key]
    unfold f_X6_then_22
    rw [mk_clr (w - 1) (by omega) m hm8, hb]
    by_cases h2 : k = 2
    · subst h2
      rw [show nI 2 = 2 from rfl, if_pos rfl]
      rfl
    · rw [if_neg (show ¬ nI k = 2 from fun z => h2 ((nI_eq (by omega) (by decide)).mp (show nI k = nI 2 from z)))]
      simp [h2, bI]
  rw [hb _ rfl]
  unfold f_X6_then_44
  have h57 : ∀ l : Nat, (if (3 : Int32) ≤ nI k then f_X6_then_57 (nI c) (nI m) (nI k) (nI l) 0 σ else f_X6_then_57 (nI c) (nI m) (nI k) (nI l) 1 σ) = f_X6_then_57 (nI c) (nI m) (nI k) (nI l) (bI (decide (k < 3))) σ := by
    intro l
    by_cases h3 : 3 ≤ k
    · rw [if_pos (show (3 : Int32) ≤ nI k from nI_le (a := 3) h3 (by omega))]
      simp [bI, Nat.not_lt.mpr h3]
    · rw [if_neg (show ¬ (3 : Int32) ≤ nI k from nI_ge (a := k) (b := 3) (by omega) (by decide))]
      simp [bI, Nat.lt_of_not_le h3]
  rw [h57]
  generalize hl : (if m.testBit (w - 1) then m - 2 ^ (w - 1) else m) = l
  by_cases hlast : m.testBit (w - 1) = decide (k = 2)
  · rw [if_pos (by rw [bI_inj]; exact hlast)]
    unfold f_X6_then_57
    rw [bd_at (s_isUp g hc)]
    by_cases hup : decide (k < 3) = U c
    · rw [if_pos (by rw [bI_inj]; exact hup)]
      by_cases h1 : k = 1
      · subst h1
        have hU : U c = true := by rw [← hup]; rfl
        have hlb : m.testBit (w - 1) = false := by rw [hlast]; rfl
        rw [hlb] at hl
        simp only [Bool.false_eq_true, if_false] at hl
        subst hl
        have hTr : Tr w U D c m 1 = if m.testBit (w - 1) = false ∧ c % w ≠ 0 ∧ m.testBit 0 = true then some (2 * (m - 1) + (D c).toNat) else none := by
          unfold Tr
          simp [hU]
        rw [if_pos (show nI 1 = 1 from rfl), e1, rmI_at _ (by omega) (by omega) (by omega), hTr]
        unfold f_X6_then_93 f_X6_then_94 f_X6_then_109
        by_cases hcw : c % w = 0
        · rw [hcw, if_pos (show nI 0 ≤ 0 by decide), if_pos (show (0 : Int32) = 0 from rfl), if_neg (by simp)]
          rfl
        · have hpos : 0 < c % w := by omega
          have hlt : c % w < w := Nat.mod_lt _ (by omega)
          rw [if_neg (nI_nle hpos (by omega))]
          by_cases ho : m.testBit 0 = true
          · have hw1' : ¬ nI w = 1 := fun z => by
              have : w = 1 := (nI_eq (by omega) (by decide)).mp (show nI w = nI 1 from z)
              subst this
              omega
            rw [if_pos ((mk_odd m hm8).mpr ho), if_neg (show ¬ (1 : Int32) = 0 by decide), e1, if_neg hw1', mk_c0 m hm8, ho]
            have := s_then_119 g (l := m - 1) hc 1 (by decide)
            simpa [hlb, hcw] using this
          · rw [if_neg (fun z => ho ((mk_odd m hm8).mp z)), if_pos (show (0 : Int32) = 0 from rfl), if_neg (fun z => ho z.2.2)]
            rfl
      · rw [if_neg (show ¬ nI k = 1 from fun z => h1 ((nI_eq (by omega) (by decide)).mp (show nI k = nI 1 from z))), s_then_119 g hc k hk]
        congr 2
        unfold Tr
        have hk4 : k = 0 ∨ k = 2 ∨ k = 3 := by omega
        rcases hk4 with rfl | rfl | rfl
        · have hU : U c = true := by rw [← hup]; rfl
          have hlb : m.testBit (w - 1) = false := by rw [hlast]; rfl
          rw [hlb] at hl
          simp only [Bool.false_eq_true, if_false] at hl
          subst hl
          cases hD : D c <;> simp [hU, hlb]
        · have hU : U c = true := by rw [← hup]; rfl
          have hlb : m.testBit (w - 1) = true := by rw [hlast]; rfl
          rw [hlb] at hl
          simp only [if_true] at hl
          subst hl
          simp [hU, hlb]
        · have hU : U c = false := by rw [← hup]; rfl
          have hlb : m.testBit (w - 1) = false := by rw [hlast]; rfl
          rw [hlb] at hl
          simp only [Bool.false_eq_true, if_false] at hl
          subst hl
          simp [hU, hlb]
    · rw [if_neg (by rw [bI_inj]; exact hup)]
      unfold f_X6_then_65
      have hn : Tr w U D c m k = none := by
        cases hU : U c with
        | false =>
          refine Tr_out hU (fun z => hup ?_)
          subst z
          rw [hU]
          rfl
        | true =>
          have : k = 3 := by
            rw [hU] at hup
            simp at hup
            omega
          subst this
          exact Tr_in3 hU
      rw [hn]
      rfl
  · rw [if_neg (by rw [bI_inj]; exact hlast)]
    unfold f_X6_then_65
    have hn : Tr w U D c m k = none := by
      cases hb2 : m.testBit (w - 1) with
      | true =>
        refine Tr_last hb2 (fun z => hlast ?_)
        subst z
        rw [hb2]
        rfl
      | false =>
        have : k = 2 := by
          rw [hb2] at hlast
          simp at hlast
          omega
        subst this
        exact Tr_no2 hb2
    rw [hn]
    rfl
/-! ways -/
def WaysOK (σ : St) (w h : Nat) (U D : Nat → Bool) : Prop := ∀ c, c ≤ w * h → ∀ m, m < 2 ^ w → gl σ 31 (256 * c + m) = lN (Wr w U D (w * h - c) c m)
theorem l256 {c m w h : Nat} (hc : c ≤ w * h) (hw : w ≤ 8) (hh : h ≤ 8) (hm : m < 2 ^ w) : 256 * c + m < 16640 := by
  have h1 := area_le hw hh
  have h2 := pow_256 hw
  omega
theorem s_layWays_68 {w h : Nat} {U D : Nat → Bool} {c m : Nat} (hc : c < w * h) (hm : m < 2 ^ w) (k57 : Int32 → Int32 → Int32 → St → Option (Unit × St)) (x1 : Int32) :
    ∀ (n k : Nat) (σ : St), k ≤ 4 → 4 - k < n → MG σ w h U D → (∀ m', m' < 2 ^ w → gl σ 31 (256 * (c + 1) + m') = lN (Wr w U D (w * h - (c + 1)) (c + 1) m')) →
    f_X6_layWays_68 k57 n x1 (nI c) (nI m) (lN (sm (fun k => ov (Tr w U D c m k) (Wr w U D (w * h - (c + 1)) (c + 1))) k)) (nI k) σ = k57 x1 (nI c) (nI (m + 1)) (sl σ 31 (256 * c + m) (lN (Wr w U D (w * h - c) c m))) := by
  intro n
  induction n with
  | zero => intro k σ h1 h2; omega
  | succ n ih =>
    intro k σ h1 h2 g hr
    obtain ⟨hw1, hw8, hh1, hh8, -⟩ := id g
    have hl := l256 (by omega : c ≤ w * h) hw8 hh8 hm
    have hN : w * h - c = (w * h - (c + 1)) + 1 := by omega
    rw [f_X6_layWays_68]
    by_cases hk : 4 ≤ k
    · have e : k = 4 := by omega
      subst e
      rw [if_pos (show (4 : Int32) ≤ nI 4 by decide), show (256 : Int32) = nI 256 from rfl, nI_mul, nI_add, wrL_at _ _ _ (show 256 * c + m < len 31 from hl) (by decide), nI_1, hN, Wr_succ]
    · rw [if_neg (show ¬ (4 : Int32) ≤ nI k from nI_ge (a := k) (b := 4) (by omega) (by decide)), bd_at (s_then g hc hm (by omega))]
      unfold f_X6_layWays_114
      have hs : sm (fun k => ov (Tr w U D c m k) (Wr w U D (w * h - (c + 1)) (c + 1))) (k + 1) = sm (fun k => ov (Tr w U D c m k) (Wr w U D (w * h - (c + 1)) (c + 1))) k + ov (Tr w U D c m k) (Wr w U D (w * h - (c + 1)) (c + 1)) := rfl
      cases ht : Tr w U D c m k with
      | none =>
        rw [if_pos (show oI none = -900009 from rfl), nI_1]
        have := ih (k + 1) σ (by omega) (by omega) g hr
        rw [hs, ht] at this
        rw [show (0 : Int64) = lN 0 from rfl, lN_add]
        exact this
      | some m' =>
        have hm' := Tr_lt hw1 hm ht
        have hl' := l256 (by omega : c + 1 ≤ w * h) hw8 hh8 hm'
        have h256 := pow_256 hw8
        rw [if_neg (show ¬ oI (some m') = -900009 from nI_none (by omega)), oI_some, show (256 : Int32) = nI 256 from rfl, nI_mul, nI_add, nI_add]
        rw [rdL_at _ _ (show 256 * c + 256 + m' < len 31 by show 256 * c + 256 + m' < 16640; omega) (by decide), show 256 * c + 256 + m' = 256 * (c + 1) + m' by omega, hr m' hm', lN_add, nI_1]
        have := ih (k + 1) σ (by omega) (by omega) g hr
        rw [hs, ht] at this
        exact this
theorem s_layWays_57 {w h : Nat} {U D : Nat → Bool} {c : Nat} (hc : c < w * h) (k51 : Int32 → Int32 → St → Option (Unit × St)) :
    ∀ (n m : Nat) (σ : St), m ≤ 2 ^ w → 2 ^ w - m < n → MG σ w h U D → (∀ m', m' < 2 ^ w → gl σ 31 (256 * (c + 1) + m') = lN (Wr w U D (w * h - (c + 1)) (c + 1) m')) →
    f_X6_layWays_57 k51 n (nI (2 ^ w)) (nI c) (nI m) σ = k51 (nI (2 ^ w)) (nI c + (-1)) (fillL σ 31 (256 * c + m) (256 * c + 2 ^ w) (fun j => lN (Wr w U D (w * h - c) c (j - 256 * c)))) := by
  intro n
  induction n with
  | zero => intro m σ h1 h2; omega
  | succ n ih =>
    intro m σ h1 h2 g hr
    obtain ⟨hw1, hw8, hh1, hh8, -⟩ := id g
    have h256 := pow_256 hw8
    rw [f_X6_layWays_57]
    by_cases hm : 2 ^ w ≤ m
    · have e : m = 2 ^ w := by omega
      subst e
      rw [if_pos (nI_le hm (by omega)), fillL_end]
    · rw [if_neg (nI_ge (by omega) (by omega))]
      have h68 := s_layWays_68 hc (by omega : m < 2 ^ w) (f_X6_layWays_57 k51 n) (nI (2 ^ w)) FU 0 σ (by decide) (by decide) g hr
      rw [show lN (sm (fun k => ov (Tr w U D c m k) (Wr w U D (w * h - (c + 1)) (c + 1))) 0) = 0 from rfl, show nI 0 = 0 from rfl] at h68
      rw [h68, ih (m + 1) (sl σ 31 (256 * c + m) (lN (Wr w U D (w * h - c) c m))) (by omega) (by omega) g (fun m' hm' => by rw [gl_sl_ne _ _ _ _ (by omega)]; exact hr m' hm')]
      have hf := fillL_step σ 31 (256 * c + m) (256 * c + 2 ^ w) (fun j => lN (Wr w U D (w * h - c) c (j - 256 * c))) (by omega)
      rw [show 256 * c + m - 256 * c = m by omega] at hf
      rw [← hf]
      rfl
theorem s_layWays_51 {w h : Nat} {U D : Nat → Bool} : ∀ (j n : Nat) (σ : St), j ≤ w * h → j < n → MG σ w h U D → (∀ c, j ≤ c → c ≤ w * h → ∀ m, m < 2 ^ w → gl σ 31 (256 * c + m) = lN (Wr w U D (w * h - c) c m)) →
    ∃ σ', f_X6_layWays_51 n (nI (2 ^ w)) (nI j + (-1)) σ = some ((), σ') ∧ WaysOK σ' w h U D ∧ σ'.1 = σ.1 ∧ eqx (fun p => p = 31) σ σ' := by
  intro j
  induction j with
  | zero =>
    intro n σ h1 h2 g hr
    obtain ⟨n, rfl⟩ : ∃ n', n = n' + 1 := ⟨n - 1, by omega⟩
    refine ⟨σ, ?_, fun c hc m hm => hr c (Nat.zero_le _) hc m hm, rfl, eqx.rf⟩
    rw [f_X6_layWays_51, if_pos (show nI 0 + (-1) < 0 by decide)]
  | succ c ih =>
    intro n σ h1 h2 g hr
    obtain ⟨n, rfl⟩ : ∃ n', n = n' + 1 := ⟨n - 1, by omega⟩
    obtain ⟨hw1, hw8, hh1, hh8, -⟩ := id g
    have har := area_le hw8 hh8
    rw [f_X6_layWays_51, pk_m1, if_neg (nI_pos (by omega))]
    have h57 := s_layWays_57 (by omega : c < w * h) (f_X6_layWays_51 n) FU 0 σ (Nat.zero_le _) (by have := pow_256 hw8; unfold FU; omega) g (fun m' hm' => hr (c + 1) (Nat.le_refl _) h1 m' hm')
    rw [show nI 0 = 0 from rfl] at h57
    rw [h57]
    generalize hτ : fillL σ 31 (256 * c + 0) (256 * c + 2 ^ w) (fun j => lN (Wr w U D (w * h - c) c (j - 256 * c))) = τ
    have h256 := pow_256 hw8
    have hgl : ∀ q j, gl τ q j = if q = 31 ∧ 256 * c + 0 ≤ j ∧ j < 256 * c + 2 ^ w then lN (Wr w U D (w * h - c) c (j - 256 * c)) else gl σ q j := fun q j => by rw [← hτ]; rfl
    have hg1 : τ.1 = σ.1 := by rw [← hτ]; rfl
    have gτ : MG τ w h U D := by
      have : eqx (fun p => p = 31) σ τ := fun p hp k => ⟨by unfold gi; rw [hg1], by rw [hgl, if_neg (fun z => hp z.1)]⟩
      exact g.keep this (by decide) (by decide)
    obtain ⟨σ', e1, e2, e3, e4⟩ := ih n τ (by omega) (by omega) gτ (fun c' hc1 hc2 m hm => by
      rw [hgl]
      by_cases hcc : c' = c
      · subst hcc
        rw [if_pos (by omega), show 256 * c' + m - 256 * c' = m by omega]
      · rw [if_neg (by omega)]
        exact hr c' (by omega) hc2 m hm)
    refine ⟨σ', e1, e2, e3.trans hg1, ?_⟩
    refine eqx.tr (fun p hp k => ⟨by unfold gi; rw [hg1], by rw [hgl, if_neg (fun z => hp z.1)]⟩) e4
theorem s_layWays_9 {w h : Nat} {U D : Nat → Bool} : ∀ (n m : Nat) (σ : St), m ≤ 2 ^ w → 2 ^ w - m < n → MG σ w h U D → (∀ m', m' < m → gl σ 31 (256 * (w * h) + m') = lN (if m' = 0 then 1 else 0)) →
    ∃ σ', f_X6_layWays_9 n (nI (2 ^ w)) (nI m) σ = some ((), σ') ∧ WaysOK σ' w h U D ∧ σ'.1 = σ.1 ∧ eqx (fun p => p = 31) σ σ' := by
  intro n
  induction n with
  | zero => intro m σ h1 h2; omega
  | succ n ih =>
    intro m σ h1 h2 g hr
    obtain ⟨hw1, hw8, hh1, hh8, -⟩ := id g
    have h256 := pow_256 hw8
    have har := area_le hw8 hh8
    rw [f_X6_layWays_9]
    by_cases hm : 2 ^ w ≤ m
    · have e : m = 2 ^ w := by omega
      subst e
      rw [if_pos (nI_le hm (by omega)), bd_at (s_cells g), show nI (w * h) - 1 = nI (w * h) + (-1) from Int32.sub_eq_add_neg _ _]
      obtain ⟨σ', e1, e2, e3, e4⟩ := s_layWays_51 (w * h) FU σ (Nat.le_refl _) (by unfold FU; omega) g (fun c h3 h4 m hm => by
        have : c = w * h := by omega
        subst this
        rw [hr m hm, Nat.sub_self, Wr_zero])
      exact ⟨σ', e1, e2, e3, e4⟩
    · rw [if_neg (nI_ge (by omega) (by omega)), bd_at (s_cells g), show (256 : Int32) = nI 256 from rfl, nI_mul, nI_add]
      have hl := l256 (Nat.le_refl (w * h)) hw8 hh8 (by omega : m < 2 ^ w)
      have step : ∀ v : Nat, v = (if m = 0 then 1 else 0) → ∃ σ', f_X6_layWays_37 (f_X6_layWays_9 n) (nI (2 ^ w)) (nI m) (nI (256 * (w * h) + m)) (lN v) σ = some ((), σ') ∧ WaysOK σ' w h U D ∧ σ'.1 = σ.1 ∧ eqx (fun p => p = 31) σ σ' := by
        intro v hv
        unfold f_X6_layWays_37
        rw [wrL_at _ _ _ (show 256 * (w * h) + m < len 31 from hl) (by decide), nI_1]
        obtain ⟨σ', e1, e2, e3, e4⟩ := ih (m + 1) (sl σ 31 (256 * (w * h) + m) (lN v)) (by omega) (by omega) g (fun m' hm' => by
          by_cases hq : m' = m
          · subst hq; rw [gl_sl_same, hv]
          · rw [gl_sl_ne _ _ _ _ (by omega)]; exact hr m' (by omega))
        exact ⟨σ', e1, e2, e3, eqx.tr (eqx.sl eqx.rf rfl) e4⟩
      by_cases h0 : m = 0
      · rw [if_pos (show nI m = 0 by rw [h0]; rfl)]
        exact step 1 (by simp [h0])
      · rw [if_neg (nI_ne0 (by omega) (by omega))]
        exact step 0 (by simp [h0])
theorem s_layWays {σ : St} {w h : Nat} {U D : Nat → Bool} (g : MG σ w h U D) : ∃ σ', f_X6_layWays σ = some ((), σ') ∧ WaysOK σ' w h U D ∧ σ'.1 = σ.1 ∧ eqx (fun p => p = 31) σ σ' := by
  unfold f_X6_layWays
  rw [g.2.2.2.2.1, sh_many w (by have := g.2.1; omega), show (0 : Int32) = nI 0 from rfl]
  exact s_layWays_9 FU 0 σ (Nat.zero_le _) (by have := pow_256 g.2.1; unfold FU; omega) g (fun m' hm' => by omega)
