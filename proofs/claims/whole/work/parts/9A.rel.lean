/-! ===== HALF 2: what holds between the calls ===== -/
def SLT (σ : St) (w h : Nat) (U D : Nat → Bool) (s : Nat) : Prop := (gi σ (5 + s) 0 = 0 ∧ gi σ 29 s = 0) ∨ (gi σ (5 + s) 0 = 1 ∧ gi σ 29 s = 1 ∧ ∃ K, LL w U D (w * h) K ∧ LC σ (5 + s) (w * h) U K ∧ LM σ s (w * h) K)
def BS (σ : St) (w h : Nat) (U D : Nat → Bool) (wt : Nat → Nat → Int) : Prop := CG σ w h U D ∧ CI6 σ w h U D ∧ MG σ w h U D ∧ ZB U D (w * h) ∧ WT σ wt ∧ (∀ s, s < 4 → SLT σ w h U D s) ∧ KB σ w h U D
def STP (σ : St) (w h : Nat) (U D : Nat → Bool) : Prop := gi σ 0 8 = 0 ∨ (gi σ 0 8 = 1 ∧ SK σ w h U D)
def JNP (σ : St) (w h : Nat) (U D : Nat → Bool) : Prop := gi σ 0 9 = 0 ∨ (gi σ 0 9 = 1 ∧ JS σ w h U D)
def RZ (σ : St) (w h : Nat) (U D : Nat → Bool) (wt : Nat → Nat → Int) : Prop := BS σ w h U D wt ∧ STP σ w h U D ∧ JNP σ w h U D
def Rel (σ : St) : Prop := ∃ w h U D wt, RZ σ w h U D wt
def okP (p : Nat) : Prop := p ≠ 1 ∧ p ≠ 4 ∧ ¬ (5 ≤ p ∧ p ≤ 8) ∧ p ≠ 12 ∧ p ≠ 15 ∧ ¬ (26 ≤ p ∧ p ≤ 30)
theorem SLT.keep {P : Nat → Prop} {σ τ : St} {w h s : Nat} {U D : Nat → Bool} (hs : s < 4) (h0 : SLT σ w h U D s) (he : eqx P σ τ) (h1 : ¬ P (5 + s)) (h2 : ¬ P 29) (h3 : ¬ P 30) : SLT τ w h U D s := by
  rcases h0 with ⟨a, b⟩ | ⟨a, b, K, k1, k2, k3⟩
  · exact Or.inl ⟨by rw [(he _ h1 0).1]; exact a, by rw [(he 29 h2 s).1]; exact b⟩
  · exact Or.inr ⟨by rw [(he _ h1 0).1]; exact a, by rw [(he 29 h2 s).1]; exact b, K, k1, k2.keep he h1, fun c hc => by rw [(he 30 h3 _).1]; exact k3 c hc⟩
theorem BS.keep {P : Nat → Prop} {σ τ : St} {w h : Nat} {U D : Nat → Bool} {wt : Nat → Nat → Int} (h0 : BS σ w h U D wt) (he : eqx P σ τ) (hP : ∀ p, P p → okP p) : BS τ w h U D wt := by
  obtain ⟨a1, a2, a3, a4, a5, a6, a7⟩ := h0
  have no : ∀ p, ¬ okP p → ¬ P p := fun p h1 h2 => h1 (hP p h2)
  refine ⟨a1.keep he (no 1 (by unfold okP; omega)), a2.keep he (no 1 (by unfold okP; omega)), a3.keep he (no 26 (by unfold okP; omega)) (no 27 (by unfold okP; omega)), a4, a5.keep he (no 15 (by unfold okP; omega)) (no 28 (by unfold okP; omega)), fun s hs => (a6 s hs).keep hs he (no _ (by unfold okP; omega)) (no 29 (by unfold okP; omega)) (no 30 (by unfold okP; omega)), a7.keep he (no 12 (by unfold okP; omega)) (no 4 (by unfold okP; omega))⟩
theorem JS.keep {P : Nat → Prop} {σ τ : St} {w h : Nat} {U D : Nat → Bool} (h0 : JS σ w h U D) (he : eqx P σ τ) (h1 : ¬ P 13) (h2 : ¬ P 3) : JS τ w h U D := by
  obtain ⟨K, a1, a2, a3, a4⟩ := h0
  have e : gl τ 3 2 = gl σ 3 2 := (he 3 h2 2).2
  refine ⟨K, fun c hc k hk => by rw [(he 13 h1 _).2]; exact a1 c hc k hk, a2, ?_, ?_⟩
  · rw [e]; exact a3
  · rw [e]; exact a4
theorem STP.keep {P : Nat → Prop} {σ τ : St} {w h : Nat} {U D : Nat → Bool} (h0 : STP σ w h U D) (he : eqx P σ τ) (hz : ¬ P 0) (h1 : ¬ P 17 ∧ ¬ P 18 ∧ ¬ P 19 ∧ ¬ P 20 ∧ ¬ P 21 ∧ ¬ P 2) : STP τ w h U D := by
  rcases h0 with a | ⟨a, b⟩
  · exact Or.inl (by rw [(he 0 hz 8).1]; exact a)
  · exact Or.inr ⟨by rw [(he 0 hz 8).1]; exact a, b.keep he h1⟩
theorem JNP.keep {P : Nat → Prop} {σ τ : St} {w h : Nat} {U D : Nat → Bool} (h0 : JNP σ w h U D) (he : eqx P σ τ) (hz : ¬ P 0) (h1 : ¬ P 13) (h2 : ¬ P 3) : JNP τ w h U D := by
  rcases h0 with a | ⟨a, b⟩
  · exact Or.inl (by rw [(he 0 hz 9).1]; exact a)
  · exact Or.inr ⟨by rw [(he 0 hz 9).1]; exact a, b.keep he h1 h2⟩
/-- places that nobody looks at between the calls -/
def SCR (p : Nat) : Prop := p = 9 ∨ p = 10 ∨ p = 11 ∨ p = 16 ∨ p = 22 ∨ p = 23 ∨ p = 24 ∨ p = 25 ∨ 31 ≤ p
theorem RZ.scr {σ τ : St} {w h : Nat} {U D : Nat → Bool} {wt : Nat → Nat → Int} (h0 : RZ σ w h U D wt) (he : eqx SCR σ τ) : RZ τ w h U D wt := ⟨h0.1.keep he (fun p hp => by unfold SCR at hp; unfold okP; omega), h0.2.1.keep he (by unfold SCR; omega) (by unfold SCR; omega), h0.2.2.keep he (by unfold SCR; omega) (by unfold SCR; omega) (by unfold SCR; omega)⟩
theorem RZ.scr' {P : Nat → Prop} {σ τ : St} {w h : Nat} {U D : Nat → Bool} {wt : Nat → Nat → Int} (h0 : RZ σ w h U D wt) (he : eqx P σ τ) (hP : ∀ p, P p → SCR p) : RZ τ w h U D wt := h0.scr (he.mono hP)
/-- the steps made -/
theorem s_makeSteps {σ : St} {w h : Nat} {U D : Nat → Bool} {wt : Nat → Nat → Int} (h0 : RZ σ w h U D wt) : ∃ σ', f_X5_makeSteps σ = some ((), σ') ∧ RZ σ' w h U D wt ∧ SK σ' w h U D ∧ eqx (fun p => p = 0 ∨ P6 p) σ σ' := by
  unfold f_X5_makeSteps f_X5_makeSteps_23
  rcases h0.2.1 with a | ⟨a, b⟩
  · rw [if_pos a]
    obtain ⟨σ1, e1, e2, e3⟩ := s_build h0.1.1
    rw [bd_at e1, fI_at]
    have hx2 : eqx (fun p => p = 0) σ1 (si σ1 0 8 1) := eqx.si eqx.rf rfl
    have hx : eqx (fun p => p = 0 ∨ P6 p) σ (si σ1 0 8 1) := eqx.tr (e3.mono (fun p hp => Or.inr hp)) (hx2.mono (fun p hp => Or.inl hp))
    have hsk : SK (si σ1 0 8 1) w h U D := e2.keep hx2 (by decide)
    refine ⟨_, rfl, ⟨h0.1.keep hx (fun p hp => by unfold P6 at hp; unfold okP; omega), Or.inr ⟨gi_si_same _ _ _ _, hsk⟩, ?_⟩, hsk, hx⟩
    have j1 : JNP σ1 w h U D := h0.2.2.keep e3 (by unfold P6; omega) (by unfold P6; omega) (by unfold P6; omega)
    rcases j1 with c | ⟨c, d⟩
    · exact Or.inl (by rw [gi_si_ne _ _ _ _ (by omega)]; exact c)
    · exact Or.inr ⟨by rw [gi_si_ne _ _ _ _ (by omega)]; exact c, d.keep hx2 (by decide) (by decide)⟩
  · rw [if_neg (by rw [a]; decide)]
    exact ⟨σ, rfl, h0, b, eqx.rf⟩
theorem s_makeJoining {σ : St} {w h : Nat} {U D : Nat → Bool} {wt : Nat → Nat → Int} (h0 : RZ σ w h U D wt) : ∃ σ', f_X5_makeJoining σ = some ((), σ') ∧ RZ σ' w h U D wt ∧ JS σ' w h U D := by
  unfold f_X5_makeJoining f_X5_makeJoining_23
  rcases h0.2.2 with a | ⟨a, b⟩
  · rw [if_pos a]
    obtain ⟨σ1, e1, e2, e3⟩ := s_solve h0.1.1 h0.1.2.2.2.1
    rw [bd_at e1, fI_at]
    have hx2 : eqx (fun p => p = 0) σ1 (si σ1 0 9 1) := eqx.si eqx.rf rfl
    have hx : eqx (fun p => p = 0 ∨ PJ p) σ (si σ1 0 9 1) := eqx.tr (e3.mono (fun p hp => Or.inr hp)) (hx2.mono (fun p hp => Or.inl hp))
    have hjs : JS (si σ1 0 9 1) w h U D := e2.keep hx2 (by decide) (by decide)
    refine ⟨_, rfl, ⟨h0.1.keep hx (fun p hp => by unfold PJ at hp; unfold okP; omega), ?_, Or.inr ⟨gi_si_same _ _ _ _, hjs⟩⟩, hjs⟩
    have j1 : STP σ1 w h U D := h0.2.1.keep e3 (by unfold PJ; omega) (by unfold PJ; omega)
    rcases j1 with c | ⟨c, d⟩
    · exact Or.inl (by rw [gi_si_ne _ _ _ _ (by omega)]; exact c)
    · exact Or.inr ⟨by rw [gi_si_ne _ _ _ _ (by omega)]; exact c, d.keep hx2 (by decide)⟩
  · rw [if_neg (by rw [a]; decide)]
    exact ⟨σ, rfl, h0, b⟩
/-! gates -/
def outB (a : Int32) (m : Nat) : Prop := a < 0 ∨ (¬ a < 0 ∧ nI m ≤ a)
theorem gate (a : Int32) {m : Nat} (hm : m < 2 ^ 31) : outB a m ∨ ∃ k, k < m ∧ a = nI k := by
  by_cases h : a < 0
  · exact Or.inl (Or.inl h)
  · rcases pk_ix a hm with q | q | ⟨j, j1, j2⟩
    · exact absurd q h
    · exact Or.inl (Or.inr ⟨h, q⟩)
    · exact Or.inr ⟨j, j1, j2⟩
theorem lt_nle {a b : Int32} (h : a < b) : ¬ b ≤ a := fun q => by
  rw [Int32.lt_iff_toInt_lt] at h
  rw [Int32.le_iff_toInt_le] at q
  omega
theorem le_tr {a b c : Int32} (h1 : a ≤ b) (h2 : b ≤ c) : a ≤ c := by
  rw [Int32.le_iff_toInt_le] at *
  omega
theorem nle_lt {a b : Int32} (h : ¬ a ≤ b) : b < a := by
  rw [Int32.lt_iff_toInt_lt]
  rw [Int32.le_iff_toInt_le] at h
  omega
theorem nlt_le {a b : Int32} (h : ¬ a < b) : b ≤ a := by
  rw [Int32.le_iff_toInt_le]
  rw [Int32.lt_iff_toInt_lt] at h
  omega
theorem out_in {a : Int32} {m : Nat} (h1 : 1 ≤ m) (hm : m < 2 ^ 31) (h : outB a m) : decide ((0 : Int32) ≤ a ∧ a ≤ nI (m - 1)) = false := by
  refine decide_eq_false (fun q => ?_)
  rcases h with z | ⟨-, z⟩
  · exact lt_nle z q.1
  · exact nI_ge (a := m - 1) (b := m) (by omega) hm (le_tr z q.2)
theorem in_in {k m : Nat} (hk : k < m) (hm : m < 2 ^ 30) : decide ((0 : Int32) ≤ nI k ∧ nI k ≤ nI (m - 1)) = true := decide_eq_true ⟨nI_pos' (by omega), nI_le (by omega) (by omega)⟩
section GA
variable {σ : St}
theorem g5_slot {s : Nat} (hs : s < 4) : f_X5_isSlot (nI s) σ = some (1, σ) := by
  unfold f_X5_isSlot f_X5_isSlot_14
  rw [if_neg (nI_pos (by omega)), if_neg (show ¬ (4 : Int32) ≤ nI s from nI_ge (a := s) (b := 4) hs (by decide)), gz_1]
theorem g5_noslot {a : Int32} (h : outB a 4) : f_X5_isSlot a σ = some (0, σ) := by
  unfold f_X5_isSlot f_X5_isSlot_13 f_X5_isSlot_14
  rcases h with z | ⟨z1, z2⟩
  · rw [if_pos z, gz_0]
  · rw [if_neg z1, if_pos (show (4 : Int32) ≤ a from z2), gz_0]
theorem g6_slot {s : Nat} (hs : s < 4) : f_X6_isSlot (nI s) σ = some (1, σ) := by
  unfold f_X6_isSlot
  have h := s_in0 (nI s) (3 : Int32) σ
  rw [show decide ((0 : Int32) ≤ nI s ∧ nI s ≤ (3 : Int32)) = true from in_in (m := 4) hs (by decide)] at h
  have t : f_X6_in (nI s).toInt64 (0 : Int64) (3 : Int64) σ = some (1, σ) := h
  rw [bd_at t, gz_1]
theorem g6_noslot {a : Int32} (h : outB a 4) : f_X6_isSlot a σ = some (0, σ) := by
  unfold f_X6_isSlot
  have h1 := s_in0 a (3 : Int32) σ
  rw [show decide ((0 : Int32) ≤ a ∧ a ≤ (3 : Int32)) = false from out_in (m := 4) (by decide) (by decide) h] at h1
  have t : f_X6_in a.toInt64 (0 : Int64) (3 : Int64) σ = some (0, σ) := h1
  rw [bd_at t, gz_0]
theorem g5_kind {k : Nat} (hk : k < 3) : f_X5_isKind (nI k) σ = some (1, σ) := by
  unfold f_X5_isKind f_X5_isKind_14
  rw [if_neg (nI_pos (by omega)), if_neg (show ¬ (3 : Int32) ≤ nI k from nI_ge (a := k) (b := 3) hk (by decide)), gz_1]
theorem g5_nokind {a : Int32} (h : outB a 3) : f_X5_isKind a σ = some (0, σ) := by
  unfold f_X5_isKind f_X5_isKind_13 f_X5_isKind_14
  rcases h with z | ⟨z1, z2⟩
  · rw [if_pos z, gz_0]
  · rw [if_neg z1, if_pos (show (3 : Int32) ≤ a from z2), gz_0]
theorem g6_kind {k : Nat} (hk : k < 3) : f_X6_in (nI k).toInt64 (0 : Int64) (2 : Int64) σ = some (1, σ) := by
  have := s_in0 (nI k) (2 : Int32) σ
  rw [show decide ((0 : Int32) ≤ nI k ∧ nI k ≤ (2 : Int32)) = true from in_in (m := 3) hk (by decide)] at this
  exact this
theorem g6_nokind {a : Int32} (h : outB a 3) : f_X6_in a.toInt64 (0 : Int64) (2 : Int64) σ = some (0, σ) := by
  have := s_in0 a (2 : Int32) σ
  rw [show decide ((0 : Int32) ≤ a ∧ a ≤ (2 : Int32)) = false from out_in (m := 3) (by decide) (by decide) h] at this
  exact this
theorem g5_cell {w h : Nat} {U D : Nat → Bool} (g : CG σ w h U D) {c : Nat} (hc : c < w * h) : f_X1_hasCell (nI c) σ = some (1, σ) := by
  have har := area_le g.2.1 g.2.2.2.1
  unfold f_X1_hasCell f_X1_hasCell_17
  rw [if_neg (nI_pos (by omega)), g.2.2.2.2.2.2.1, if_neg (nI_ge hc (by omega)), gz_1]
theorem g5_nocell {w h : Nat} {U D : Nat → Bool} (g : CG σ w h U D) {a : Int32} (ha : outB a (w * h)) : f_X1_hasCell a σ = some (0, σ) := by
  unfold f_X1_hasCell f_X1_hasCell_16 f_X1_hasCell_17
  rcases ha with z | ⟨z1, z2⟩
  · rw [if_pos z, gz_0]
  · rw [if_neg z1, g.2.2.2.2.2.2.1, if_pos z2, gz_0]
theorem area_1 {w h : Nat} (hw : 1 ≤ w) (hh : 1 ≤ h) : 1 ≤ w * h := Nat.mul_le_mul hw hh
theorem g6_cell {w h : Nat} {U D : Nat → Bool} (g : MG σ w h U D) {c : Nat} (hc : c < w * h) : f_X6_isCell (nI c) σ = some (1, σ) := by
  have har := area_le g.2.1 g.2.2.2.1
  have h1 := area_1 g.1 g.2.2.1
  unfold f_X6_isCell
  rw [bd_at (s_cells g), show nI (w * h) - (1 : Int32) = nI (w * h - 1) from nI_sub (b := 1) h1, bd_at (s_in0 (nI c) (nI (w * h - 1)) σ), in_in hc (by omega), bI_t, gz_1]
theorem g6_nocell {w h : Nat} {U D : Nat → Bool} (g : MG σ w h U D) {a : Int32} (ha : outB a (w * h)) : f_X6_isCell a σ = some (0, σ) := by
  have har := area_le g.2.1 g.2.2.2.1
  have h1 := area_1 g.1 g.2.2.1
  unfold f_X6_isCell
  rw [bd_at (s_cells g), show nI (w * h) - (1 : Int32) = nI (w * h - 1) from nI_sub (b := 1) h1, bd_at (s_in0 a (nI (w * h - 1)) σ), out_in h1 (by omega) ha, bI_f, gz_0]
end GA
/-- both answer alike, and go on alike -/
def Both {α : Type} (f g : St → Option (α × St)) (σ : St) : Prop := ∃ r σ1 σ2, f σ = some (r, σ1) ∧ g σ1 = some (r, σ2) ∧ Rel σ2
theorem RZ.rel {σ : St} {w h : Nat} {U D : Nat → Bool} {wt : Nat → Nat → Int} (h0 : RZ σ w h U D wt) : Rel σ := ⟨w, h, U, D, wt, h0⟩
/-! counting, layings and the dearest -/
theorem m_layings {σ : St} {w h : Nat} {U D : Nat → Bool} {wt : Nat → Nat → Int} (h0 : RZ σ w h U D wt) : Both f_X5_layings f_X6_layings σ := by
  obtain ⟨σ1, e1, e2, e3, -⟩ := s_makeSteps h0
  obtain ⟨σ2, d1, d2, d3, d4⟩ := s_layWays e2.1.2.2.1
  refine ⟨lN (Wr w U D (w * h) 0 0), σ1, σ2, ?_, ?_, (e2.scr' d4 (fun p hp => by unfold SCR; omega)).rel⟩
  · unfold f_X5_layings
    rw [bd_at e1, bd_at (s_total e3)]
  · unfold f_X6_layings
    rw [bd_at d1, show (0 : Int32) = nI 0 from rfl, rdL_at _ _ (show 0 < len 31 by decide) (by decide), show (0 : Nat) = 256 * 0 + 0 from rfl, d2 0 (Nat.zero_le _) 0 (Nat.pow_pos (by decide)), Nat.sub_zero]
theorem m_with {σ : St} {w h : Nat} {U D : Nat → Bool} {wt : Nat → Nat → Int} (h0 : RZ σ w h U D wt) (a b : Int32) : Both (f_X5_with a b) (f_X6_with a b) σ := by
  have har := area_le h0.1.1.2.1 h0.1.1.2.2.2.1
  unfold Both f_X5_with f_X5_with_18 f_X6_with f_X6_with_20
  rcases gate a (show w * h < 2 ^ 31 by omega) with ha | ⟨c, hc, rfl⟩
  · rw [bd_at (g5_nocell h0.1.1 ha), if_pos rfl]
    refine ⟨_, σ, σ, rfl, ?_, h0.rel⟩
    rw [bd_at (g6_nocell h0.1.2.2.1 ha), if_pos rfl]
  · rw [bd_at (g5_cell h0.1.1 hc), if_neg (by decide)]
    rcases gate b (show 3 < 2 ^ 31 by decide) with hb | ⟨k, hk, rfl⟩
    · rw [bd_at (g5_nokind hb), if_pos rfl]
      refine ⟨_, σ, σ, rfl, ?_, h0.rel⟩
      rw [bd_at (g6_cell h0.1.2.2.1 hc), if_neg (by decide), bd_at (g6_nokind hb), if_pos rfl]
    · obtain ⟨σ1, e1, e2, e3, -⟩ := s_makeSteps h0
      obtain ⟨σ2, d1, d2, d3, d4⟩ := s_layWays e2.1.2.2.1
      have g2 := e2.1.2.2.1.keep d4 (by omega) (by omega)
      obtain ⟨σ3, c1, c2, c3, c4⟩ := s_layCome g2
      have g3 := g2.keep c4 (by omega) (by omega)
      have hW : WaysOK σ3 w h U D := fun c' hc' m hm => by rw [(c4 31 (by omega) _).2]; exact d2 c' hc' m hm
      rw [bd_at (g5_kind hk), if_neg (by decide), bd_at e1, bd_at (s_waysThrough' e2.1.1 e3 hc hk)]
      refine ⟨_, σ1, σ3, rfl, ?_, ((e2.scr' d4 (fun p hp => by unfold SCR; omega)).scr' c4 (fun p hp => by unfold SCR; omega)).rel⟩
      rw [bd_at (g6_cell e2.1.2.2.1 hc), if_neg (by decide), bd_at (g6_kind hk), if_neg (by decide), bd_at d1, bd_at c1, bd_at (s_withKind g3 hW c2 hc hk)]
theorem m_kinds {σ : St} {w h : Nat} {U D : Nat → Bool} {wt : Nat → Nat → Int} (h0 : RZ σ w h U D wt) (a : Int32) : Both (f_X5_kinds a) (f_X6_kinds a) σ := by
  have har := area_le h0.1.1.2.1 h0.1.1.2.2.2.1
  unfold Both f_X5_kinds f_X6_kinds
  rcases gate a (show w * h < 2 ^ 31 by omega) with ha | ⟨c, hc, rfl⟩
  · rw [bd_at (g5_nocell h0.1.1 ha), if_pos rfl]
    refine ⟨_, σ, σ, rfl, ?_, h0.rel⟩
    rw [bd_at (g6_nocell h0.1.2.2.1 ha), if_pos rfl]
  · rw [bd_at (g5_cell h0.1.1 hc), if_neg (by decide)]
    obtain ⟨σ1, e1, e2, e3, -⟩ := s_makeSteps h0
    obtain ⟨σ2, d1, d2, d3, d4⟩ := s_layWays e2.1.2.2.1
    have g2 := e2.1.2.2.1.keep d4 (by omega) (by omega)
    obtain ⟨σ3, c1, c2, c3, c4⟩ := s_layCome g2
    have g3 := g2.keep c4 (by omega) (by omega)
    have hW : WaysOK σ3 w h U D := fun c' hc' m hm => by rw [(c4 31 (by omega) _).2]; exact d2 c' hc' m hm
    rw [bd_at e1, bd_at (s_kindSet e2.1.1 e3 hc)]
    refine ⟨_, σ1, σ3, rfl, ?_, ((e2.scr' d4 (fun p hp => by unfold SCR; omega)).scr' c4 (fun p hp => by unfold SCR; omega)).rel⟩
    rw [bd_at (g6_cell e2.1.2.2.1 hc), if_neg (by decide), bd_at d1, bd_at c1, bd_at (s_kindsOf g3 hW c2 hc)]
theorem m_forced {σ : St} {w h : Nat} {U D : Nat → Bool} {wt : Nat → Nat → Int} (h0 : RZ σ w h U D wt) : Both f_X5_forced f_X6_forced σ := by
  have har := area_le h0.1.1.2.1 h0.1.1.2.2.2.1
  obtain ⟨σ1, e1, e2, e3, -⟩ := s_makeSteps h0
  obtain ⟨σ2, d1, d2, d3, d4⟩ := s_layWays e2.1.2.2.1
  have g2 := e2.1.2.2.1.keep d4 (by omega) (by omega)
  obtain ⟨σ3, c1, c2, c3, c4⟩ := s_layCome g2
  have g3 := g2.keep c4 (by omega) (by omega)
  have hW : WaysOK σ3 w h U D := fun c' hc' m hm => by rw [(c4 31 (by omega) _).2]; exact d2 c' hc' m hm
  unfold Both f_X5_forced f_X6_forced
  rw [bd_at e1]
  have h8 := s_forced_8 e2.1.1 e3 FU 0 (Nat.zero_le _) (by unfold FU; omega)
  have h12 := s_forced_12 g3 hW c2 FU 0 (Nat.zero_le _) (by unfold FU; omega)
  refine ⟨_, σ1, σ3, h8, ?_, ((e2.scr' d4 (fun p hp => by unfold SCR; omega)).scr' c4 (fun p hp => by unfold SCR; omega)).rel⟩
  rw [bd_at d1, bd_at c1]
  exact h12
theorem Wr_0 {σ : St} {w h : Nat} {U D : Nat → Bool} (g : CG σ w h U D) : lN (Wr w U D (w * h) 0 0) = 0 ↔ Wr w U D (w * h) 0 0 = 0 := lN_0 (by
  have := Wr_56 (U := U) (D := D) g.2.1 g.2.2.2.1 (show 0 + w * h = w * h by omega) 0
  omega)
theorem m_span {σ : St} {w h : Nat} {U D : Nat → Bool} {wt : Nat → Nat → Int} (h0 : RZ σ w h U D wt) (a b : Int32) : Both (f_X5_span a b) (f_X6_span a b) σ := by
  have har := area_le h0.1.1.2.1 h0.1.1.2.2.2.1
  unfold Both f_X5_span f_X5_span_38 f_X6_span f_X6_span_57
  rcases gate a (show 3 < 2 ^ 31 by decide) with ha | ⟨k, hk, rfl⟩
  · rw [bd_at (g5_nokind ha), if_pos rfl]
    refine ⟨_, σ, σ, rfl, ?_, h0.rel⟩
    rw [bd_at (g6_nokind ha), if_pos rfl]
  · obtain ⟨σ1, e1, e2, e3, -⟩ := s_makeSteps h0
    have hwR := wtS_R (F := fun j => gi σ1 28 j) (w := w) (h := h) hk (a2 := b) rfl
    rw [bd_at (g5_kind hk), if_neg (by decide), bd_at e1, bd_at (s_total e3)]
    have fin : ∀ τ : St, RZ τ w h U D wt → (∀ j, gi τ 28 j = gi σ1 28 j) → ∃ σ2, (bd (f_X6_layBest (nI k) b τ) fun _ σ4 => rdI σ4 33 (0 : Int32) fun v5 => if v5 = (-900009 : Int32) then some ((-900009 : Int32), σ4) else if b = 0 then rdI σ4 33 (0 : Int32) fun v6 => some (-v6, σ4) else rdI σ4 33 (0 : Int32) fun v7 => some (v7, σ4)) = some ((match Bs w U D (wtS k (if b = 0 then -1 else 1)) (w * h) 0 0 with | none => -900009 | some z => iZ ((if b = 0 then -1 else 1) * z)), σ2) ∧ RZ σ2 w h U D wt := by
      intro τ hτ h28
      obtain ⟨σ2, d1, d2, d3, d4⟩ := s_layBest hwR hτ.1.2.2.1 h28
      have hv : gi σ2 33 0 = oZ (Bs w U D (wtS k (if b = 0 then -1 else 1)) (w * h) 0 0) := by
        have := d2 0 (Nat.zero_le _) 0 (Nat.pow_pos (by decide))
        rw [Nat.sub_zero] at this
        exact this
      have hB := oB_le (B_800 hτ.1.1.2.1 hτ.1.1.2.2.2.1 (U := U) (D := D) hwR.1 (Nat.le_refl (w * h)) 0 0) (show (10000 : Int) ≤ 800000 by decide)
      refine ⟨σ2, ?_, hτ.scr' d4 (fun p hp => by unfold SCR; omega)⟩
      have r0 : ∀ f : Int32 → Option (Int32 × St), rdI σ2 33 (0 : Int32) f = f (gi σ2 33 0) := fun f => rdI_at σ2 f (show 0 < len 33 by decide) (by decide)
      rw [bd_at d1, r0, r0, r0, hv]
      cases hb : Bs w U D (wtS k (if b = 0 then -1 else 1)) (w * h) 0 0 with
      | none => rw [if_pos (show oZ none = -900009 from rfl)]
      | some z =>
        rw [hb] at hB
        rw [if_neg (fun q => by have := (oZ_none hB).mp q; cases this)]
        by_cases hb0 : b = 0
        · rw [if_pos hb0]
          show some (-iZ z, σ2) = some (iZ ((if b = 0 then -1 else 1) * z), σ2)
          rw [if_pos hb0, iZ_neg, show (-1 : Int) * z = -z by omega]
        · rw [if_neg hb0]
          show some (iZ z, σ2) = some (iZ ((if b = 0 then -1 else 1) * z), σ2)
          rw [if_neg hb0, Int.one_mul]
    by_cases hW0 : Wr w U D (w * h) 0 0 = 0
    · rw [if_pos ((Wr_0 e2.1.1).mpr hW0)]
      obtain ⟨σ2, f1, f2⟩ := fin σ1 e2 (fun _ => rfl)
      rw [Bs_none.mpr hW0] at f1
      refine ⟨_, σ1, σ2, rfl, ?_, f2.rel⟩
      rw [bd_at (g6_kind hk), if_neg (by decide)]
      exact f1
    · rw [if_neg (fun q => hW0 ((Wr_0 e2.1.1).mp q))]
      obtain ⟨z, hz⟩ : ∃ z, Bs w U D (wtS k (if b = 0 then -1 else 1)) (w * h) 0 0 = some z := by
        cases hb : Bs w U D (wtS k (if b = 0 then -1 else 1)) (w * h) 0 0 with
        | none => exact absurd (Bs_none.mp hb) hW0
        | some z => exact ⟨z, rfl⟩
      have h42 := s_span42 (e := if b = 0 then -1 else 1) hk (by by_cases q : b = 0 <;> simp [q]) FU 0 σ1 (Nat.zero_le _) (by decide) e2.1.1 e3 (fun j hj => by omega)
      obtain ⟨σ2, c1, c2, c3⟩ := h42
      rw [RK_0 c2 hz, iZ_mul] at c1
      have hR2 := e2.scr' c3 (fun p hp => by unfold SCR; omega)
      obtain ⟨σ3, f1, f2⟩ := fin σ2 hR2 (fun j => (c3 28 (by omega) j).1)
      rw [hz] at f1
      have hc : (if b = 0 then f_X5_span_42 FU (nI k) (-1 : Int32) (0 : Int32) σ1 else f_X5_span_42 FU (nI k) (1 : Int32) (0 : Int32) σ1) = some (iZ ((if b = 0 then -1 else 1) * z), σ2) := by
        by_cases q : b = 0
        · rw [if_pos q] at c1 ⊢
          rw [if_pos q]
          exact c1
        · rw [if_neg q] at c1 ⊢
          rw [if_neg q]
          exact c1
      refine ⟨_, σ2, σ3, hc, ?_, f2.rel⟩
      rw [bd_at (g6_kind hk), if_neg (by decide)]
      exact f1
theorem m_dearest {σ : St} {w h : Nat} {U D : Nat → Bool} {wt : Nat → Nat → Int} (h0 : RZ σ w h U D wt) : Both f_X5_dearest f_X6_dearest σ := by
  have har := area_le h0.1.1.2.1 h0.1.1.2.2.2.1
  obtain ⟨σ1, e1, e2, e3, -⟩ := s_makeSteps h0
  have hT := e2.1.2.2.2.2.1
  unfold Both f_X5_dearest f_X6_dearest
  rw [bd_at e1, bd_at (s_total e3)]
  have fin : ∀ τ : St, RZ τ w h U D wt → ∃ σ2, (bd (f_X6_layBest (3 : Int32) (1 : Int32) τ) fun _ σ2 => rdI σ2 33 (0 : Int32) fun v3 => some (v3, σ2)) = some (oZ (Bs w U D wt (w * h) 0 0), σ2) ∧ RZ σ2 w h U D wt := by
    intro τ hτ
    obtain ⟨σ2, d1, d2, d3, d4⟩ := s_layBest (WT_R har hτ.1.2.2.2.2.1) hτ.1.2.2.1 (fun _ => rfl)
    refine ⟨σ2, ?_, hτ.scr' d4 (fun p hp => by unfold SCR; omega)⟩
    rw [bd_at d1, show (0 : Int32) = nI 0 from rfl, rdI_at _ _ (show 0 < len 33 by decide) (by decide)]
    have := d2 0 (Nat.zero_le _) 0 (Nat.pow_pos (by decide))
    rw [Nat.sub_zero] at this
    have h2 : gi σ2 33 0 = oZ (Bs w U D wt (w * h) 0 0) := this
    rw [h2]
  by_cases hW0 : Wr w U D (w * h) 0 0 = 0
  · rw [if_pos ((Wr_0 e2.1.1).mpr hW0)]
    obtain ⟨σ2, f1, f2⟩ := fin σ1 e2
    rw [Bs_none.mpr hW0] at f1
    exact ⟨_, σ1, σ2, rfl, f1, f2.rel⟩
  · rw [if_neg (fun q => hW0 ((Wr_0 e2.1.1).mp q))]
    obtain ⟨z, hz⟩ : ∃ z, Bs w U D wt (w * h) 0 0 = some z := by
      cases hb : Bs w U D wt (w * h) 0 0 with
      | none => exact absurd (Bs_none.mp hb) hW0
      | some z => exact ⟨z, rfl⟩
    obtain ⟨σ2, c1, c2, c3⟩ := s_rank (Or.inl rfl) hT.2.1 hT.1 e2.1.1 e3 (WT_C har hT)
    rw [RK_0 c2 hz] at c1
    rw [bd_at c1]
    obtain ⟨σ3, f1, f2⟩ := fin σ2 (e2.scr' c3 (fun p hp => by unfold SCR; omega))
    rw [hz] at f1
    exact ⟨_, σ2, σ3, rfl, f1, f2.rel⟩
