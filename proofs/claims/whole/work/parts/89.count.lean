/-! ===== HALF 2: countFrom, family of the class ===== -/
theorem tb_neg (x : Int64) (i : Nat) : tb (-x) i = (tb x i ^^ (decide (i < 64) && decide (∃ j, j < i ∧ tb x j = true))) := by
  unfold tb
  rw [Int64.toBitVec_neg, BitVec.getLsbD_neg]
/-- the lowest bit -/
theorem low_bit {x : Int64} (h : x ≠ 0) : ∃ k, k < 64 ∧ tb x k = true ∧ (∀ j, j < k → tb x j = false) ∧ x &&& (-x) = lshl 1 (nI k) := by
  have hex : ∃ k, k < 64 ∧ tb x k = true := by
    apply Classical.byContradiction
    intro q
    apply h
    rw [tb_eq0]
    intro i hi
    cases z : tb x i with
    | false => rfl
    | true => exact absurd ⟨i, hi, z⟩ q
  obtain ⟨k, hk, hmin⟩ := pk_least (fun k => k < 64 ∧ tb x k = true) hex
  have hm : ∀ j, j < k → tb x j = false := fun j hj => by
    cases z : tb x j with
    | false => rfl
    | true => exact absurd ⟨by omega, z⟩ (hmin j hj)
  refine ⟨k, hk.1, hk.2, hm, tb_ext (fun i hi => ?_)⟩
  rw [tb_and, tb_neg, tb_bit hk.1]
  rcases Nat.lt_trichotomy i k with q | q | q
  · rw [hm i q, decide_eq_false (show ¬ i = k by omega)]
    rfl
  · subst q
    rw [hk.2, decide_eq_false (show ¬ ∃ j, j < i ∧ tb x j = true from fun ⟨j, h1, h2⟩ => by rw [hm j h1] at h2; cases h2), decide_eq_true rfl]
    simp
  · rw [decide_eq_true (show ∃ j, j < i ∧ tb x j = true from ⟨k, q, hk.2⟩), decide_eq_false (show ¬ i = k by omega), decide_eq_true hi]
    cases tb x i <;> rfl
theorem tb_pred : ∀ k, k < 64 → ∀ i, i < 64 → tb (lshl 1 (nI k) - 1) i = decide (i < k) := by decide +kernel
theorem tb_negbit : ∀ k, k < 64 → ∀ i, i < 64 → tb (lshl (-(lshl 1 (nI k))) 1) i = decide (k < i) := by decide +kernel
/-- no HIGH point before k but those that its turn spoils -/
def gdV (hg : Int64) (w k : Nat) : Prop := ((hg &&& (lshl 1 (nI k) - 1)) &&& (((lushr (lshl 1 (nI k)) 1) ||| (lushr (lshl 1 (nI k)) (nI w - 1))) ^^^ (-1))) = 0
theorem gdV_iff {hg : Int64} {w k : Nat} (hw : 1 ≤ w) (hw8 : w ≤ 8) (hk : k < 64) : gdV hg w k ↔ ∀ q, q < k → ¬ (tb hg q = true ∧ q + 1 ≠ k ∧ q + (w - 1) ≠ k) := by
  unfold gdV
  rw [tb_eq0, show nI w - 1 = nI (w - 1) from nI_sub (b := 1) hw, show (1 : Int32) = nI 1 from rfl]
  have e : ∀ q, q < 64 → tb ((hg &&& (lshl 1 (nI k) - 1)) &&& (((lushr (lshl 1 (nI k)) (nI 1)) ||| (lushr (lshl 1 (nI k)) (nI (w - 1)))) ^^^ (-1))) q = ((tb hg q && decide (q < k)) && !(decide (1 + q = k) || decide (w - 1 + q = k))) := fun q hq => by
    rw [tb_and, tb_and, tb_not _ hq, tb_or, tb_lushr _ (by decide), tb_lushr _ (by omega), tb_bit hk, tb_bit hk, tb_pred k hk q hq]
  constructor
  · intro h q hq z
    have := h q (by omega)
    rw [e q (by omega), z.1, decide_eq_true hq, decide_eq_false (show ¬ 1 + q = k by omega), decide_eq_false (show ¬ w - 1 + q = k by omega)] at this
    cases this
  · intro h q hq
    rw [e q hq]
    cases z : tb hg q with
    | false => rfl
    | true =>
      by_cases h1 : q < k
      · have := h q h1
        by_cases h2 : 1 + q = k
        · simp [h2]
        · by_cases h3 : w - 1 + q = k
          · simp [h3]
          · exact absurd ⟨z, by omega, by omega⟩ this
      · simp [h1]
/-- HIGH points once k is turned -/
theorem hi_after {w : Nat} {U D : Nat → Bool} {N : Nat} {K : Nat → Nat} {k q : Nat} (hw : 1 ≤ w) (h : atP w U D N true K k) (hq : q < k) : atP w U D N false (tu w true K k) q ↔ atP w U D N false K q ∧ q + 1 ≠ k ∧ q + (w - 1) ≠ k := by
  obtain ⟨h0, h1, h2, h3⟩ := h
  have hi := inn_of h0
  have hw2 := hi.2.2.2.2.1 hw
  have a1 : tu w true K k k = 2 := tu_c
  have a2 : tu w true K k (k - 1) = 0 := tu_1 (by omega)
  have a3 : tu w true K k (k - w) = 1 := tu_w hw2 hi.2.2.1
  have b1 : K k = 1 := h1
  have b2 : K (k - 1) = 2 := h2
  have b3 : K (k - w) = 0 := h3
  constructor
  · rintro ⟨i0, i1, i2, i3⟩
    have hi' := inn_of i0
    have c1 : tu w true K k q = 2 := i1
    have c2 : tu w true K k (q - 1) = 0 := i2
    have c3 : tu w true K k (q - w) = 1 := i3
    have n1 : q ≠ k - 1 := fun e => by rw [e, a2] at c1; cases c1
    have n2 : q ≠ k - w := fun e => by rw [e, a3] at c1; cases c1
    have n3 : q - 1 ≠ k - w := fun e => by rw [e, a3] at c2; cases c2
    have n4 : q - w ≠ k - 1 := fun e => by rw [e, a2] at c3; cases c3
    rw [tu_o (by omega) n1 n2] at c1
    rw [tu_o (by omega) (by omega) n3] at c2
    rw [tu_o (by omega) n4 (by omega)] at c3
    exact ⟨⟨i0, c1, c2, c3⟩, by omega, by omega⟩
  · rintro ⟨⟨i0, i1, i2, i3⟩, n1, n2⟩
    have hi' := inn_of i0
    have c1 : K q = 2 := i1
    have c2 : K (q - 1) = 0 := i2
    have c3 : K (q - w) = 1 := i3
    have n3 : q ≠ k - w := fun e => by rw [e, b3] at c1; cases c1
    refine ⟨i0, ?_, ?_, ?_⟩
    · rw [tu_o (by omega) (by omega) n3]; exact i1
    · rw [tu_o (by omega) (by omega) (by omega)]; exact i2
    · rw [tu_o (by omega) (by omega) (by omega)]; exact i3
theorem s_fb6 {hg : Int64} {w : Nat} (σ : St) : ∀ (n i : Nat) (rest : Int64), pc rest < n → pc rest + i ≤ 64 →
    ∃ r, f_X4_firstBranch_6 n hg (nI w) rest (nI i) σ = some (r, σ) ∧ ((∃ p, p < 64 ∧ tb rest p = true ∧ gdV hg w p ∧ (∀ q, q < p → tb rest q = true → ¬ gdV hg w q) ∧ r = lshl 1 (nI p)) ∨ ((∀ q, q < 64 → tb rest q = true → ¬ gdV hg w q) ∧ r = 0)) := by
  intro n
  induction n with
  | zero => intro i rest h1; omega
  | succ n ih =>
    intro i rest h1 h2
    rw [f_X4_firstBranch_6]
    unfold f_X4_firstBranch_76
    by_cases h0 : rest = 0
    · have hz : ∀ q, tb rest q = false := fun q => by rw [h0, tb_0]
      refine ⟨0, ?_, Or.inr ⟨fun q _ hq => (by rw [hz q] at hq; cases hq), rfl⟩⟩
      by_cases q : (64 : Int32) ≤ nI i
      · rw [if_pos q]
      · rw [if_neg q, if_pos h0]
    · have hp := pc_pos h0
      rw [if_neg (show ¬ (64 : Int32) ≤ nI i from nI_ge (a := i) (b := 64) (by omega) (by decide)), if_neg h0]
      obtain ⟨k, hk, hb, hmin, hlow⟩ := low_bit h0
      rw [hlow]
      by_cases hg' : gdV hg w k
      · have hg2 : ((hg &&& (lshl 1 (nI k) - 1)) &&& (((lushr (lshl 1 (nI k)) 1) ||| (lushr (lshl 1 (nI k)) (nI w - 1))) ^^^ (-1))) = 0 := hg'
        rw [if_pos hg2]
        exact ⟨_, rfl, Or.inl ⟨k, hk, hb, hg', fun q hq hz => (by rw [hmin q hq] at hz; cases hz), rfl⟩⟩
      · have hg2 : ¬ ((hg &&& (lshl 1 (nI k) - 1)) &&& (((lushr (lshl 1 (nI k)) 1) ||| (lushr (lshl 1 (nI k)) (nI w - 1))) ^^^ (-1))) = 0 := hg'
        rw [if_neg hg2, nI_1]
        have e : ∀ q, q < 64 → tb (rest ^^^ lshl 1 (nI k)) q = upB (tb rest) k false q := fun q hq => by
          rw [tb_xor, tb_bit hk]
          unfold upB
          by_cases z : q = k
          · rw [if_pos z, decide_eq_true z, z, hb]; rfl
          · rw [if_neg z, decide_eq_false z, Bool.xor_false]
        have hpc : pc (rest ^^^ lshl 1 (nI k)) + 1 = pc rest := by
          unfold pc
          rw [cnt_congr e]
          exact cnt_upd hk hb
        obtain ⟨r, f1, f2⟩ := ih (i + 1) (rest ^^^ lshl 1 (nI k)) (by omega) (by omega)
        refine ⟨r, f1, ?_⟩
        have back : ∀ q, q < 64 → tb rest q = true → q ≠ k → tb (rest ^^^ lshl 1 (nI k)) q = true := fun q hq hz hne => by
          rw [e q hq]
          unfold upB
          rw [if_neg hne]
          exact hz
        rcases f2 with ⟨p, p1, p2, p3, p4, p5⟩ | ⟨p1, p2⟩
        · have hpk : p ≠ k := fun z => by
            rw [e p p1, z] at p2
            unfold upB at p2
            rw [if_pos rfl] at p2
            cases p2
          have p2' : tb rest p = true := by
            rw [e p p1] at p2
            unfold upB at p2
            rw [if_neg hpk] at p2
            exact p2
          refine Or.inl ⟨p, p1, p2', p3, fun q hq hz => ?_, p5⟩
          by_cases z : q = k
          · rw [z]; exact hg'
          · exact p4 q hq (back q (by omega) hz z)
        · refine Or.inr ⟨fun q hq hz => ?_, p2⟩
          by_cases z : q = k
          · rw [z]; exact hg'
          · exact p1 q hq (back q hq hz z)
/-- bits from j on -/
def MK (m : Int64) (j : Nat) : Prop := ∀ i, i < 64 → tb m i = decide (j ≤ i)
section CF
variable {w h : Nat} {U D : Nat → Bool} {σ : St} {K : Nat → Nat}
theorem gd_ch (g : CG σ w h U D) (g6 : CI6 σ w h U D) (hL : LC σ 10 (w * h) U K) {p : Nat} (hp : p < 64) (hat : atP w U D (w * h) true K p) : gdV (ptsV σ 10 false) w p ↔ chB w U D (w * h) K p = true := by
  rw [gdV_iff g.1 g.2.1 hp, chB_iff]
  constructor
  · intro z
    refine ⟨hat, fun q hq r => z q hq ?_⟩
    obtain ⟨r1, r2, r3⟩ := (hi_after g.1 hat hq).mp r
    exact ⟨(tb_pts g g6 hL false (by omega)).mpr r1, r2, r3⟩
  · rintro ⟨-, z⟩ q hq ⟨r1, r2, r3⟩
    exact z q hq ((hi_after g.1 hat hq).mpr ⟨(tb_pts g g6 hL false (by omega)).mp r1, r2, r3⟩)
/-- what firstBranch answers -/
theorem s_fb (g : CG σ w h U D) (g6 : CI6 σ w h U D) (hL : LC σ 10 (w * h) U K) {m : Int64} {j : Nat} (hm : MK m j) :
    (∀ p, j ≤ p → chB w U D (w * h) K p = true → (∀ q, j ≤ q → q < p → ¬ chB w U D (w * h) K q = true) → f_X4_firstBranch (ptsV σ 10 true &&& m) (ptsV σ 10 false) (nI w) σ = some (lshl 1 (nI p), σ)) ∧ ((∀ p, j ≤ p → ¬ chB w U D (w * h) K p = true) → f_X4_firstBranch (ptsV σ 10 true &&& m) (ptsV σ 10 false) (nI w) σ = some (0, σ)) := by
  have har := area_le g.2.1 g.2.2.2.1
  unfold f_X4_firstBranch
  have hpc := pc_le (ptsV σ 10 true &&& m)
  obtain ⟨r, e1, e2⟩ := s_fb6 (hg := ptsV σ 10 false) (w := w) σ FU 0 (ptsV σ 10 true &&& m) (by unfold FU; omega) (by omega)
  rw [show nI 0 = 0 from rfl] at e1
  have tbm : ∀ q, q < 64 → (tb (ptsV σ 10 true &&& m) q = true ↔ atP w U D (w * h) true K q ∧ j ≤ q) := fun q hq => by
    rw [tb_and, Bool.and_eq_true, tb_pts g g6 hL true hq, hm q hq, decide_eq_true_eq]
  have lt : ∀ q, chB w U D (w * h) K q = true → q < 64 := fun q hq => by
    have := (inn_of (chB_iff.mp hq).1.1).1
    omega
  rw [e1]
  refine ⟨fun p hp hc hmin => ?_, fun hno => ?_⟩
  · rcases e2 with ⟨p', p1, p2, p3, p4, p5⟩ | ⟨p1, -⟩
    · have hp2 := (tbm p' p1).mp p2
      have hc' := (gd_ch g g6 hL p1 hp2.1).mp p3
      have : p' = p := by
        rcases Nat.lt_trichotomy p' p with z | z | z
        · exact absurd hc' (hmin p' hp2.2 z)
        · exact z
        · have hat := (chB_iff.mp hc).1
          exact absurd ((gd_ch g g6 hL (lt p hc) hat).mpr hc) (p4 p z ((tbm p (lt p hc)).mpr ⟨hat, hp⟩))
      rw [p5, this]
    · have hat := (chB_iff.mp hc).1
      exact absurd ((gd_ch g g6 hL (lt p hc) hat).mpr hc) (p1 p (lt p hc) ((tbm p (lt p hc)).mpr ⟨hat, hp⟩))
  · rcases e2 with ⟨p', p1, p2, p3, p4, p5⟩ | ⟨-, p2⟩
    · have hp2 := (tbm p' p1).mp p2
      exact absurd ((gd_ch g g6 hL p1 hp2.1).mp p3) (hno p' hp2.2)
    · rw [p2]
def lp (n f : Nat) (m : Int64) (mv : Nat) (σ : St) : Option (Int32 × St) := f_X4_countFrom_10 n (nI 2000) (nI f) m (nI mv) σ
theorem bit_ne {p : Nat} (hp : p < 64) : lshl 1 (nI p) ≠ 0 := fun z => by
  have := tb_bit hp p
  rw [z, tb_0] at this
  simp at this
/-- down to a branch -/
theorem lp_a (g : CG σ w h U D) (g6 : CI6 σ w h U D) (hL : LC σ 10 (w * h) U K) {m : Int64} {j n f mv p : Nat} (hm : MK m j) (hf : f ≤ 2000) (hmv : mv < 10000) (hp : j ≤ p) (hc : chB w U D (w * h) K p = true) (hmin : ∀ q, j ≤ q → q < p → ¬ chB w U D (w * h) K q = true) :
    lp (n + 1) f m mv σ = lp n (f + 1) (-1) (mv + 1) (flipS σ 10 w (lshl 1 (nI p))) := by
  have har := area_le g.2.1 g.2.2.2.1
  have hp64 : p < 64 := by
    have := (inn_of (chB_iff.mp hc).1.1).1
    omega
  unfold lp
  rw [f_X4_countFrom_10, if_neg (show ¬ (10000 : Int32) ≤ nI mv from nI_ge (a := mv) (b := 10000) (by omega) (by decide)), if_neg (show ¬ nI 2000 < nI f from nI_nlt hf (by decide)), bd_at (s_highs 10 σ), bd_at (s_lows 10 σ), g.2.2.2.2.1, bd_at ((s_fb g g6 hL hm).1 p hp hc hmin), if_neg (bit_ne hp64), g.2.2.2.2.1, bd_at (s_flip 10 w _ σ), nI_1]
  unfold f_X4_countFrom_123
  rw [nI_1]
/-- nothing left: the end -/
theorem lp_b (g : CG σ w h U D) (g6 : CI6 σ w h U D) (hL : LC σ 10 (w * h) U K) {m : Int64} {j n f mv : Nat} (hm : MK m j) (hf : f ≤ 2000) (hmv : mv < 10000) (hno : ∀ p, j ≤ p → ¬ chB w U D (w * h) K p = true) (hB : NoP w U D (w * h) false K) : lp (n + 1) f m mv σ = some (nI f, σ) := by
  have h0 : ptsV σ 10 false = 0 := tb_eq0.mpr (fun i hi => by
    cases z : tb (ptsV σ 10 false) i with
    | false => rfl
    | true => exact absurd ((tb_pts g g6 hL false hi).mp z) (hB i))
  unfold lp
  rw [f_X4_countFrom_10, if_neg (show ¬ (10000 : Int32) ≤ nI mv from nI_ge (a := mv) (b := 10000) (by omega) (by decide)), if_neg (show ¬ nI 2000 < nI f from nI_nlt hf (by decide)), bd_at (s_highs 10 σ), bd_at (s_lows 10 σ), g.2.2.2.2.1, bd_at ((s_fb g g6 hL hm).2 hno), if_pos rfl, if_pos h0]
/-- nothing left: back -/
theorem lp_c (g : CG σ w h U D) (g6 : CI6 σ w h U D) (hL : LC σ 10 (w * h) U K) {q : Nat} (hq : atP w U D (w * h) false K q) (hmin : ∀ q', q' < q → ¬ atP w U D (w * h) false K q') : ∃ m', MK m' (q + 1) ∧ ∀ {m : Int64} {j n f mv : Nat}, MK m j → f ≤ 2000 → mv < 10000 → (∀ p, j ≤ p → ¬ chB w U D (w * h) K p = true) → lp (n + 1) f m mv σ = lp n f m' (mv + 1) (flipS σ 10 w (lshl 1 (nI q))) := by
  have har := area_le g.2.1 g.2.2.2.1
  have hq64 : q < 64 := by
    have := (inn_of hq.1).1
    omega
  have hb := (tb_pts g g6 hL false hq64).mpr hq
  have hne : ptsV σ 10 false ≠ 0 := fun z => by rw [z, tb_0] at hb; cases hb
  obtain ⟨k, hk, hk1, hk2, hk3⟩ := low_bit hne
  have hkq : k = q := by
    rcases Nat.lt_trichotomy k q with z | z | z
    · exact absurd ((tb_pts g g6 hL false hk).mp hk1) (hmin k z)
    · exact z
    · rw [hk2 q z] at hb; cases hb
  rw [hkq] at hk3
  refine ⟨lshl (-(lshl 1 (nI q))) 1, fun i hi => by rw [tb_negbit q hq64 i hi]; exact decide_eq_decide.mpr (by omega), ?_⟩
  intro m j n f mv hm hf hmv hno
  unfold lp
  rw [f_X4_countFrom_10, if_neg (show ¬ (10000 : Int32) ≤ nI mv from nI_ge (a := mv) (b := 10000) (by omega) (by decide)), if_neg (show ¬ nI 2000 < nI f from nI_nlt hf (by decide)), bd_at (s_highs 10 σ), bd_at (s_lows 10 σ), g.2.2.2.2.1, bd_at ((s_fb g g6 hL hm).2 hno), if_pos rfl, if_neg hne, g.2.2.2.2.1, hk3, bd_at (s_flip 10 w _ σ)]
  unfold f_X4_countFrom_123
  rw [nI_1]
/-- too many -/
theorem lp_x {n mv : Nat} {m : Int64} (hmv : mv < 10000) (τ : St) : lp (n + 1) 2001 m mv τ = some (nI 2001, τ) := by
  unfold lp
  rw [f_X4_countFrom_10, if_neg (show ¬ (10000 : Int32) ≤ nI mv from nI_ge (a := mv) (b := 10000) (by omega) (by decide)), if_pos (show nI 2000 < nI 2001 by decide)]
  rfl
end CF
