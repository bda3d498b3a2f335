/-! ===== HALF 2: many POINTS turned at once; toEnd of the class ===== -/
/-- KIND 2 in the row y before x -/
def Rg (w : Nat) (K : Nat → Nat) (x y : Nat) : Nat := sm (fun i => b1 (K (y * w + i) = 2)) x
theorem Rg_tu {w : Nat} {U D : Nat → Bool} {N : Nat} {t : Bool} {K : Nat → Nat} {c : Nat} (hw : 1 ≤ w) (h : atP w U D N t K c) (y : Nat) : ∀ x, Rg w (tu w t K c) x y + b1 (t = true ∧ y * w + x = c) = Rg w K x y + b1 (t = false ∧ y * w + x = c)
  | 0 => by
    have hi := inn_of h.1
    have hne : ¬ y * w + 0 = c := fun q => by
      have := hi.2.1
      rw [← q, Nat.add_zero, Nat.mul_mod_left] at this
      exact this rfl
    rw [b1_f (fun q => hne q.2), b1_f (fun q => hne q.2)]
    rfl
  | x + 1 => by
    have hi := inn_of h.1
    have ih := Rg_tu hw h y x
    have hE := (tu_e hw h (y * w + x)).2.2
    show Rg w (tu w t K c) x y + b1 (tu w t K c (y * w + x) = 2) + _ = Rg w K x y + b1 (K (y * w + x) = 2) + _
    have e1 : b1 (y * w + x = c - 1) = b1 (y * w + (x + 1) = c) := by
      by_cases q : y * w + (x + 1) = c
      · rw [b1_t q, b1_t (by omega)]
      · rw [b1_f q, b1_f (by omega)]
    cases t
    · have f1 : b1 (false = true ∧ y * w + (x + 1) = c) = 0 := b1_f (fun q => by cases q.1)
      have f2 : b1 (false = true ∧ y * w + x = c) = 0 := b1_f (fun q => by cases q.1)
      have f3 : b1 (false = false ∧ y * w + (x + 1) = c) = b1 (y * w + (x + 1) = c) := by unfold b1; simp
      have f4 : b1 (false = false ∧ y * w + x = c) = b1 (y * w + x = c) := by unfold b1; simp
      simp only [Bool.false_eq_true, if_false] at hE
      rw [f1, f3]
      rw [f2, f4] at ih
      omega
    · have f1 : b1 (true = false ∧ y * w + (x + 1) = c) = 0 := b1_f (fun q => by cases q.1)
      have f2 : b1 (true = false ∧ y * w + x = c) = 0 := b1_f (fun q => by cases q.1)
      have f3 : b1 (true = true ∧ y * w + (x + 1) = c) = b1 (y * w + (x + 1) = c) := by unfold b1; simp
      have f4 : b1 (true = true ∧ y * w + x = c) = b1 (y * w + x = c) := by unfold b1; simp
      simp only [if_true] at hE
      rw [f1, f3]
      rw [f2, f4] at ih
      omega
/-- the bits of P below n -/
def pn (P : Int64) : Nat → Int64
  | 0 => 0
  | n + 1 => if tb P n = true then pn P n ^^^ lshl 1 (nI n) else pn P n
theorem tb_pn (P : Int64) : ∀ {n : Nat}, n ≤ 64 → ∀ i, i < 64 → tb (pn P n) i = (tb P i && decide (i < n))
  | 0, _, i, _ => by rw [show pn P 0 = 0 from rfl, tb_0]; simp
  | n + 1, hn, i, hi => by
    have ih := tb_pn P (n := n) (by omega) i hi
    unfold pn
    by_cases h : tb P n = true
    · rw [if_pos h, tb_xor, ih, tb_bit (by omega)]
      by_cases e : i = n
      · subst e; simp [h]
      · have : decide (i < n + 1) = decide (i < n) := decide_eq_decide.mpr (by omega)
        rw [this]
        simp [e]
    · rw [if_neg h, ih]
      by_cases e : i = n
      · subst e; simp [h]
      · have : decide (i < n + 1) = decide (i < n) := decide_eq_decide.mpr (by omega)
        rw [this]
theorem pn_64 (P : Int64) : pn P 64 = P := tb_ext (fun i hi => by rw [tb_pn P (Nat.le_refl _) i hi]; simp [hi])
theorem flip_n {σ : St} {q w N : Nat} {U D : Nat → Bool} {K : Nat → Nat} {t : Bool} {P : Int64} (hw : 1 ≤ w) (hw8 : w ≤ 8) (hN : N ≤ 64) (hL : LC σ q N U K) (hP : ∀ c, c < 64 → tb P c = true → atP w U D N t K c) :
    ∀ n, n ≤ 64 → ∃ M, UpN w U D N t (cnt (tb P) n) K M ∧ LC (flipS σ q w (pn P n)) q N U M ∧ (∀ c, n ≤ c → c < 64 → tb P c = true → atP w U D N t M c) ∧ (t = false → ∀ x y, Rg w M x y = Rg w K x y + b1 (y * w + x < n ∧ tb P (y * w + x) = true))
  | 0, _ => by
    refine ⟨K, rfl, ?_, fun c _ hc h => hP c hc h, fun _ x y => by rw [b1_f (by omega)]; rfl⟩
    have : flipS σ q w 0 = σ := by
      have z : ∀ k, k < 64 → lushr (0 : Int64) (nI k) = 0 := fun k hk => tb_ext (fun i _ => by rw [tb_lushr _ hk, tb_0, tb_0])
      unfold flipS
      rw [show (1 : Int32) = nI 1 from rfl, z 1 (by decide), z w (by omega)]
      have x0 : ∀ a : Int64, a ^^^ (0 ^^^ 0) = a := fun a => tb_ext (fun i _ => by simp [tb_xor, tb_0])
      rw [x0, x0, x0, sl_same, sl_same, sl_same]
    rw [show pn P 0 = 0 from rfl, this]
    exact hL
  | n + 1, hn => by
    obtain ⟨M, h1, h2, h3, h4⟩ := flip_n hw hw8 hN hL hP n (by omega)
    by_cases e : tb P n = true
    · have hat := h3 n (Nat.le_refl _) (by omega) e
      refine ⟨tu w t M n, ?_, ?_, fun c h5 h6 h7 => (tu_two hw hat (h3 c (by omega) h6 h7) (by omega)).1, fun ht x y => ?_⟩
      · have : cnt (tb P) (n + 1) = cnt (tb P) n + 1 := by
          show cnt (tb P) n + _ = _
          rw [e]
          rfl
        rw [this]
        exact UpN_snoc h1 hat
      · rw [show pn P (n + 1) = pn P n ^^^ lshl 1 (nI n) from if_pos e, ← flipS_flipS (by omega)]
        exact LC_flip hw hw8 hN h2 hat
      · have h5 := Rg_tu hw hat y x
        rw [h4 ht x y] at h5
        rw [b1_f (show ¬ (t = true ∧ y * w + x = n) by rw [ht]; intro q; cases q.1)] at h5
        by_cases q : y * w + x = n
        · have z1 : b1 (t = false ∧ y * w + x = n) = 1 := b1_t ⟨ht, q⟩
          have z2 : b1 (y * w + x < n ∧ tb P (y * w + x) = true) = 0 := b1_f (by omega)
          have z3 : b1 (y * w + x < n + 1 ∧ tb P (y * w + x) = true) = 1 := b1_t ⟨by omega, by rw [q]; exact e⟩
          omega
        · have z1 : b1 (t = false ∧ y * w + x = n) = 0 := b1_f (fun z => q z.2)
          have z2 : b1 (y * w + x < n ∧ tb P (y * w + x) = true) = b1 (y * w + x < n + 1 ∧ tb P (y * w + x) = true) := by
            by_cases q2 : y * w + x < n ∧ tb P (y * w + x) = true
            · rw [b1_t q2, b1_t ⟨by omega, q2.2⟩]
            · rw [b1_f q2, b1_f (fun z => q2 ⟨by omega, z.2⟩)]
          omega
    · refine ⟨M, ?_, ?_, fun c h5 h6 h7 => h3 c (by omega) h6 h7, fun ht x y => ?_⟩
      · have : cnt (tb P) (n + 1) = cnt (tb P) n := by
          have e' : tb P n = false := by
            cases z : tb P n with
            | false => rfl
            | true => exact absurd z e
          show cnt (tb P) n + _ = _
          rw [e']
          rfl
        rw [this]
        exact h1
      · rw [show pn P (n + 1) = pn P n from if_neg e]
        exact h2
      · rw [h4 ht x y]
        by_cases q2 : y * w + x < n ∧ tb P (y * w + x) = true
        · rw [b1_t q2, b1_t ⟨by omega, q2.2⟩]
        · rw [b1_f q2, b1_f (fun z => q2 ⟨by
            have : y * w + x ≠ n := fun r => e (by rw [← r]; exact z.2)
            omega, z.2⟩)]
theorem flip_all {σ : St} {q w N : Nat} {U D : Nat → Bool} {K : Nat → Nat} {t : Bool} {P : Int64} (hw : 1 ≤ w) (hw8 : w ≤ 8) (hN : N ≤ 64) (hL : LC σ q N U K) (hP : ∀ c, c < 64 → tb P c = true → atP w U D N t K c) :
    ∃ M, UpN w U D N t (pc P) K M ∧ LC (flipS σ q w P) q N U M ∧ (t = false → ∀ x y, Rg w M x y = Rg w K x y + b1 (tb P (y * w + x) = true)) := by
  obtain ⟨M, h1, h2, h3, h4⟩ := flip_n hw hw8 hN hL hP 64 (Nat.le_refl _)
  rw [pn_64] at h2
  refine ⟨M, h1, h2, fun ht x y => ?_⟩
  rw [h4 ht x y]
  by_cases q2 : y * w + x < 64 ∧ tb P (y * w + x) = true
  · rw [b1_t q2, b1_t q2.2]
  · have hn : ¬ tb P (y * w + x) = true := fun z => by
      rcases Nat.lt_or_ge (y * w + x) 64 with r | r
      · exact q2 ⟨r, z⟩
      · rw [tb_big r] at z
        cases z
    rw [b1_f q2, b1_f hn]
theorem pts_0 {σ : St} {w h q : Nat} {U D : Nat → Bool} {K : Nat → Nat} (g : CG σ w h U D) (g6 : CI6 σ w h U D) (hL : LC σ q (w * h) U K) (t : Bool) (h0 : ptsV σ q t = 0) : NoP w U D (w * h) t K := by
  intro c hc
  have har := area_le g.2.1 g.2.2.2.1
  have hlt : c < 64 := by have := (inn_of hc.1).1; omega
  have := (tb_pts g g6 hL t hlt).mpr hc
  rw [h0, tb_0] at this
  cases this
theorem cnt_pos {f : Nat → Bool} {i : Nat} : ∀ {n : Nat}, i < n → f i = true → 1 ≤ cnt f n
  | 0, h, _ => by omega
  | n + 1, h, hf => by
    show 1 ≤ cnt f n + _
    by_cases e : i = n
    · subst e; rw [hf]; exact Nat.le_add_left _ _
    · have := cnt_pos (n := n) (show i < n by omega) hf
      omega
theorem pc_pos {P : Int64} (h : P ≠ 0) : 1 ≤ pc P := by
  apply Classical.byContradiction
  intro q
  apply h
  rw [tb_eq0]
  intro i hi
  cases z : tb P i with
  | false => rfl
  | true => exact absurd (cnt_pos hi z) q
theorem CI6.keep {P : Nat → Prop} {σ τ : St} {w h : Nat} {U D : Nat → Bool} (h0 : CI6 σ w h U D) (he : eqx P σ τ) (h1 : ¬ P 1) : CI6 τ w h U D := fun c hc => by rw [(he 1 h1 6).2]; exact h0 c hc
theorem s_toEnd6 {q w h : Nat} (hq : q ≠ 1) {U D : Nat → Bool} (t : Bool) : ∀ (n j k : Nat) (K : Nat → Nat) (σ : St), mea w (w * h) t K < n → j + mea w (w * h) t K < 1000 → CG σ w h U D → CI6 σ w h U D → LC σ q (w * h) U K →
    ∃ σ' M m, f_X4_toEnd_6 n q (bI t) (nI k) (nI j) σ = some (nI (k + m), σ') ∧ UpN w U D (w * h) t m K M ∧ NoP w U D (w * h) t M ∧ LC σ' q (w * h) U M ∧ σ'.1 = σ.1 ∧ eqx (fun p => p = q) σ σ' := by
  intro n
  induction n with
  | zero => intro j k K σ h1; omega
  | succ n ih =>
    intro j k K σ h1 h2 g g6 hL
    have har := area_le g.2.1 g.2.2.2.1
    have h31 : ∃ σ' M m, f_X4_toEnd_31 (f_X4_toEnd_6 n) q (bI t) (nI k) (nI j) (ptsV σ q t) σ = some (nI (k + m), σ') ∧ UpN w U D (w * h) t m K M ∧ NoP w U D (w * h) t M ∧ LC σ' q (w * h) U M ∧ σ'.1 = σ.1 ∧ eqx (fun p => p = q) σ σ' := by
      unfold f_X4_toEnd_31
      by_cases h0 : ptsV σ q t = 0
      · rw [if_pos h0]
        exact ⟨σ, K, 0, rfl, rfl, pts_0 g g6 hL t h0, hL, rfl, eqx.rf⟩
      · rw [if_neg h0, bd_at (s_bitCount _ σ), g.2.2.2.2.1, bd_at (s_flip q w _ σ), nI_1, nI_add]
        obtain ⟨M1, u1, u2, -⟩ := flip_all g.1 g.2.1 har hL (fun c hc hb => (tb_pts g g6 hL t hc).mp hb)
        have hm := UpN_mea g.1 g.2.1 har u1
        have hp := pc_pos h0
        have hex := flipS_eqx σ q w (ptsV σ q t)
        obtain ⟨σ', M, m, e1, e2, e3, e4, e5, e6⟩ := ih (j + 1) (k + pc (ptsV σ q t)) M1 (flipS σ q w (ptsV σ q t)) (by omega) (by omega) (g.keep hex (fun z => hq z.symm)) (g6.keep hex (fun z => hq z.symm)) u2
        refine ⟨σ', M, pc (ptsV σ q t) + m, ?_, UpN_app u1 e2, e3, e4, e5, eqx.tr hex e6⟩
        rw [e1, Nat.add_assoc]
    rw [f_X4_toEnd_6, if_neg (show ¬ (1000 : Int32) ≤ nI j from nI_ge (a := j) (b := 1000) (by omega) (by decide))]
    cases t with
    | false => rw [if_pos bI_f, bd_at (s_highs q σ)]; exact h31
    | true => rw [if_neg bIt, bd_at (s_lows q σ)]; exact h31
theorem s_toEnd {q w h : Nat} (hq : q ≠ 1) {U D : Nat → Bool} (t : Bool) {K : Nat → Nat} {σ : St} (g : CG σ w h U D) (g6 : CI6 σ w h U D) (hL : LC σ q (w * h) U K) :
    ∃ σ' M m, f_X4_toEnd q (bI t) σ = some (nI m, σ') ∧ UpN w U D (w * h) t m K M ∧ NoP w U D (w * h) t M ∧ LC σ' q (w * h) U M ∧ σ'.1 = σ.1 ∧ eqx (fun p => p = q) σ σ' := by
  have har := area_le g.2.1 g.2.2.2.1
  have hm := mea_le (t := t) g.2.1 har K
  have h6 := s_toEnd6 hq (U := U) (D := D) t FU 0 0 K σ (by unfold FU; omega) (by omega) g g6 hL
  obtain ⟨σ', M, m, e1, e2⟩ := h6
  rw [Nat.zero_add] at e1
  exact ⟨σ', M, m, e1, e2⟩
