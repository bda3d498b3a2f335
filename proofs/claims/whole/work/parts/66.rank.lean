/-! ===== HALF 2: rank of the class ===== -/
def oY (o : Option Int) : Int32 := match o with
  | none => -2147483648
  | some z => iZ z
theorem oM_nr (a : Option Int) : oM a none = a := by cases a <;> rfl
/-- the WORTH as the class takes it -/
def wk (U : Nat → Bool) (wt : Nat → Nat → Int) (c k : Nat) : Int := if U c = true then wt c k else 0
theorem Bs_Tk {w : Nat} {U D : Nat → Bool} {wt : Nat → Nat → Int} (h3 : ∀ c, wt c 3 = 0) (r c m : Nat) : Bs w U D wt (r + 1) c m = om (fun k => oA (Tk w U D c m k) (Bs w U D wt r (c + 1)) (wk U wt c k)) 3 := by
  show oM (oM (oM (oM none (oA (Tr w U D c m 0) (Bs w U D wt r (c + 1)) (wt c 0))) (oA (Tr w U D c m 1) (Bs w U D wt r (c + 1)) (wt c 1))) (oA (Tr w U D c m 2) (Bs w U D wt r (c + 1)) (wt c 2))) (oA (Tr w U D c m 3) (Bs w U D wt r (c + 1)) (wt c 3)) = oM (oM (oM none (oA (Tk w U D c m 0) (Bs w U D wt r (c + 1)) (wk U wt c 0))) (oA (Tk w U D c m 1) (Bs w U D wt r (c + 1)) (wk U wt c 1))) (oA (Tk w U D c m 2) (Bs w U D wt r (c + 1)) (wk U wt c 2))
  cases hU : U c with
  | true =>
    have t : ∀ k, Tk w U D c m k = Tr w U D c m k := fun k => by unfold Tk; simp [hU]
    have u : ∀ k, wk U wt c k = wt c k := fun k => by unfold wk; simp [hU]
    rw [t 0, t 1, t 2, u 0, u 1, u 2, Tr_in3 hU, show oA none (Bs w U D wt r (c + 1)) (wt c 3) = none from rfl, oM_nr]
  | false =>
    have t0 : Tk w U D c m 0 = Tr w U D c m 3 := by unfold Tk; simp [hU]
    have t1 : Tk w U D c m 1 = none := by unfold Tk; simp [hU]
    have t2 : Tk w U D c m 2 = none := by unfold Tk; simp [hU]
    have u : wk U wt c 0 = 0 := by unfold wk; simp [hU]
    rw [t0, t1, t2, u, h3 c, Tr_out hU (k := 0) (by decide), Tr_out hU (k := 1) (by decide), Tr_out hU (k := 2) (by decide)]
    show _ = oM (oM (oM none (oA (Tr w U D c m 3) (Bs w U D wt r (c + 1)) 0)) none) none
    rw [oM_nr, oM_nr]
    rfl
theorem oY_max {a : Option Int} {b : Int} (ha : oB a 800000) (hb : -800000 ≤ b ∧ b ≤ 800000) : jmax (oY a) (iZ b) = oY (oM a (some b)) := by
  unfold jmax
  cases a with
  | none =>
    show (if (-2147483648 : Int32) < iZ b then iZ b else _) = iZ b
    have : (-2147483648 : Int32) < iZ b := by
      show iZ (-2147483648) < iZ b
      exact (Int32.ofInt_lt_iff_lt (by decide) (by decide) (by show (-2147483648 : Int) ≤ b; omega) (by show b ≤ (2147483647 : Int); omega)).mpr (by omega)
    rw [if_pos this]
  | some a =>
    have h1 := ha a rfl
    show (if iZ a < iZ b then iZ b else iZ a) = iZ (if b ≤ a then a else b)
    by_cases h : b ≤ a
    · rw [if_pos h, if_neg (fun z => by have := (iZ_lt (by omega) (by omega)).mp z; omega)]
    · rw [if_neg h, if_pos ((iZ_lt (by omega) (by omega)).mpr (by omega))]
/-- the WORTHS in the class's array q -/
def WtC (σ : St) (q w h : Nat) (wt : Nat → Nat → Int) : Prop := ∀ c, c < w * h → ∀ k, k < 3 → gi σ q (3 * c + k) = iZ (wt c k)
def RB (σ : St) (w h : Nat) (U D : Nat → Bool) (wt : Nat → Nat → Int) (c i : Nat) : Prop := (∀ j, c < j → j ≤ w * h → ∀ i', i' < (lev w U D j).length → Wr w U D (w * h - j) j ((lev w U D j).getD i' 0) ≠ 0 → gi σ 22 (fs w U D j + i') = oY (Bs w U D wt (w * h - j) j ((lev w U D j).getD i' 0))) ∧ ∀ i', i' < i → Wr w U D (w * h - c) c ((lev w U D c).getD i' 0) ≠ 0 → gi σ 22 (fs w U D c + i') = oY (Bs w U D wt (w * h - c) c ((lev w U D c).getD i' 0))
/-- one step's WORTH with what is best from there -/
theorem s_worthBy {σ : St} {q w h : Nat} {U D : Nat → Bool} {wt : Nat → Nat → Int} (hq : q = 15 ∨ q = 16) (g : CG σ w h U D) (s : SK σ w h U D) (hwt : ∀ c k, -99 ≤ wt c k ∧ wt c k ≤ 99) (hW : WtC σ q w h wt) {c i k a : Nat} (hc : c < w * h) (hi : i < (lev w U D c).length) (hk : k < 3) (ht : Tk w U D c ((lev w U D c).getD i 0) k = some a) (h0 : Wr w U D (w * h - (c + 1)) (c + 1) a ≠ 0) (hR : RB σ w h U D wt c 0) :
    ∃ z, oA (Tk w U D c ((lev w U D c).getD i 0) k) (Bs w U D wt (w * h - (c + 1)) (c + 1)) (wk U wt c k) = some z ∧ f_X3_worthBy q (nI c) (nI (fs w U D c + i)) (nI k) σ = some (iZ z, σ) := by
  have har := area_le g.2.1 g.2.2.2.1
  have hfs := fs_le (U := U) (D := D) g.1 g.2.1 (c + 1)
  have hfs2 := fs_le (U := U) (D := D) g.1 g.2.1 (c + 1 + 1)
  have hfe := fs_succ w U D c
  have hfe2 := fs_succ w U D (c + 1)
  have ha := lev_Tk hi hk ht
  have hix := ix_lt ha
  obtain ⟨b, hb⟩ : ∃ b, Bs w U D wt (w * h - (c + 1)) (c + 1) a = some b := by
    cases hb : Bs w U D wt (w * h - (c + 1)) (c + 1) a with
    | none => exact absurd (Bs_none.mp hb) h0
    | some b => exact ⟨b, rfl⟩
  refine ⟨b + wk U wt c k, ?_, ?_⟩
  · rw [ht]
    simp only [oA, hb]
  · have ei : nI (fs w U D c + i) * (3 : Int32) + nI k = nI (3 * (fs w U D c + i) + k) := by rw [show (3 : Int32) = nI 3 from rfl, nI_mul, nI_add, Nat.mul_comm]
    have h25 : ∀ v : Int, v = wk U wt c k → f_X3_worthBy_25 (nI (fs w U D c + i)) (nI k) (iZ v) σ = some (iZ (b + wk U wt c k), σ) := by
      intro v hv
      unfold f_X3_worthBy_25
      rw [ei, rdI_at _ _ (show 3 * (fs w U D c + i) + k < len 19 by show _ < 13650; omega) (by decide), s.2.2.1 c hc i hi k hk]
      rw [show nxp w U D (w * h) c ((lev w U D c).getD i 0) k = nI (fs w U D (c + 1) + ix a (lev w U D (c + 1))) by unfold nxp; rw [ht]; simp only [h0, if_false]]
      rw [rdI_at _ _ (show fs w U D (c + 1) + ix a (lev w U D (c + 1)) < len 22 by show _ < 4550; omega) (by decide), hR.1 (c + 1) (by omega) (by omega) _ hix (by rw [getD_ix ha]; exact h0), getD_ix ha, hb]
      show some (iZ v + iZ b, σ) = _
      rw [iZ_add, hv, Int.add_comm]
    unfold f_X3_worthBy
    rw [rd_bit _ (show c < 64 by omega), g.2.2.2.2.2.2.2.1 c (by omega)]
    cases hU : U c with
    | false =>
      rw [if_pos (by decide)]
      exact h25 0 (by unfold wk; rw [hU]; rfl)
    | true =>
      have e3 : nI c * (3 : Int32) + nI k = nI (3 * c + k) := by rw [show (3 : Int32) = nI 3 from rfl, nI_mul, nI_add, Nat.mul_comm]
      rw [if_neg (by decide), e3]
      have hwk : wt c k = wk U wt c k := by unfold wk; rw [hU]; rfl
      rcases hq with e | e
      · subst e
        rw [rdI_at _ _ (show 3 * c + k < len 15 by show _ < 192; omega) (by decide), hW c hc k hk]
        exact h25 _ hwk
      · subst e
        rw [rdI_at _ _ (show 3 * c + k < len 16 by show _ < 192; omega) (by decide), hW c hc k hk]
        exact h25 _ hwk
theorem s_rank70 {q w h : Nat} {U D : Nat → Bool} {wt : Nat → Nat → Int} (hq : q = 15 ∨ q = 16) (h3 : ∀ c, wt c 3 = 0) (hwt : ∀ c k, -99 ≤ wt c k ∧ wt c k ≤ 99) {σ : St} (g : CG σ w h U D) (s : SK σ w h U D) (hW : WtC σ q w h wt) {c i : Nat} (hc : c < w * h) (hi : i < (lev w U D c).length) (hR : RB σ w h U D wt c 0) (k50 : Nat → Int32 → Int32 → St → Option (Int32 × St)) :
    ∀ (n k : Nat), k ≤ 3 → 3 - k < n → f_X3_rank_70 k50 n q (nI c) (nI (fs w U D c + i)) (oY (om (fun k => oA (Tk w U D c ((lev w U D c).getD i 0) k) (Bs w U D wt (w * h - (c + 1)) (c + 1)) (wk U wt c k)) k)) (nI k) σ = k50 q (nI c) (nI (fs w U D c + (i + 1))) (si σ 22 (fs w U D c + i) (oY (Bs w U D wt (w * h - c) c ((lev w U D c).getD i 0)))) := by
  have har := area_le g.2.1 g.2.2.2.1
  have hfs := fs_le (U := U) (D := D) g.1 g.2.1 (c + 1)
  have hfe := fs_succ w U D c
  have hN : w * h - c = (w * h - (c + 1)) + 1 := by omega
  have hwk : ∀ k, -99 ≤ wk U wt c k ∧ wk U wt c k ≤ 99 := fun k => by
    unfold wk
    split
    · exact hwt c k
    · omega
  have hbA : ∀ k, oB (oA (Tk w U D c ((lev w U D c).getD i 0) k) (Bs w U D wt (w * h - (c + 1)) (c + 1)) (wk U wt c k)) 800000 := fun k => oB_le (oA_B (fun m => B_800 g.2.1 g.2.2.2.1 hwt (by omega) (c + 1) m) (hwk k)) (by decide)
  intro n
  induction n with
  | zero => intro k h1 h2; omega
  | succ n ih =>
    intro k h1 h2
    rw [f_X3_rank_70]
    by_cases hk : 3 ≤ k
    · have e : k = 3 := by omega
      subst e
      rw [if_pos (show (3 : Int32) ≤ nI 3 by decide), wrI_at _ _ _ (show fs w U D c + i < len 22 by show _ < 4550; omega) (by decide), nI_1, ← Bs_Tk h3, hN]
      rfl
    · have hk3 : k < 3 := by omega
      have ei : nI (fs w U D c + i) * (3 : Int32) + nI k = nI (3 * (fs w U D c + i) + k) := by rw [show (3 : Int32) = nI 3 from rfl, nI_mul, nI_add, Nat.mul_comm]
      rw [if_neg (show ¬ (3 : Int32) ≤ nI k from nI_ge (a := k) (b := 3) (by omega) (by decide)), ei, rdI_at _ _ (show 3 * (fs w U D c + i) + k < len 19 by show _ < 13650; omega) (by decide), s.2.2.1 c hc i hi k hk3]
      unfold f_X3_rank_109
      have key := ih (k + 1) (by omega) (by omega)
      have hs : om (fun k => oA (Tk w U D c ((lev w U D c).getD i 0) k) (Bs w U D wt (w * h - (c + 1)) (c + 1)) (wk U wt c k)) (k + 1) = oM (om (fun k => oA (Tk w U D c ((lev w U D c).getD i 0) k) (Bs w U D wt (w * h - (c + 1)) (c + 1)) (wk U wt c k)) k) (oA (Tk w U D c ((lev w U D c).getD i 0) k) (Bs w U D wt (w * h - (c + 1)) (c + 1)) (wk U wt c k)) := rfl
      rw [hs] at key
      have none' : oA (Tk w U D c ((lev w U D c).getD i 0) k) (Bs w U D wt (w * h - (c + 1)) (c + 1)) (wk U wt c k) = none → f_X3_rank_70 k50 n q (nI c) (nI (fs w U D c + i)) (oY (om (fun k => oA (Tk w U D c ((lev w U D c).getD i 0) k) (Bs w U D wt (w * h - (c + 1)) (c + 1)) (wk U wt c k)) k)) (nI k + 1) σ = k50 q (nI c) (nI (fs w U D c + (i + 1))) (si σ 22 (fs w U D c + i) (oY (Bs w U D wt (w * h - c) c ((lev w U D c).getD i 0)))) := by
        intro h0
        rw [h0, oM_nr] at key
        rw [nI_1]
        exact key
      cases ht : Tk w U D c ((lev w U D c).getD i 0) k with
      | none =>
        rw [show nxp w U D (w * h) c ((lev w U D c).getD i 0) k = -1 by unfold nxp; rw [ht], if_pos (by decide)]
        exact none' (by rw [ht]; rfl)
      | some a =>
        have ha := lev_Tk hi hk3 ht
        have hix := ix_lt ha
        have hfs2 := fs_le (U := U) (D := D) g.1 g.2.1 (c + 1 + 1)
        have hfe2 := fs_succ w U D (c + 1)
        by_cases h0 : Wr w U D (w * h - (c + 1)) (c + 1) a = 0
        · rw [show nxp w U D (w * h) c ((lev w U D c).getD i 0) k = -1 by unfold nxp; rw [ht]; simp only [h0, if_true], if_pos (by decide)]
          exact none' (by rw [ht]; exact oA_none.mpr (fun m hm => by cases hm; exact Bs_none.mpr h0))
        · obtain ⟨z, hz, hw⟩ := s_worthBy hq g s hwt hW hc hi hk3 ht h0 hR
          rw [show nxp w U D (w * h) c ((lev w U D c).getD i 0) k = nI (fs w U D (c + 1) + ix a (lev w U D (c + 1))) by unfold nxp; rw [ht]; simp only [h0, if_false], if_neg (nI_pos (by omega)), bd_at hw, oY_max (om_B (fun k _ => hbA k)) (hbA k z hz), nI_1, ← hz]
          exact key
theorem s_rank50 {q w h : Nat} {U D : Nat → Bool} {wt : Nat → Nat → Int} (hq : q = 15 ∨ q = 16) (h3 : ∀ c, wt c 3 = 0) (hwt : ∀ c k, -99 ≤ wt c k ∧ wt c k ≤ 99) {c : Nat} (hc : c < w * h) (k38 : Nat → Int32 → St → Option (Int32 × St)) :
    ∀ (n i : Nat) (σ : St), i ≤ (lev w U D c).length → (lev w U D c).length - i < n → CG σ w h U D → SK σ w h U D → WtC σ q w h wt → RB σ w h U D wt c i →
    ∃ σ', f_X3_rank_50 k38 n q (nI c) (nI (fs w U D c + i)) σ = k38 q (nI c + (-1)) σ' ∧ RB σ' w h U D wt c (lev w U D c).length ∧ eqx (fun p => p = 22) σ σ' := by
  intro n
  induction n with
  | zero => intro i σ h1 h2; omega
  | succ n ih =>
    intro i σ h1 h2 g s hW hR
    have har := area_le g.2.1 g.2.2.2.1
    have hfs := fs_le (U := U) (D := D) g.1 g.2.1 (c + 1)
    have hfe := fs_succ w U D c
    rw [f_X3_rank_50, show (1 : Int32) = nI 1 from rfl, nI_add, rdI_at _ _ (show c + 1 < len 17 by show _ < 66; omega) (by decide), s.1 (c + 1) (by omega)]
    by_cases hi : (lev w U D c).length ≤ i
    · have e : i = (lev w U D c).length := by omega
      rw [if_pos (nI_le (by omega) (by omega))]
      rw [e] at hR
      exact ⟨σ, rfl, hR, eqx.rf⟩
    · have hi' : i < (lev w U D c).length := by omega
      rw [if_neg (nI_ge (by omega) (by omega))]
      have h70 := s_rank70 hq h3 hwt g s hW hc hi' ⟨hR.1, fun i' hi' => by omega⟩ (f_X3_rank_50 k38 n) FU 0 (by decide) (by decide)
      rw [show oY (om (fun k => oA (Tk w U D c ((lev w U D c).getD i 0) k) (Bs w U D wt (w * h - (c + 1)) (c + 1)) (wk U wt c k)) 0) = -2147483648 from rfl, show nI 0 = 0 from rfl] at h70
      rw [h70]
      have hex : eqx (fun p => p = 22) σ (si σ 22 (fs w U D c + i) (oY (Bs w U D wt (w * h - c) c ((lev w U D c).getD i 0)))) := eqx.si eqx.rf rfl
      obtain ⟨σ', e1, e2, e3⟩ := ih (i + 1) (si σ 22 (fs w U D c + i) (oY (Bs w U D wt (w * h - c) c ((lev w U D c).getD i 0)))) (by omega) (by omega) (g.keep hex (by decide)) (s.keep hex (by decide)) (fun c' hc' k hk => by rw [gi_si, if_neg (by omega)]; exact hW c' hc' k hk) ⟨fun j hj1 hj2 i' hi2 hn => by
          have := fs_mono w U D (show c + 1 ≤ j by omega)
          rw [gi_si, if_neg (by omega)]
          exact hR.1 j hj1 hj2 i' hi2 hn, fun i' hi2 hn => by
          rw [gi_si]
          by_cases he : i' = i
          · subst he; rw [if_pos ⟨rfl, rfl⟩]
          · rw [if_neg (by omega)]; exact hR.2 i' (by omega) hn⟩
      exact ⟨σ', e1, e2, eqx.tr hex e3⟩
/-- what is best from every node from which there is a way to the end -/
def RK (σ : St) (w h : Nat) (U D : Nat → Bool) (wt : Nat → Nat → Int) : Prop := ∀ j, j ≤ w * h → ∀ i', i' < (lev w U D j).length → Wr w U D (w * h - j) j ((lev w U D j).getD i' 0) ≠ 0 → gi σ 22 (fs w U D j + i') = oY (Bs w U D wt (w * h - j) j ((lev w U D j).getD i' 0))
theorem s_rank38 {q w h : Nat} {U D : Nat → Bool} {wt : Nat → Nat → Int} (hq : q = 15 ∨ q = 16) (h3 : ∀ c, wt c 3 = 0) (hwt : ∀ c k, -99 ≤ wt c k ∧ wt c k ≤ 99) :
    ∀ (j n : Nat) (σ : St), j ≤ w * h → j < n → CG σ w h U D → SK σ w h U D → WtC σ q w h wt → (∀ j', j ≤ j' → j' ≤ w * h → ∀ i', i' < (lev w U D j').length → Wr w U D (w * h - j') j' ((lev w U D j').getD i' 0) ≠ 0 → gi σ 22 (fs w U D j' + i') = oY (Bs w U D wt (w * h - j') j' ((lev w U D j').getD i' 0))) →
    ∃ σ', f_X3_rank_38 n q (nI j + (-1)) σ = some (gi σ' 22 0, σ') ∧ RK σ' w h U D wt ∧ eqx (fun p => p = 22) σ σ' := by
  intro j
  induction j with
  | zero =>
    intro n σ h1 h2 g s hW hR
    obtain ⟨n, rfl⟩ : ∃ n', n = n' + 1 := ⟨n - 1, by omega⟩
    refine ⟨σ, ?_, fun j hj i' hi' hn => hR j (Nat.zero_le _) hj i' hi' hn, eqx.rf⟩
    rw [f_X3_rank_38, if_pos (show nI 0 + (-1) < 0 by decide), show (0 : Int32) = nI 0 from rfl, rdI_at _ _ (show 0 < len 22 by decide) (by decide)]
  | succ c ih =>
    intro n σ h1 h2 g s hW hR
    obtain ⟨n, rfl⟩ : ∃ n', n = n' + 1 := ⟨n - 1, by omega⟩
    have har := area_le g.2.1 g.2.2.2.1
    have hll := lev_len (U := U) (D := D) g.1 g.2.1 c
    rw [f_X3_rank_38, pk_m1, if_neg (nI_pos (by omega)), rdI_at _ _ (show c < len 17 by show _ < 66; omega) (by decide), s.1 c (by omega)]
    obtain ⟨τ, e1, e2, e3⟩ := s_rank50 hq h3 hwt (by omega : c < w * h) (f_X3_rank_38 n) FU 0 σ (Nat.zero_le _) (by unfold FU; omega) g s hW ⟨fun j hj1 hj2 => hR j (by omega) hj2, fun i' hi' => by omega⟩
    rw [Nat.add_zero] at e1
    rw [e1]
    have hW' : WtC τ q w h wt := fun c' hc' k hk => by
      rw [(e3 q (by rcases hq with e | e <;> subst e <;> decide) _).1]
      exact hW c' hc' k hk
    obtain ⟨σ', f1, f2, f3⟩ := ih n τ (by omega) (by omega) (g.keep e3 (by decide)) (s.keep e3 (by decide)) hW' (fun j' hj1 hj2 i' hi' hn => by
      by_cases he : j' = c
      · subst he; exact e2.2 i' hi' hn
      · exact e2.1 j' (by omega) hj2 i' hi' hn)
    exact ⟨σ', f1, f2, eqx.tr e3 f3⟩
theorem s_rank10 {q w h : Nat} {U D : Nat → Bool} {wt : Nat → Nat → Int} (hq : q = 15 ∨ q = 16) (h3 : ∀ c, wt c 3 = 0) (hwt : ∀ c k, -99 ≤ wt c k ∧ wt c k ≤ 99) :
    ∀ (n t : Nat) (σ : St), fs w U D (w * h) ≤ t → t ≤ fs w U D (w * h + 1) → fs w U D (w * h + 1) - t < n → CG σ w h U D → SK σ w h U D → WtC σ q w h wt → (∀ t', fs w U D (w * h) ≤ t' → t' < t → gi σ 22 t' = 0) →
    ∃ σ', f_X3_rank_10 n q (nI t) σ = some (gi σ' 22 0, σ') ∧ RK σ' w h U D wt ∧ eqx (fun p => p = 22) σ σ' := by
  intro n
  induction n with
  | zero => intro t σ h1 h2 h3; omega
  | succ n ih =>
    intro t σ h1 h2 h2' g s hW hR
    have har := area_le g.2.1 g.2.2.2.1
    have hfs := fs_le (U := U) (D := D) g.1 g.2.1 (w * h + 1)
    have hfe := fs_succ w U D (w * h)
    rw [f_X3_rank_10, s.2.2.2.2.2]
    by_cases ht : fs w U D (w * h + 1) ≤ t
    · rw [if_pos (nI_le ht (by omega)), g.2.2.2.2.2.2.1, show nI (w * h) - 1 = nI (w * h) + (-1) from Int32.sub_eq_add_neg _ _]
      exact s_rank38 hq h3 hwt (w * h) FU σ (Nat.le_refl _) (by unfold FU; omega) g s hW (fun j' hj1 hj2 i' hi' hn => by
        have e : j' = w * h := by omega
        subst e
        rw [hR _ (by omega) (by omega)]
        rw [Nat.sub_self, Wr_zero] at hn
        rw [Nat.sub_self]
        show (0 : Int32) = oY (if (lev w U D (w * h)).getD i' 0 = 0 then some 0 else none)
        by_cases h0 : (lev w U D (w * h)).getD i' 0 = 0
        · rw [if_pos h0]; rfl
        · rw [if_neg h0] at hn; exact absurd rfl hn)
    · rw [if_neg (nI_ge (by omega) (by omega)), wrI_at _ _ _ (show t < len 22 by show _ < 4550; omega) (by decide), nI_1]
      have hex : eqx (fun p => p = 22) σ (si σ 22 t 0) := eqx.si eqx.rf rfl
      obtain ⟨σ', e1, e2, e3⟩ := ih (t + 1) (si σ 22 t 0) (by omega) (by omega) (by omega) (g.keep hex (by decide)) (s.keep hex (by decide)) (fun c' hc' k hk => by rw [gi_si, if_neg (by omega)]; exact hW c' hc' k hk) (fun t' h4 h5 => by
        rw [gi_si]
        by_cases he : t' = t
        · subst he; rw [if_pos ⟨rfl, rfl⟩]
        · rw [if_neg (by omega)]; exact hR t' h4 (by omega))
      exact ⟨σ', e1, e2, eqx.tr hex e3⟩
theorem s_rank {q w h : Nat} {U D : Nat → Bool} {wt : Nat → Nat → Int} (hq : q = 15 ∨ q = 16) (h3 : ∀ c, wt c 3 = 0) (hwt : ∀ c k, -99 ≤ wt c k ∧ wt c k ≤ 99) {σ : St} (g : CG σ w h U D) (s : SK σ w h U D) (hW : WtC σ q w h wt) :
    ∃ σ', f_X3_rank q σ = some (gi σ' 22 0, σ') ∧ RK σ' w h U D wt ∧ eqx (fun p => p = 22) σ σ' := by
  have har := area_le g.2.1 g.2.2.2.1
  have hfs := fs_le (U := U) (D := D) g.1 g.2.1 (w * h + 1)
  unfold f_X3_rank
  rw [g.2.2.2.2.2.2.1, rdI_at _ _ (show w * h < len 17 by show _ < 66; omega) (by decide), s.1 (w * h) (by omega)]
  exact s_rank10 hq h3 hwt FU (fs w U D (w * h)) σ (Nat.le_refl _) (fs_mono w U D (by omega)) (by unfold FU; omega) g s hW (fun t' h1 h2 => by omega)
