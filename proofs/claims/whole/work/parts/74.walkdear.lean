/-! ===== HALF 2: walkDearest of the class ===== -/
def gB (w : Nat) (U D : Nat → Bool) (wt : Nat → Nat → Int) (N c m k : Nat) : Option Int := oA (Tk w U D c m k) (Bs w U D wt (N - (c + 1)) (c + 1)) (wk U wt c k)
/-- the class's KINDS and the reference's -/
theorem gB_kc {w : Nat} {U D : Nat → Bool} {wt : Nat → Nat → Int} (h3 : ∀ c, wt c 3 = 0) {N c m K : Nat} {z : Int} (hK : K < 4) (h1 : fB w U D wt N c m K = some z) (h2 : ∀ j, j < K → fB w U D wt N c m j ≠ some z) : gB w U D wt N c m (kc U c K) = some z ∧ ∀ j, j < kc U c K → gB w U D wt N c m j ≠ some z := by
  unfold kc
  cases hU : U c with
  | true =>
    have e : ∀ j, gB w U D wt N c m j = fB w U D wt N c m j := fun j => by unfold gB fB Tk wk; rw [if_pos hU, if_pos hU]
    rw [if_pos rfl, e]
    exact ⟨h1, fun j hj => by rw [e]; exact h2 j hj⟩
  | false =>
    have e3 : K = 3 := by
      by_cases q : K = 3
      · exact q
      · unfold fB at h1
        rw [Tr_out hU q] at h1
        cases h1
    subst e3
    rw [if_neg (by decide)]
    refine ⟨?_, fun j hj => by omega⟩
    unfold fB at h1
    rw [h3 c] at h1
    unfold gB Tk wk
    rw [if_neg (by rw [hU]; decide), if_pos rfl, if_neg (by rw [hU]; decide)]
    exact h1
theorem RK_RB {σ : St} {w h : Nat} {U D : Nat → Bool} {wt : Nat → Nat → Int} (hR : RK σ w h U D wt) (c : Nat) : RB σ w h U D wt c 0 := ⟨fun j _ hj2 i' hi' hn => hR j hj2 i' hi' hn, fun i' hi' => by omega⟩
theorem s_isBestC {σ : St} {q w h : Nat} {U D : Nat → Bool} {wt : Nat → Nat → Int} (hq : q = 15 ∨ q = 16) (g : CG σ w h U D) (s : SK σ w h U D) (hwt : ∀ c k, -99 ≤ wt c k ∧ wt c k ≤ 99) (hW : WtC σ q w h wt) (hR : RK σ w h U D wt) {c m k : Nat} (hc : c < w * h) (hm : m ∈ lev w U D c) (hk : k < 3) {z : Int} (hz : Bs w U D wt (w * h - c) c m = some z) :
    f_X3_isBest q (nI c) (nI (nd w U D c m)) (nI k) σ = some (bI (decide (gB w U D wt (w * h) c m k = some z)), σ) := by
  have har := area_le g.2.1 g.2.2.2.1
  have hn := nd_lt g.1 g.2.1 hm
  have hbz := B_800 g.2.1 g.2.2.2.1 (U := U) (D := D) hwt (show w * h - c ≤ w * h by omega) c m z hz
  unfold f_X3_isBest f_X3_isBest_40 f_X3_isBest_41
  rw [rd_next g s hc hm hk]
  cases ht : Tk w U D c m k with
  | none =>
    rw [show nxp w U D (w * h) c m k = -1 by unfold nxp; rw [ht], if_pos (by decide), gz_0, decide_eq_false (by unfold gB; rw [ht]; intro q; cases q), bI_f]
  | some a =>
    by_cases h0 : Wr w U D (w * h - (c + 1)) (c + 1) a = 0
    · have hb : Bs w U D wt (w * h - (c + 1)) (c + 1) a = none := Bs_none.mpr h0
      rw [show nxp w U D (w * h) c m k = -1 by unfold nxp; rw [ht]; simp only [h0, if_true], if_pos (by decide), gz_0, decide_eq_false (by unfold gB; rw [ht]; simp only [oA, hb]; intro q; cases q), bI_f]
    · have ha : a ∈ lev w U D (c + 1) := lev_mem.mpr ⟨m, hm, k, hk, ht⟩
      have hna := nd_lt g.1 g.2.1 ha
      have hgd := getD_ix hm
      obtain ⟨y, hy, hwb⟩ := s_worthBy hq g s hwt hW hc (ix_lt hm) hk (by rw [hgd]; exact ht) h0 (RK_RB hR c)
      rw [hgd] at hy
      have hwb' : f_X3_worthBy q (nI c) (nI (nd w U D c m)) (nI k) σ = some (iZ y, σ) := hwb
      have hr := hR c (by omega) _ (ix_lt hm) (by rw [hgd]; intro q; rw [Bs_none.mpr q] at hz; cases hz)
      rw [hgd, hz] at hr
      have hr' : gi σ 22 (nd w U D c m) = iZ z := hr
      have hy' : gB w U D wt (w * h) c m k = some y := hy
      have hyb : -20000 ≤ y ∧ y ≤ 20000 := by
        have hwk : -99 ≤ wk U wt c k ∧ wk U wt c k ≤ 99 := by
          unfold wk
          split
          · exact hwt c k
          · omega
        have := oA_B (o := Tk w U D c m k) (fun m => B_800 g.2.1 g.2.2.2.1 (U := U) (D := D) hwt (show w * h - (c + 1) ≤ w * h by omega) (c + 1) m) hwk y hy
        omega
      rw [nxp_some ht h0, if_neg (nI_pos (by omega)), bd_at hwb', rdI_at _ _ (show nd w U D c m < len 22 by show _ < 4550; omega) (by decide), hr']
      by_cases e : y = z
      · rw [if_pos (by rw [e]), gz_1, decide_eq_true (by rw [hy', e]), bI_t]
      · rw [if_neg (fun x => e ((iZ_eq (by omega) (by omega)).mp x)), gz_0, decide_eq_false (by rw [hy']; intro x; exact e (Option.some.inj x)), bI_f]
theorem s_wd32 {σ : St} {q r w h : Nat} (hr : 5 ≤ r ∧ r ≤ 13) {U D : Nat → Bool} {wt : Nat → Nat → Int} (hq : q = 15 ∨ q = 16) (h3 : ∀ c, wt c 3 = 0) (g : CG σ w h U D) (s : SK σ w h U D) (hwt : ∀ c k, -99 ≤ wt c k ∧ wt c k ≤ 99) (hW : WtC σ q w h wt) (hR : RK σ w h U D wt) {c : Nat} (hc : c < w * h) {z0 : Int} (h0 : Bs w U D wt (w * h) 0 0 = some z0) (k15 : Nat → Nat → Int32 → Int32 → St → Option (Unit × St)) :
    ∀ (n k : Nat), k ≤ kc U c (DK w U D wt (w * h) c) → kc U c (DK w U D wt (w * h) c) - k < n → f_X3_walkDearest_32 k15 n q r (nI (nd w U D c (DW w U D wt (w * h) c))) (nI c) (nI k) σ = k15 q r (nI (nd w U D (c + 1) (DW w U D wt (w * h) (c + 1)))) (nI (c + 1)) (stp σ r U c (kc U c (DK w U D wt (w * h) c))) := by
  have har := area_le g.2.1 g.2.2.2.1
  obtain ⟨z, hz⟩ := DW_ok h0 (show c ≤ w * h by omega)
  obtain ⟨s1, s2, s3, s4, y, hy⟩ := DW_step hc hz
  have hlv := (DW_lt g.1 h0 (show c ≤ w * h by omega)).2
  obtain ⟨t1, t2⟩ := Tk_kc s1 s2
  obtain ⟨u1, u2⟩ := gB_kc h3 s1 s3 s4
  have hst := s_step hr g s hc hlv t2 t1 (fun q => by rw [Bs_none.mpr q] at hy; cases hy)
  generalize kc U c (DK w U D wt (w * h) c) = K at *
  intro n
  induction n with
  | zero => intro k h1 h2; omega
  | succ n ih =>
    intro k h1 h2
    have take : k = K → f_X3_walkDearest_59 k15 q r (nI (nd w U D c (DW w U D wt (w * h) c))) (nI c) (nI k) σ = k15 q r (nI (nd w U D (c + 1) (DW w U D wt (w * h) (c + 1)))) (nI (c + 1)) (stp σ r U c K) := by
      intro e
      unfold f_X3_walkDearest_59
      rw [e, bd_at hst, nI_1]
    rw [f_X3_walkDearest_32]
    by_cases hk2 : 2 ≤ k
    · rw [if_pos (show (2 : Int32) ≤ nI k from nI_le (a := 2) (b := k) (by omega) (by omega))]
      exact take (by omega)
    · rw [if_neg (show ¬ (2 : Int32) ≤ nI k from nI_ge (a := k) (b := 2) (by omega) (by decide)), bd_at (s_isBestC hq g s hwt hW hR hc hlv (by omega) hz)]
      by_cases e : k = K
      · rw [if_neg (by rw [e, decide_eq_true u1]; decide)]
        exact take e
      · rw [if_pos (by rw [decide_eq_false (u2 k (by omega))]; rfl), nI_1]
        exact ih (k + 1) (by omega) (by omega)
theorem s_wd15 {q r w h : Nat} (hr : 5 ≤ r ∧ r ≤ 13) {U D : Nat → Bool} {wt : Nat → Nat → Int} (hq : q = 15 ∨ q = 16) (h3 : ∀ c, wt c 3 = 0) (hwt : ∀ c k, -99 ≤ wt c k ∧ wt c k ≤ 99) {z0 : Int} (h0 : Bs w U D wt (w * h) 0 0 = some z0) :
    ∀ (n c : Nat) (σ : St), c ≤ w * h → w * h - c < n → CG σ w h U D → SK σ w h U D → WtC σ q w h wt → RK σ w h U D wt → LC σ r c U (DK w U D wt (w * h)) →
    ∃ σ', f_X3_walkDearest_15 n q r (nI (nd w U D c (DW w U D wt (w * h) c))) (nI c) σ = some ((), σ') ∧ LC σ' r (w * h) U (DK w U D wt (w * h)) ∧ σ'.1 = σ.1 ∧ eqx (fun p => p = r) σ σ' := by
  intro n
  induction n with
  | zero => intro c σ h1 h2; omega
  | succ n ih =>
    intro c σ h1 h2 g s hW hR hL
    have har := area_le g.2.1 g.2.2.2.1
    rw [f_X3_walkDearest_15, g.2.2.2.2.2.2.1]
    by_cases hc : w * h ≤ c
    · have e : c = w * h := by omega
      rw [if_pos (nI_le hc (by omega))]
      rw [e] at hL
      exact ⟨σ, rfl, hL, rfl, eqx.rf⟩
    · have hc' : c < w * h := by omega
      have hlv := (DW_lt g.1 h0 h1).2
      have hn := nd_lt g.1 g.2.1 hlv
      rw [if_neg (nI_ge hc' (by omega)), if_neg (nI_pos (by omega))]
      obtain ⟨z, hz⟩ := DW_ok h0 (show c ≤ w * h by omega)
      obtain ⟨s1, s2, s3, s4, -⟩ := DW_step hc' hz
      obtain ⟨t1, t2⟩ := Tk_kc s1 s2
      have h32 := s_wd32 hr hq h3 g s hwt hW hR hc' h0 (f_X3_walkDearest_15 n) FU 0 (Nat.zero_le _) (by unfold FU; omega)
      rw [show nI 0 = 0 from rfl] at h32
      rw [h32]
      have hex := stp_eqx σ r U c (kc U c (DK w U D wt (w * h) c))
      obtain ⟨σ', e1, e2, e3, e4⟩ := ih (c + 1) (stp σ r U c (kc U c (DK w U D wt (w * h) c))) (by omega) (by omega) (g.keep hex (by show ¬ 1 = r; omega)) (s.keep hex (by refine ⟨?_, ?_, ?_, ?_, ?_, ?_⟩ <;> (show ¬ _ = r; omega))) (fun c' hc2 k hk => by rw [(hex q (by show ¬ q = r; omega) _).1]; exact hW c' hc2 k hk) (fun j hj i' hi' hn => by rw [(hex 22 (by show ¬ 22 = r; omega) _).1]; exact hR j hj i' hi' hn) (LC_stp (w := w) (h := h) (D := D) (by omega) hL)
      exact ⟨σ', e1, e2, e3.trans (stp_1 _ _ _ _ _), eqx.tr hex e4⟩
theorem s_walkDearest {q r w h : Nat} (hr : 5 ≤ r ∧ r ≤ 13) {U D : Nat → Bool} {wt : Nat → Nat → Int} (hq : q = 15 ∨ q = 16) (h3 : ∀ c, wt c 3 = 0) (hwt : ∀ c k, -99 ≤ wt c k ∧ wt c k ≤ 99) {z0 : Int} (h0 : Bs w U D wt (w * h) 0 0 = some z0) {σ : St} (g : CG σ w h U D) (s : SK σ w h U D) (hW : WtC σ q w h wt) (hR : RK σ w h U D wt) :
    ∃ σ', f_X3_walkDearest q r σ = some ((), σ') ∧ gi σ' r 0 = 1 ∧ LC σ' r (w * h) U (DK w U D wt (w * h)) ∧ eqx (fun p => p = r) σ σ' := by
  have har := area_le g.2.1 g.2.2.2.1
  unfold f_X3_walkDearest
  rw [bd_at (s_clr r σ), fI_at]
  have hex : eqx (fun p => p = r) σ (si (clrS σ r) r 0 1) := eqx.si (eqx.sl (eqx.sl (eqx.sl (eqx.si eqx.rf rfl) rfl) rfl) rfl) rfl
  obtain ⟨σ', e1, e2, e3, e4⟩ := s_wd15 hr hq h3 hwt h0 FU 0 (si (clrS σ r) r 0 1) (Nat.zero_le _) (by unfold FU; omega) (g.keep hex (by show ¬ 1 = r; omega)) (s.keep hex (by refine ⟨?_, ?_, ?_, ?_, ?_, ?_⟩ <;> (show ¬ _ = r; omega))) (fun c' hc2 k hk => by rw [(hex q (by show ¬ q = r; omega) _).1]; exact hW c' hc2 k hk) (fun j hj i' hi' hn => by rw [(hex 22 (by show ¬ 22 = r; omega) _).1]; exact hR j hj i' hi' hn) (clrS_LC σ r U _)
  refine ⟨σ', e1, ?_, e2, eqx.tr hex e4⟩
  unfold gi
  rw [e3]
  exact gi_si_same _ _ _ _
