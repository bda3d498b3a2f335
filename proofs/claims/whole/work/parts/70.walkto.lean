/-! ===== HALF 2: walkTo of the class, to its end ===== -/
theorem s_wt37 {σ : St} {q w h : Nat} (hq : 5 ≤ q ∧ q ≤ 13) {U D : Nat → Bool} (g : CG σ w h U D) (s : SK σ w h U D) {i c : Nat} (hi : i < Wr w U D (w * h) 0 0) (hc : c < w * h) (k20 : Nat → Int64 → Int32 → Int32 → St → Option (Unit × St)) :
    ∀ (n k : Nat), k ≤ kc U c (NK w U D (w * h) i c) → kc U c (NK w U D (w * h) i c) - k < n → f_X3_walkTo_37 k20 n q (lN ((NW w U D (w * h) i c).2 - sm (gK w U D (w * h) c (NW w U D (w * h) i c).1) k)) (nI (nd w U D c (NW w U D (w * h) i c).1)) (nI c) (nI k) σ = k20 q (lN (NW w U D (w * h) i (c + 1)).2) (nI (nd w U D (c + 1) (NW w U D (w * h) i (c + 1)).1)) (nI (c + 1)) (stp σ q U c (kc U c (NK w U D (w * h) i c))) := by
  have har := area_le g.2.1 g.2.2.2.1
  have hok := NW_ok g.1 hi (show c ≤ w * h by omega)
  have hlv := NW_lev g.1 hi (show c ≤ w * h by omega)
  obtain ⟨b1, b2, b3, b4, b5⟩ := NW_step hc hok.2
  obtain ⟨t1, t2⟩ := Tk_kc b2 b3
  have hsm := sm_gK (N := w * h) b2 b3
  have hb := Wr_56 (U := U) (D := D) g.2.1 g.2.2.2.1 (show c + (w * h - c) = w * h by omega) (NW w U D (w * h) i c).1
  rw [← hsm] at b1 b4
  have hgk : gK w U D (w * h) c (NW w U D (w * h) i c).1 (kc U c (NK w U D (w * h) i c)) = Wr w U D (w * h - (c + 1)) (c + 1) (NW w U D (w * h) i (c + 1)).1 := by
    unfold gK
    rw [t1]
    rfl
  have hst := s_step hq g s hc hlv t2 t1 (by omega)
  generalize (NW w U D (w * h) i c).1 = m at *
  generalize (NW w U D (w * h) i c).2 = j at *
  generalize kc U c (NK w U D (w * h) i c) = K at *
  intro n
  induction n with
  | zero => intro k h1 h2; omega
  | succ n ih =>
    intro k h1 h2
    have hmk := sm_mono (gK w U D (w * h) c m) h1
    have hs1 : sm (gK w U D (w * h) c m) (k + 1) = sm (gK w U D (w * h) c m) k + gK w U D (w * h) c m k := rfl
    have hgb : gK w U D (w * h) c m k ≤ 2 ^ 56 := ov_le (fun m => Wr_56 g.2.1 g.2.2.2.1 (by omega) m)
    have take : k = K → f_X3_walkTo_76 k20 q (lN (j - sm (gK w U D (w * h) c m) k)) (nI (nd w U D c m)) (nI c) (nI k) σ = k20 q (lN (NW w U D (w * h) i (c + 1)).2) (nI (nd w U D (c + 1) (NW w U D (w * h) i (c + 1)).1)) (nI (c + 1)) (stp σ q U c K) := by
      intro e
      unfold f_X3_walkTo_76
      rw [e, bd_at hst, nI_1, b4]
    rw [f_X3_walkTo_37]
    by_cases hk2 : 2 ≤ k
    · rw [if_pos (show (2 : Int32) ≤ nI k from nI_le (a := 2) (b := k) (by omega) (by omega))]
      exact take (by omega)
    · rw [if_neg (show ¬ (2 : Int32) ≤ nI k from nI_ge (a := k) (b := 2) (by omega) (by decide)), bd_at (s_onwardBy g s hc hlv (by omega))]
      by_cases e : k = K
      · rw [if_pos ((pk_lLT (by omega) (by omega)).mpr (by rw [e, hgk, ← b4]; exact b5))]
        exact take e
      · have hm2 := sm_mono (gK w U D (w * h) c m) (show k + 1 ≤ K by omega)
        rw [if_neg (fun z => by have := (pk_lLT (by omega) (by omega)).mp z; omega), bd_at (s_onwardBy g s hc hlv (by omega)), nI_1, lN_sub (by omega), show j - sm (gK w U D (w * h) c m) k - gK w U D (w * h) c m k = j - sm (gK w U D (w * h) c m) (k + 1) by omega]
        exact ih (k + 1) (by omega) (by omega)
/-- a step keeps what the Laying holds, and adds a KIND -/
theorem LC_stp {σ : St} {q w h N : Nat} {U D : Nat → Bool} {K : Nat → Nat} (hN : N < 64) (h : LC σ q N U K) : LC (stp σ q U N (kc U N (K N))) q (N + 1) U K := by
  unfold stp kc
  cases hU : U N with
  | true =>
    rw [if_pos rfl, if_pos rfl]
    exact LC_put h hN hU
  | false =>
    rw [if_neg (by decide)]
    exact LC_out h hU
theorem s_wt20 {q w h : Nat} (hq : 5 ≤ q ∧ q ≤ 13) {U D : Nat → Bool} {i : Nat} (hi : i < Wr w U D (w * h) 0 0) :
    ∀ (n c : Nat) (σ : St), c ≤ w * h → w * h - c < n → CG σ w h U D → SK σ w h U D → LC σ q c U (NK w U D (w * h) i) →
    ∃ σ', f_X3_walkTo_20 n q (lN (NW w U D (w * h) i c).2) (nI (nd w U D c (NW w U D (w * h) i c).1)) (nI c) σ = some ((), σ') ∧ LC σ' q (w * h) U (NK w U D (w * h) i) ∧ σ'.1 = σ.1 ∧ eqx (fun p => p = q) σ σ' := by
  intro n
  induction n with
  | zero => intro c σ h1 h2; omega
  | succ n ih =>
    intro c σ h1 h2 g s hL
    have har := area_le g.2.1 g.2.2.2.1
    rw [f_X3_walkTo_20, g.2.2.2.2.2.2.1]
    by_cases hc : w * h ≤ c
    · have e : c = w * h := by omega
      rw [if_pos (nI_le hc (by omega))]
      rw [e] at hL
      exact ⟨σ, rfl, hL, rfl, eqx.rf⟩
    · have hc' : c < w * h := by omega
      have hlv := NW_lev g.1 hi h1
      have hn := nd_lt g.1 g.2.1 hlv
      rw [if_neg (nI_ge hc' (by omega)), if_neg (nI_pos (by omega))]
      have hok := NW_ok g.1 hi h1
      obtain ⟨b1, b2, b3, b4, b5⟩ := NW_step hc' hok.2
      obtain ⟨t1, t2⟩ := Tk_kc b2 b3
      have h37 := s_wt37 hq g s hi hc' (f_X3_walkTo_20 n) FU 0 (Nat.zero_le _) (by unfold FU; omega)
      rw [show sm (gK w U D (w * h) c (NW w U D (w * h) i c).1) 0 = 0 from rfl, Nat.sub_zero, show nI 0 = 0 from rfl] at h37
      rw [h37]
      have hex := stp_eqx σ q U c (kc U c (NK w U D (w * h) i c))
      obtain ⟨σ', e1, e2, e3, e4⟩ := ih (c + 1) (stp σ q U c (kc U c (NK w U D (w * h) i c))) (by omega) (by omega) (g.keep hex (by show ¬ 1 = q; omega)) (s.keep hex (by refine ⟨?_, ?_, ?_, ?_, ?_, ?_⟩ <;> (show ¬ _ = q; omega))) (LC_stp (w := w) (h := h) (D := D) (by omega) hL)
      exact ⟨σ', e1, e2, e3.trans (stp_1 _ _ _ _ _), eqx.tr hex e4⟩
theorem s_walkTo {q w h : Nat} (hq : 5 ≤ q ∧ q ≤ 13) {U D : Nat → Bool} {i : Nat} (hi : i < Wr w U D (w * h) 0 0) {σ : St} (g : CG σ w h U D) (s : SK σ w h U D) :
    ∃ σ', f_X3_walkTo (lN i) q σ = some ((), σ') ∧ gi σ' q 0 = 1 ∧ LC σ' q (w * h) U (NK w U D (w * h) i) ∧ eqx (fun p => p = q) σ σ' := by
  have har := area_le g.2.1 g.2.2.2.1
  unfold f_X3_walkTo
  rw [bd_at (s_clr q σ), fI_at]
  have hex : eqx (fun p => p = q) σ (si (clrS σ q) q 0 1) := eqx.si (eqx.sl (eqx.sl (eqx.sl (eqx.si eqx.rf rfl) rfl) rfl) rfl) rfl
  obtain ⟨σ', e1, e2, e3, e4⟩ := s_wt20 hq hi FU 0 (si (clrS σ q) q 0 1) (Nat.zero_le _) (by unfold FU; omega) (g.keep hex (by show ¬ 1 = q; omega)) (s.keep hex (by refine ⟨?_, ?_, ?_, ?_, ?_, ?_⟩ <;> (show ¬ _ = q; omega))) (clrS_LC σ q U _)
  refine ⟨σ', e1, ?_, e2, eqx.tr hex e4⟩
  unfold gi
  rw [e3]
  exact gi_si_same _ _ _ _
