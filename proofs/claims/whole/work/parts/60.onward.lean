/-! ===== HALF 2: the class counts onward ===== -/
theorem Wr_Tk (w : Nat) (U D : Nat → Bool) (r c m : Nat) : Wr w U D (r + 1) c m = sm (fun k => ov (Tk w U D c m k) (Wr w U D r (c + 1))) 3 := by
  rw [Wr_succ, sm4]
  show _ = 0 + ov (Tk w U D c m 0) _ + ov (Tk w U D c m 1) _ + ov (Tk w U D c m 2) _
  cases hU : U c with
  | true =>
    have t : ∀ k, Tk w U D c m k = Tr w U D c m k := fun k => by unfold Tk; simp [hU]
    rw [t 0, t 1, t 2, Tr_in3 hU]
    show _ + 0 = _
    omega
  | false =>
    have t0 : Tk w U D c m 0 = Tr w U D c m 3 := by unfold Tk; simp [hU]
    have t1 : Tk w U D c m 1 = none := by unfold Tk; simp [hU]
    have t2 : Tk w U D c m 2 = none := by unfold Tk; simp [hU]
    rw [t0, t1, t2, Tr_out hU (k := 0) (by decide), Tr_out hU (k := 1) (by decide), Tr_out hU (k := 2) (by decide)]
    show 0 + 0 + 0 + _ = 0 + _ + 0 + 0
    omega
/-- a step that leads to the end -/
def nxp (w : Nat) (U D : Nat → Bool) (N j m k : Nat) : Int32 := match Tk w U D j m k with
  | none => -1
  | some m' => if Wr w U D (N - (j + 1)) (j + 1) m' = 0 then -1 else nI (fs w U D (j + 1) + ix m' (lev w U D (j + 1)))
theorem lN_0 {a : Nat} (h : a < 2 ^ 63) : lN a = 0 ↔ a = 0 := pk_lEQ (b := 0) h (by decide)
theorem lev_Tk {w : Nat} {U D : Nat → Bool} {j i k m' : Nat} (hi : i < (lev w U D j).length) (hk : k < 3) (h : Tk w U D j ((lev w U D j).getD i 0) k = some m') : m' ∈ lev w U D (j + 1) := lev_mem.mpr ⟨_, getD_mem hi, k, hk, h⟩
theorem s_on65 {w h : Nat} {U D : Nat → Bool} (hw1 : 1 ≤ w) (hw : w ≤ 8) (hh : h ≤ 8) {j i : Nat} (hj : j < w * h) (hi : i < (lev w U D j).length) (k56 : Int32 → St → Option (Unit × St)) :
    ∀ (n k : Nat) (σ : St), k ≤ 3 → 3 - k < n → (∀ k', k ≤ k' → k' < 3 → gi σ 19 (3 * (fs w U D j + i) + k') = nx w U D (lev w U D (j + 1)) j ((lev w U D j).getD i 0) k') → (∀ k', k' < k → gi σ 19 (3 * (fs w U D j + i) + k') = nxp w U D (w * h) j ((lev w U D j).getD i 0) k') → (∀ m', m' ∈ lev w U D (j + 1) → gl σ 20 (fs w U D (j + 1) + ix m' (lev w U D (j + 1))) = lN (Wr w U D (w * h - (j + 1)) (j + 1) m')) →
    ∃ σ', f_X3_countOnward_65 k56 n (nI (fs w U D j + i)) (lN (sm (fun k => ov (Tk w U D j ((lev w U D j).getD i 0) k) (Wr w U D (w * h - (j + 1)) (j + 1))) k)) (nI k) σ = k56 (nI (fs w U D j + i) + (-1)) σ' ∧ (∀ k', k' < 3 → gi σ' 19 (3 * (fs w U D j + i) + k') = nxp w U D (w * h) j ((lev w U D j).getD i 0) k') ∧ (∀ q, q < 3 * (fs w U D j + i) ∨ 3 * (fs w U D j + i) + 3 ≤ q → gi σ' 19 q = gi σ 19 q) ∧ gl σ' 20 (fs w U D j + i) = lN (Wr w U D (w * h - j) j ((lev w U D j).getD i 0)) ∧ (∀ q, q ≠ fs w U D j + i → gl σ' 20 q = gl σ 20 q) ∧ eqx (fun p => p = 19 ∨ p = 20) σ σ' := by
  have har := area_le hw hh
  have hfs := fs_le (U := U) (D := D) hw1 hw (j + 1)
  have hfs2 := fs_le (U := U) (D := D) hw1 hw (j + 1 + 1)
  have hfe := fs_succ w U D j
  have hfe2 := fs_succ w U D (j + 1)
  intro n
  induction n with
  | zero => intro k σ h1 h2; omega
  | succ n ih =>
    intro k σ h1 h2 a1 a2 a3
    rw [f_X3_countOnward_65]
    by_cases hk : 3 ≤ k
    · have e : k = 3 := by omega
      subst e
      rw [if_pos (show (3 : Int32) ≤ nI 3 by decide), wrL_at _ _ _ (show fs w U D j + i < len 20 by show _ < 4550; omega) (by decide), ← Wr_Tk, show w * h - (j + 1) + 1 = w * h - j by omega]
      exact ⟨_, rfl, a2, fun _ _ => rfl, gl_sl_same _ _ _ _, fun q hq => gl_sl_ne _ _ _ _ (fun z => hq z.2), eqx.sl eqx.rf (Or.inr rfl)⟩
    · have hk3 : k < 3 := by omega
      have ei : nI (fs w U D j + i) * (3 : Int32) + nI k = nI (3 * (fs w U D j + i) + k) := by rw [show (3 : Int32) = nI 3 from rfl, nI_mul, nI_add, Nat.mul_comm]
      have hin : 3 * (fs w U D j + i) + k < len 19 := by show _ < 13650; omega
      rw [if_neg (show ¬ (3 : Int32) ≤ nI k from nI_ge (a := k) (b := 3) (by omega) (by decide)), ei, rdI_at _ _ hin (by decide), a1 k (Nat.le_refl _) hk3]
      have hs : sm (fun k => ov (Tk w U D j ((lev w U D j).getD i 0) k) (Wr w U D (w * h - (j + 1)) (j + 1))) (k + 1) = sm (fun k => ov (Tk w U D j ((lev w U D j).getD i 0) k) (Wr w U D (w * h - (j + 1)) (j + 1))) k + ov (Tk w U D j ((lev w U D j).getD i 0) k) (Wr w U D (w * h - (j + 1)) (j + 1)) := rfl
      -- cut off
      have cutoff : ov (Tk w U D j ((lev w U D j).getD i 0) k) (Wr w U D (w * h - (j + 1)) (j + 1)) = 0 → nxp w U D (w * h) j ((lev w U D j).getD i 0) k = -1 →
          ∃ σ', f_X3_countOnward_114 (f_X3_countOnward_65 k56 n) (nI (fs w U D j + i)) (lN (sm (fun k => ov (Tk w U D j ((lev w U D j).getD i 0) k) (Wr w U D (w * h - (j + 1)) (j + 1))) k)) (nI k) σ = k56 (nI (fs w U D j + i) + (-1)) σ' ∧ (∀ k', k' < 3 → gi σ' 19 (3 * (fs w U D j + i) + k') = nxp w U D (w * h) j ((lev w U D j).getD i 0) k') ∧ (∀ q, q < 3 * (fs w U D j + i) ∨ 3 * (fs w U D j + i) + 3 ≤ q → gi σ' 19 q = gi σ 19 q) ∧ gl σ' 20 (fs w U D j + i) = lN (Wr w U D (w * h - j) j ((lev w U D j).getD i 0)) ∧ (∀ q, q ≠ fs w U D j + i → gl σ' 20 q = gl σ 20 q) ∧ eqx (fun p => p = 19 ∨ p = 20) σ σ' := by
        intro h0 hn
        unfold f_X3_countOnward_114 f_X3_countOnward_126
        rw [ei, wrI_at _ _ _ hin (by decide), nI_1]
        obtain ⟨σ', f1, f2, f3, f4, f5, f6⟩ := ih (k + 1) (si σ 19 (3 * (fs w U D j + i) + k) (-1)) (by omega) (by omega) (fun k' q1 q2 => by rw [gi_si_ne _ _ _ _ (by omega)]; exact a1 k' (by omega) q2) (fun k' q1 => by
          by_cases hq : k' = k
          · subst hq; rw [gi_si_same, hn]
          · rw [gi_si_ne _ _ _ _ (by omega)]; exact a2 k' (by omega)) a3
        rw [hs, h0, Nat.add_zero] at f1
        exact ⟨σ', f1, f2, fun q hq => by rw [f3 q hq, gi_si_ne _ _ _ _ (by omega)], f4, f5, eqx.tr (eqx.si eqx.rf (Or.inl rfl)) f6⟩
      cases ht : Tk w U D j ((lev w U D j).getD i 0) k with
      | none =>
        rw [show nx w U D (lev w U D (j + 1)) j ((lev w U D j).getD i 0) k = -1 by unfold nx; rw [ht], if_pos (by decide)]
        exact cutoff (by rw [ht]; rfl) (by unfold nxp; rw [ht])
      | some m' =>
        have hm' := lev_Tk hi hk3 ht
        have hix := ix_lt hm'
        have hWb := Wr_56 (U := U) (D := D) hw hh (show j + 1 + (w * h - (j + 1)) = w * h by omega) m'
        have hl20 : fs w U D (j + 1) + ix m' (lev w U D (j + 1)) < len 20 := by show _ < 4550; omega
        rw [show nx w U D (lev w U D (j + 1)) j ((lev w U D j).getD i 0) k = nI (fs w U D (j + 1) + ix m' (lev w U D (j + 1))) by unfold nx; rw [ht], if_neg (nI_pos (by omega)), rdL_at _ _ hl20 (by decide), a3 m' hm']
        by_cases h0 : Wr w U D (w * h - (j + 1)) (j + 1) m' = 0
        · rw [if_pos ((lN_0 (by omega)).mpr h0)]
          exact cutoff (by rw [ht]; exact h0) (by unfold nxp; rw [ht]; simp only [h0, if_true])
        · rw [if_neg (fun z => h0 ((lN_0 (by omega)).mp z)), rdL_at _ _ hl20 (by decide), a3 m' hm', lN_add]
          unfold f_X3_countOnward_126
          rw [nI_1]
          obtain ⟨σ', f1, f2⟩ := ih (k + 1) σ (by omega) (by omega) (fun k' q1 q2 => a1 k' (by omega) q2) (fun k' q1 => by
            by_cases hq : k' = k
            · subst hq
              rw [a1 k' (Nat.le_refl _) hk3]
              unfold nx nxp
              rw [ht]
              simp only [h0, if_false]
            · exact a2 k' (by omega)) a3
          rw [hs, ht] at f1
          exact ⟨σ', f1, f2⟩
/-- onward is counted, and what leads to no end is cut off, for all nodes from t on -/
def OI (σ : St) (w h : Nat) (U D : Nat → Bool) (t : Nat) : Prop := (∀ j, j ≤ w * h → ∀ i, i < (lev w U D j).length → t ≤ fs w U D j + i → gl σ 20 (fs w U D j + i) = lN (Wr w U D (w * h - j) j ((lev w U D j).getD i 0))) ∧ ∀ j, j < w * h → ∀ i, i < (lev w U D j).length → ∀ k, k < 3 → gi σ 19 (3 * (fs w U D j + i) + k) = if t ≤ fs w U D j + i then nxp w U D (w * h) j ((lev w U D j).getD i 0) k else nx w U D (lev w U D (j + 1)) j ((lev w U D j).getD i 0) k
theorem getD_ix {m : Nat} {l : List Nat} (h : m ∈ l) : l.getD (ix m l) 0 = m := by
  rw [List.getD_eq_getElem?_getD, ix_get h]
  rfl
theorem fs_inj {w : Nat} {U D : Nat → Bool} {j i j' i' : Nat} (h1 : i < (lev w U D j).length) (h2 : i' < (lev w U D j').length) (h : fs w U D j + i = fs w U D j' + i') : j = j' ∧ i = i' := by
  rcases Nat.lt_trichotomy j j' with q | q | q
  · have := fs_mono w U D (show j + 1 ≤ j' from q)
    rw [fs_succ] at this
    omega
  · subst q; omega
  · have := fs_mono w U D (show j' + 1 ≤ j from q)
    rw [fs_succ] at this
    omega
theorem s_on56 {w h : Nat} {U D : Nat → Bool} (hw1 : 1 ≤ w) (hw : w ≤ 8) (hh : h ≤ 8) : ∀ (t n : Nat) (σ : St), t ≤ fs w U D (w * h) → t < n → OI σ w h U D t →
    ∃ σ', f_X3_countOnward_56 n (nI t + (-1)) σ = some ((), σ') ∧ OI σ' w h U D 0 ∧ eqx (fun p => p = 19 ∨ p = 20) σ σ' := by
  intro t
  induction t with
  | zero =>
    intro n σ h1 h2 hO
    obtain ⟨n, rfl⟩ : ∃ n', n = n' + 1 := ⟨n - 1, by omega⟩
    refine ⟨σ, ?_, hO, eqx.rf⟩
    rw [f_X3_countOnward_56, if_pos (show nI 0 + (-1) < 0 by decide)]
  | succ t ih =>
    intro n σ h1 h2 hO
    obtain ⟨n, rfl⟩ : ∃ n', n = n' + 1 := ⟨n - 1, by omega⟩
    have har := area_le hw hh
    have hfs := fs_le (U := U) (D := D) hw1 hw (w * h)
    obtain ⟨j, i, hj, hi, ht⟩ := fs_loc w U D (show t < fs w U D (w * h) by omega)
    rw [f_X3_countOnward_56, pk_m1, if_neg (nI_pos (by omega)), ht]
    obtain ⟨τ, f1, f2, f3, f4, f5, f6⟩ := s_on65 hw1 hw hh hj hi (f_X3_countOnward_56 n) FU 0 σ (by decide) (by decide) (fun k' _ q2 => by rw [hO.2 j hj i hi k' q2, if_neg (by omega)]) (fun k' q => by omega) (fun m' hm' => by
      have hlt := ix_lt hm'
      have := fs_succ w U D j
      rw [hO.1 (j + 1) (by omega) (ix m' (lev w U D (j + 1))) hlt (by omega), getD_ix hm'])
    rw [show lN (sm (fun k => ov (Tk w U D j ((lev w U D j).getD i 0) k) (Wr w U D (w * h - (j + 1)) (j + 1))) 0) = 0 from rfl, show nI 0 = 0 from rfl] at f1
    rw [f1, ← ht]
    rw [← ht] at f2 f3 f4 f5
    obtain ⟨σ', g1, g2, g3⟩ := ih n τ (by omega) (by omega) ⟨fun j' hj' i' hi' hle => by
      by_cases he : fs w U D j' + i' = t
      · obtain ⟨rfl, rfl⟩ := fs_inj hi' hi (he.trans ht)
        rw [he, f4]
      · rw [f5 _ he]
        exact hO.1 j' hj' i' hi' (by omega), fun j' hj' i' hi' k hk => by
      by_cases he : fs w U D j' + i' = t
      · obtain ⟨rfl, rfl⟩ := fs_inj hi' hi (he.trans ht)
        rw [he, f2 k hk, if_pos (Nat.le_refl _)]
      · rw [f3 _ (by omega), hO.2 j' hj' i' hi' k hk]
        by_cases hle : t + 1 ≤ fs w U D j' + i'
        · rw [if_pos hle, if_pos (by omega)]
        · rw [if_neg hle, if_neg (by omega)]⟩
    exact ⟨σ', g1, g2, eqx.tr f6 g3⟩
theorem s_on10 {w h : Nat} {U D : Nat → Bool} : ∀ (n i : Nat) (σ : St), i ≤ (lev w U D (w * h)).length → (lev w U D (w * h)).length - i < n → CG σ w h U D → Built σ w h U D → (∀ i', i' < i → gl σ 20 (fs w U D (w * h) + i') = lN (Wr w U D 0 (w * h) ((lev w U D (w * h)).getD i' 0))) →
    ∃ σ', f_X3_countOnward_10 n (nI (fs w U D (w * h) + i)) σ = some ((), σ') ∧ OI σ' w h U D 0 ∧ eqx (fun p => p = 19 ∨ p = 20) σ σ' := by
  intro n
  induction n with
  | zero => intro i σ h1 h2; omega
  | succ n ih =>
    intro i σ h1 h2 g hB hO
    obtain ⟨hw1, hw8, hh1, hh8, -, -, e2, -⟩ := id g
    have har := area_le hw8 hh8
    have hfs := fs_le (U := U) (D := D) hw1 hw8 (w * h)
    have hfe := fs_succ w U D (w * h)
    have hll := lev_len (U := U) (D := D) hw1 hw8 (w * h)
    obtain ⟨b1, b2, b3, b4⟩ := id hB
    rw [f_X3_countOnward_10, b4, e2]
    by_cases hi : i < (lev w U D (w * h)).length
    · rw [if_neg (nI_ge (by omega) (by omega)), rdI_at _ _ (show fs w U D (w * h) + i < len 18 by show _ < 4550; omega) (by decide), b2 (w * h) (Nat.le_refl _) i hi]
      have step : ∀ v : Nat, v = Wr w U D 0 (w * h) ((lev w U D (w * h)).getD i 0) → ∃ σ', f_X3_countOnward_37 (f_X3_countOnward_10 n) (nI (fs w U D (w * h) + i)) (nI (fs w U D (w * h) + i)) (lN v) σ = some ((), σ') ∧ OI σ' w h U D 0 ∧ eqx (fun p => p = 19 ∨ p = 20) σ σ' := by
        intro v hv
        unfold f_X3_countOnward_37
        rw [wrL_at _ _ _ (show fs w U D (w * h) + i < len 20 by show _ < 4550; omega) (by decide), nI_1]
        obtain ⟨σ', f1, f2, f3⟩ := ih (i + 1) (sl σ 20 (fs w U D (w * h) + i) (lN v)) (by omega) (by omega) (g.keep (P := fun p => p = 20) (eqx.sl eqx.rf rfl) (by decide)) hB (fun i' hi' => by
          by_cases hq : i' = i
          · subst hq; rw [gl_sl_same, hv]
          · rw [gl_sl_ne _ _ _ _ (by omega)]; exact hO i' (by omega))
        exact ⟨σ', f1, f2, eqx.tr (eqx.sl eqx.rf (Or.inr rfl)) f3⟩
      have hmw := lev_lt (U := U) (D := D) hw1 (getD_mem hi)
      have h256 := pow_256 hw8
      rw [Wr_zero] at step
      by_cases h0 : (lev w U D (w * h)).getD i 0 = 0
      · rw [if_pos (show nI ((lev w U D (w * h)).getD i 0) = 0 by rw [h0]; rfl)]
        exact step 1 (by simp only [h0, if_true])
      · rw [if_neg (nI_ne0 (by omega) (by omega))]
        exact step 0 (by simp only [h0, if_false])
    · have e : i = (lev w U D (w * h)).length := by omega
      subst e
      rw [if_pos (nI_le (by omega) (by omega)), rdI_at _ _ (show w * h < len 17 by show _ < 66; omega) (by decide), b1 (w * h) (by omega), show nI (fs w U D (w * h)) - 1 = nI (fs w U D (w * h)) + (-1) from Int32.sub_eq_add_neg _ _]
      obtain ⟨σ', f1, f2, f3⟩ := s_on56 hw1 hw8 hh8 (fs w U D (w * h)) FU σ (Nat.le_refl _) (by unfold FU; omega) ⟨fun j hj i' hi' hle => by
        have hjN : j = w * h := by
          by_cases q : j = w * h
          · exact q
          · have := fs_mono w U D (show j + 1 ≤ w * h by omega)
            rw [fs_succ] at this
            omega
        subst hjN
        rw [Nat.sub_self]
        exact hO i' hi', fun j hj i' hi' k hk => by
        have := fs_mono w U D (show j + 1 ≤ w * h by omega)
        rw [fs_succ] at this
        rw [if_neg (by omega)]
        exact b3 j hj i' hi' k hk⟩
      exact ⟨σ', f1, f2, f3⟩
theorem s_countOnward {σ : St} {w h : Nat} {U D : Nat → Bool} (g : CG σ w h U D) (hB : Built σ w h U D) : ∃ σ', f_X3_countOnward σ = some ((), σ') ∧ OI σ' w h U D 0 ∧ eqx (fun p => p = 19 ∨ p = 20) σ σ' := by
  have har := area_le g.2.1 g.2.2.2.1
  have hll := lev_len (U := U) (D := D) g.1 g.2.1 (w * h)
  unfold f_X3_countOnward
  rw [g.2.2.2.2.2.2.1, rdI_at _ _ (show w * h < len 17 by show _ < 66; omega) (by decide), hB.1 (w * h) (by omega)]
  exact s_on10 FU 0 σ (Nat.zero_le _) (by unfold FU; omega) g hB (fun i' hi' => by omega)
