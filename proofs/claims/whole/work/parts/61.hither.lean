/-! ===== HALF 2: the class counts hither ===== -/
/-- what one node gives to the set m' of the next level, by one KIND -/
def eE (w : Nat) (U D : Nat → Bool) (N j m k m' v : Nat) : Nat := if Tk w U D j m k = some m' ∧ Wr w U D (N - (j + 1)) (j + 1) m' ≠ 0 then v else 0
def Hm (w : Nat) (U D : Nat → Bool) (N : Nat) : Nat → Nat → Nat
  | 0, m => if m = 0 then 1 else 0
  | j + 1, m' => sm (fun i => sm (fun k => eE w U D N j ((lev w U D j).getD i 0) k m' (Hm w U D N j ((lev w U D j).getD i 0))) 3) (lev w U D j).length
/-- the same, when the nodes below t have given theirs -/
def hv (w : Nat) (U D : Nat → Bool) (N t : Nat) : Nat → Nat → Nat
  | 0, m => if m = 0 then 1 else 0
  | j + 1, m' => sm (fun i => if fs w U D j + i < t then sm (fun k => eE w U D N j ((lev w U D j).getD i 0) k m' (Hm w U D N j ((lev w U D j).getD i 0))) 3 else 0) (lev w U D j).length
theorem hv_full {w : Nat} {U D : Nat → Bool} {N t : Nat} : ∀ {j m : Nat}, fs w U D j ≤ t → hv w U D N t j m = Hm w U D N j m
  | 0, m, _ => rfl
  | j + 1, m, h => by
    rw [fs_succ] at h
    exact sm_congr (fun i hi => by rw [if_pos (by omega)])
theorem hv_other {w : Nat} {U D : Nat → Bool} {N j i : Nat} (hi : i < (lev w U D j).length) : ∀ {j' m : Nat}, j' ≠ j + 1 → hv w U D N (fs w U D j + i + 1) j' m = hv w U D N (fs w U D j + i) j' m
  | 0, m, _ => rfl
  | j' + 1, m, h => by
    refine sm_congr (fun i' hi' => ?_)
    by_cases h1 : fs w U D j' + i' < fs w U D j + i
    · rw [if_pos h1, if_pos (by omega)]
    · by_cases h2 : fs w U D j' + i' = fs w U D j + i
      · have := (fs_inj hi' hi h2).1
        omega
      · rw [if_neg h1, if_neg (by omega)]
theorem hv_next {w : Nat} {U D : Nat → Bool} {N j i m' : Nat} (hi : i < (lev w U D j).length) : hv w U D N (fs w U D j + i + 1) (j + 1) m' = hv w U D N (fs w U D j + i) (j + 1) m' + sm (fun k => eE w U D N j ((lev w U D j).getD i 0) k m' (Hm w U D N j ((lev w U D j).getD i 0))) 3 := by
  have h1 : sm (fun i' => if i' = i then sm (fun k => eE w U D N j ((lev w U D j).getD i 0) k m' (Hm w U D N j ((lev w U D j).getD i 0))) 3 else 0) (lev w U D j).length = sm (fun k => eE w U D N j ((lev w U D j).getD i 0) k m' (Hm w U D N j ((lev w U D j).getD i 0))) 3 := by
    rw [sm_one hi (fun i' _ hne => by rw [if_neg hne]), if_pos rfl]
  rw [← h1]
  show sm _ _ = sm _ _ + sm _ _
  rw [← sm_add]
  refine sm_congr (fun i' hi' => ?_)
  by_cases he : i' = i
  · subst he
    rw [if_pos (by omega), if_neg (by omega), if_pos rfl, Nat.zero_add]
  · simp only [if_neg he, Nat.add_zero]
    by_cases hl : fs w U D j + i' < fs w U D j + i
    · rw [if_pos hl, if_pos (by omega)]
    · rw [if_neg hl, if_neg (by omega)]
/-- at node i of level j, KIND k -/
def HK (σ : St) (w h : Nat) (U D : Nat → Bool) (j i k : Nat) : Prop := (∀ j', j' ≤ w * h → j' ≠ j + 1 → ∀ i', i' < (lev w U D j').length → gl σ 21 (fs w U D j' + i') = lN (hv w U D (w * h) (fs w U D j + i) j' ((lev w U D j').getD i' 0))) ∧ ∀ i', i' < (lev w U D (j + 1)).length → gl σ 21 (fs w U D (j + 1) + i') = lN (hv w U D (w * h) (fs w U D j + i) (j + 1) ((lev w U D (j + 1)).getD i' 0) + sm (fun k => eE w U D (w * h) j ((lev w U D j).getD i 0) k ((lev w U D (j + 1)).getD i' 0) (Hm w U D (w * h) j ((lev w U D j).getD i 0))) k)
def NX (σ : St) (w h : Nat) (U D : Nat → Bool) : Prop := ∀ j, j < w * h → ∀ i, i < (lev w U D j).length → ∀ k, k < 3 → gi σ 19 (3 * (fs w U D j + i) + k) = nxp w U D (w * h) j ((lev w U D j).getD i 0) k
theorem getD_ne {l : List Nat} (hn : l.Nodup) {i i' : Nat} (hi : i < l.length) (hi' : i' < l.length) (h : l.getD i 0 = l.getD i' 0) : i = i' := by
  rw [List.getD_eq_getElem?_getD, List.getD_eq_getElem?_getD, List.getElem?_eq_getElem hi, List.getElem?_eq_getElem hi'] at h
  have h1 := ix_of hn (List.getElem?_eq_getElem hi)
  have h2 := ix_of hn (List.getElem?_eq_getElem hi')
  simp only [Option.getD_some] at h
  rw [h] at h1
  omega
theorem s_hi48 {w h : Nat} {U D : Nat → Bool} (hw1 : 1 ≤ w) (hw : w ≤ 8) (hh : h ≤ 8) {j i : Nat} (hj : j < w * h) (hi : i < (lev w U D j).length) (k33 : Int32 → St → Option (Unit × St)) :
    ∀ (n k : Nat) (σ : St), k ≤ 3 → 3 - k < n → NX σ w h U D → HK σ w h U D j i k →
    ∃ σ', f_X3_countHither_48 k33 n (nI (fs w U D j + i)) (nI k) σ = k33 (nI (fs w U D j + i + 1)) σ' ∧ HK σ' w h U D j i 3 ∧ σ'.1 = σ.1 ∧ eqx (fun p => p = 21) σ σ' := by
  have har := area_le hw hh
  have hfs := fs_le (U := U) (D := D) hw1 hw (j + 1)
  have hfs2 := fs_le (U := U) (D := D) hw1 hw (j + 1 + 1)
  have hfe := fs_succ w U D j
  have hfe2 := fs_succ w U D (j + 1)
  intro n
  induction n with
  | zero => intro k σ h1 h2; omega
  | succ n ih =>
    intro k σ h1 h2 hN hH
    rw [f_X3_countHither_48]
    by_cases hk : 3 ≤ k
    · have e : k = 3 := by omega
      subst e
      rw [if_pos (show (3 : Int32) ≤ nI 3 by decide), nI_1]
      exact ⟨σ, rfl, hH, rfl, eqx.rf⟩
    · have hk3 : k < 3 := by omega
      have ei : nI (fs w U D j + i) * (3 : Int32) + nI k = nI (3 * (fs w U D j + i) + k) := by rw [show (3 : Int32) = nI 3 from rfl, nI_mul, nI_add, Nat.mul_comm]
      have hin : 3 * (fs w U D j + i) + k < len 19 := by show _ < 13650; omega
      rw [if_neg (show ¬ (3 : Int32) ≤ nI k from nI_ge (a := k) (b := 3) (by omega) (by decide)), ei, rdI_at _ _ hin (by decide), hN j hj i hi k hk3]
      unfold f_X3_countHither_86
      have hs : ∀ m', sm (fun k => eE w U D (w * h) j ((lev w U D j).getD i 0) k m' (Hm w U D (w * h) j ((lev w U D j).getD i 0))) (k + 1) = sm (fun k => eE w U D (w * h) j ((lev w U D j).getD i 0) k m' (Hm w U D (w * h) j ((lev w U D j).getD i 0))) k + eE w U D (w * h) j ((lev w U D j).getD i 0) k m' (Hm w U D (w * h) j ((lev w U D j).getD i 0)) := fun m' => rfl
      -- no edge
      have noedge : (∀ m', eE w U D (w * h) j ((lev w U D j).getD i 0) k m' (Hm w U D (w * h) j ((lev w U D j).getD i 0)) = 0) → ∃ σ', f_X3_countHither_48 k33 n (nI (fs w U D j + i)) (nI k + 1) σ = k33 (nI (fs w U D j + i + 1)) σ' ∧ HK σ' w h U D j i 3 ∧ σ'.1 = σ.1 ∧ eqx (fun p => p = 21) σ σ' := by
        intro h0
        rw [nI_1]
        exact ih (k + 1) σ (by omega) (by omega) hN ⟨hH.1, fun i' hi' => by rw [hs, h0, Nat.add_zero]; exact hH.2 i' hi'⟩
      cases ht : Tk w U D j ((lev w U D j).getD i 0) k with
      | none =>
        rw [show nxp w U D (w * h) j ((lev w U D j).getD i 0) k = -1 by unfold nxp; rw [ht], if_pos (by decide)]
        exact noedge (fun m' => by unfold eE; rw [ht, if_neg (by simp)])
      | some a =>
        have ha := lev_Tk hi hk3 ht
        have hix := ix_lt ha
        by_cases h0 : Wr w U D (w * h - (j + 1)) (j + 1) a = 0
        · rw [show nxp w U D (w * h) j ((lev w U D j).getD i 0) k = -1 by unfold nxp; rw [ht]; simp only [h0, if_true], if_pos (by decide)]
          refine noedge (fun m' => ?_)
          unfold eE
          rw [ht]
          by_cases hm : a = m'
          · subst hm; rw [if_neg (fun z => z.2 h0)]
          · rw [if_neg (fun z => hm (Option.some.inj z.1))]
        · have hl21 : fs w U D (j + 1) + ix a (lev w U D (j + 1)) < len 21 := by show _ < 4550; omega
          have hlt : fs w U D j + i < len 21 := by show _ < 4550; omega
          rw [show nxp w U D (w * h) j ((lev w U D j).getD i 0) k = nI (fs w U D (j + 1) + ix a (lev w U D (j + 1))) by unfold nxp; rw [ht]; simp only [h0, if_false], if_neg (nI_pos (by omega)), rdL_at _ _ hl21 (by decide), rdL_at _ _ hlt (by decide), wrL_at _ _ _ hl21 (by decide)]
          rw [hH.2 _ hix, getD_ix ha, hH.1 j (by omega) (by omega) i hi, hv_full (show fs w U D j ≤ fs w U D j + i by omega), lN_add, nI_1]
          obtain ⟨σ', f1, f2, f3, f4⟩ := ih (k + 1) (sl σ 21 (fs w U D (j + 1) + ix a (lev w U D (j + 1))) (lN (hv w U D (w * h) (fs w U D j + i) (j + 1) a + sm (fun k => eE w U D (w * h) j ((lev w U D j).getD i 0) k a (Hm w U D (w * h) j ((lev w U D j).getD i 0))) k + Hm w U D (w * h) j ((lev w U D j).getD i 0)))) (by omega) (by omega) hN ⟨fun j' hj' hne i' hi' => by
              rw [gl_sl_ne _ _ _ _ (fun z => hne (fs_inj hi' hix z.2).1)]
              exact hH.1 j' hj' hne i' hi', fun i' hi' => by
              rw [hs]
              by_cases hq : i' = ix a (lev w U D (j + 1))
              · subst hq
                rw [gl_sl_same, getD_ix ha]
                unfold eE
                rw [if_pos (c := Tk w U D j ((lev w U D j).getD i 0) k = some a ∧ Wr w U D (w * h - (j + 1)) (j + 1) a ≠ 0) ⟨ht, h0⟩, Nat.add_assoc]
              · rw [gl_sl_ne _ _ _ _ (by omega), hH.2 i' hi']
                have hz : eE w U D (w * h) j ((lev w U D j).getD i 0) k ((lev w U D (j + 1)).getD i' 0) (Hm w U D (w * h) j ((lev w U D j).getD i 0)) = 0 := by
                  unfold eE
                  rw [if_neg]
                  intro z
                  rw [ht] at z
                  have e1 : a = (lev w U D (j + 1)).getD i' 0 := Option.some.inj z.1
                  exact hq (getD_ne (lev_nodup w U D (j + 1)) hi' hix (by rw [getD_ix ha]; exact e1.symm))
                simp only [hz, Nat.add_zero]⟩
          exact ⟨σ', f1, f2, f3, eqx.tr (eqx.sl eqx.rf rfl) f4⟩
/-- hither as the nodes below t have made it -/
def HI (σ : St) (w h : Nat) (U D : Nat → Bool) (t : Nat) : Prop := ∀ j', j' ≤ w * h → ∀ i', i' < (lev w U D j').length → gl σ 21 (fs w U D j' + i') = lN (hv w U D (w * h) t j' ((lev w U D j').getD i' 0))
theorem s_hi33 {w h : Nat} {U D : Nat → Bool} (hw1 : 1 ≤ w) (hw : w ≤ 8) (hh : h ≤ 8) : ∀ (n t : Nat) (σ : St), t ≤ fs w U D (w * h) → fs w U D (w * h) - t < n → CG σ w h U D → gi σ 17 (w * h) = nI (fs w U D (w * h)) → NX σ w h U D → HI σ w h U D t →
    ∃ σ', f_X3_countHither_33 n (nI t) σ = some ((), σ') ∧ HI σ' w h U D (fs w U D (w * h)) ∧ σ'.1 = σ.1 ∧ eqx (fun p => p = 21) σ σ' := by
  have har := area_le hw hh
  have hfs := fs_le (U := U) (D := D) hw1 hw (w * h)
  intro n
  induction n with
  | zero => intro t σ h1 h2; omega
  | succ n ih =>
    intro t σ h1 h2 g h17 hN hH
    rw [f_X3_countHither_33, g.2.2.2.2.2.2.1, rdI_at _ _ (show w * h < len 17 by show _ < 66; omega) (by decide), h17]
    by_cases ht : fs w U D (w * h) ≤ t
    · have e : t = fs w U D (w * h) := by omega
      rw [if_pos (nI_le ht (by omega))]
      rw [e] at hH
      exact ⟨σ, rfl, hH, rfl, eqx.rf⟩
    · obtain ⟨j, i, hj, hi, rfl⟩ := fs_loc w U D (show t < fs w U D (w * h) by omega)
      rw [if_neg (nI_ge (by omega) (by omega))]
      obtain ⟨τ, f1, f2, f3, f4⟩ := s_hi48 hw1 hw hh hj hi (f_X3_countHither_33 n) FU 0 σ (by decide) (by decide) hN ⟨fun j' hj' _ i' hi' => hH j' hj' i' hi', fun i' hi' => hH (j + 1) (by omega) i' hi'⟩
      rw [show nI 0 = 0 from rfl] at f1
      rw [f1]
      have hNτ : NX τ w h U D := fun j' hj' i' hi' k hk => by
        unfold gi
        rw [f3]
        exact hN j' hj' i' hi' k hk
      obtain ⟨σ', g1, g2, g3, g4⟩ := ih (fs w U D j + i + 1) τ (by omega) (by omega) (g.keep f4 (by decide)) (by unfold gi; rw [f3]; exact h17) hNτ (fun j' hj' i' hi' => by
        by_cases he : j' = j + 1
        · subst he; rw [f2.2 i' hi', hv_next hi]
        · rw [f2.1 j' hj' he i' hi', hv_other hi he])
      exact ⟨σ', g1, g2, g3.trans f3, eqx.tr f4 g4⟩
theorem s_hi2 {w h : Nat} {U D : Nat → Bool} (hw1 : 1 ≤ w) (hw : w ≤ 8) (hh : h ≤ 8) : ∀ (n t : Nat) (σ : St), t ≤ fs w U D (w * h + 1) → fs w U D (w * h + 1) - t < n → CG σ w h U D → gi σ 17 (w * h) = nI (fs w U D (w * h)) → gi σ 2 7 = nI (fs w U D (w * h + 1)) → NX σ w h U D → (∀ q, q < t → gl σ 21 q = lN (if q = 0 then 1 else 0)) →
    ∃ σ', f_X3_countHither_2 n (nI t) σ = some ((), σ') ∧ HI σ' w h U D (fs w U D (w * h)) ∧ σ'.1 = σ.1 ∧ eqx (fun p => p = 21) σ σ' := by
  have har := area_le hw hh
  have hfs := fs_le (U := U) (D := D) hw1 hw (w * h + 1)
  intro n
  induction n with
  | zero => intro t σ h1 h2; omega
  | succ n ih =>
    intro t σ h1 h2 g h17 h7 hN hQ
    rw [f_X3_countHither_2, h7]
    by_cases ht : fs w U D (w * h + 1) ≤ t
    · rw [if_pos (nI_le ht (by omega))]
      exact s_hi33 hw1 hw hh FU 0 σ (Nat.zero_le _) (by have := fs_le (U := U) (D := D) hw1 hw (w * h); unfold FU; omega) g h17 hN (fun j' hj' i' hi' => by
        have hm := fs_mono w U D (show j' + 1 ≤ w * h + 1 by omega)
        rw [fs_succ] at hm
        rw [hQ _ (by omega)]
        congr 1
        cases j' with
        | zero =>
          have : i' = 0 := by
            simp [lev] at hi'
            exact hi'
          subst this
          rfl
        | succ j' =>
          have hpos : 0 < (lev w U D 0).length := by simp [lev]
          have hm0 := fs_mono w U D (show 0 + 1 ≤ j' + 1 by omega)
          rw [fs_succ] at hm0
          rw [if_neg (by omega)]
          exact (sm_all0 (fun i _ => by rw [if_neg (by omega)])).symm)
    · rw [if_neg (nI_ge (by omega) (by omega))]
      have step : ∀ v : Nat, v = (if t = 0 then 1 else 0) → ∃ σ', f_X3_countHither_24 (f_X3_countHither_2 n) (nI t) (nI t) (lN v) σ = some ((), σ') ∧ HI σ' w h U D (fs w U D (w * h)) ∧ σ'.1 = σ.1 ∧ eqx (fun p => p = 21) σ σ' := by
        intro v hv
        unfold f_X3_countHither_24
        rw [wrL_at _ _ _ (show t < len 21 by show _ < 4550; omega) (by decide), nI_1]
        obtain ⟨σ', f1, f2, f3, f4⟩ := ih (t + 1) (sl σ 21 t (lN v)) (by omega) (by omega) (g.keep (P := fun p => p = 21) (eqx.sl eqx.rf rfl) (by decide)) h17 h7 hN (fun q hq => by
          by_cases he : q = t
          · subst he; rw [gl_sl_same, hv]
          · rw [gl_sl_ne _ _ _ _ (by omega)]; exact hQ q (by omega))
        exact ⟨σ', f1, f2, f3, eqx.tr (eqx.sl eqx.rf rfl) f4⟩
      by_cases h0 : t = 0
      · rw [if_pos (show nI t = 0 by rw [h0]; rfl)]
        exact step 1 (by simp [h0])
      · rw [if_neg (nI_ne0 (by omega) (by omega))]
        exact step 0 (by simp [h0])
