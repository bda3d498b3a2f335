/-! ===== HALF 2: build: the levels come to stand ===== -/
def nx (w : Nat) (U D : Nat → Bool) (l : List Nat) (j m k : Nat) : Int32 := match Tk w U D j m k with
  | none => -1
  | some m' => nI (fs w U D (j + 1) + ix m' l)
theorem nx_app {w : Nat} {U D : Nat → Bool} {l : List Nat} (r : List Nat) {j m k : Nat} (h : ∀ a, Tk w U D j m k = some a → a ∈ l) : nx w U D (l ++ r) j m k = nx w U D l j m k := by
  unfold nx
  cases ht : Tk w U D j m k with
  | none => rfl
  | some a =>
    show nI (fs w U D (j + 1) + ix a (l ++ r)) = nI (fs w U D (j + 1) + ix a l)
    rw [ix_app r (h a ht)]
theorem nx_add {w : Nat} {U D : Nat → Bool} {l : List Nat} (o : Option Nat) {j m k : Nat} (h : ∀ a, Tk w U D j m k = some a → a ∈ l) : nx w U D (addL l o) j m k = nx w U D l j m k := by
  obtain ⟨r, e⟩ := addL_pre l o
  rw [e, nx_app r h]
/-- first up to level c', the sets up to level c, the steps below level c -/
def BA (σ : St) (w : Nat) (U D : Nat → Bool) (c' c : Nat) : Prop := (∀ j, j ≤ c' → gi σ 17 j = nI (fs w U D j)) ∧ (∀ j, j ≤ c → ∀ i, i < (lev w U D j).length → gi σ 18 (fs w U D j + i) = nI ((lev w U D j).getD i 0)) ∧ ∀ j, j < c → ∀ i, i < (lev w U D j).length → ∀ k, k < 3 → gi σ 19 (3 * (fs w U D j + i) + k) = nx w U D (lev w U D (j + 1)) j ((lev w U D j).getD i 0) k
/-- at node i of level c, KIND k: the level to come is l -/
def BC (σ : St) (w : Nat) (U D : Nat → Bool) (c i k : Nat) (l : List Nat) : Prop := BA σ w U D (c + 1) c ∧ RT σ (fs w U D (c + 1)) l ∧ (∀ i', i' < i → ∀ k', k' < 3 → gi σ 19 (3 * (fs w U D c + i') + k') = nx w U D l c ((lev w U D c).getD i' 0) k') ∧ ∀ k', k' < k → gi σ 19 (3 * (fs w U D c + i) + k') = nx w U D l c ((lev w U D c).getD i 0) k'
theorem getD_mem {l : List Nat} {i : Nat} (h : i < l.length) : l.getD i 0 ∈ l := by
  rw [List.getD_eq_getElem?_getD, List.getElem?_eq_getElem h]
  simp
/-- the level to come, out of the first i nodes -/
def grT (w : Nat) (U D : Nat → Bool) (c i : Nat) : List Nat := gr w U D c ((lev w U D c).take i)
theorem grT_succ {w : Nat} {U D : Nat → Bool} {c i : Nat} (h : i < (lev w U D c).length) : grT w U D c (i + 1) = pa w U D c (grT w U D c i) ((lev w U D c).getD i 0) 3 := by
  unfold grT gr
  rw [List.take_succ, List.getElem?_eq_getElem h, List.foldl_append]
  rw [List.getD_eq_getElem?_getD, List.getElem?_eq_getElem h]
  rfl
theorem grT_all (w : Nat) (U D : Nat → Bool) (c : Nat) : grT w U D c (lev w U D c).length = lev w U D (c + 1) := by
  unfold grT
  rw [List.take_length]
  rfl
theorem grT_nodup (w : Nat) (U D : Nat → Bool) (c i : Nat) : (grT w U D c i).Nodup := fold_nodup (by simp)
theorem grT_in {w : Nat} {U D : Nat → Bool} {c i i' k a : Nat} (hi : i' < i) (hl : i' < (lev w U D c).length) (hk : k < 3) (h : Tk w U D c ((lev w U D c).getD i' 0) k = some a) : a ∈ grT w U D c i := by
  unfold grT gr
  rw [fold_mem]
  refine Or.inr ⟨(lev w U D c).getD i' 0, ?_, k, hk, h⟩
  rw [List.getD_eq_getElem?_getD, List.getElem?_eq_getElem hl]
  simp only [Option.getD_some]
  rw [List.mem_take_iff_getElem]
  exact ⟨i', by omega, rfl⟩
theorem pa_sub {w : Nat} {U D : Nat → Bool} {c i k a : Nat} (hl : i < (lev w U D c).length) (hk : k ≤ 3) (h : a ∈ pa w U D c (grT w U D c i) ((lev w U D c).getD i 0) k) : a ∈ lev w U D (c + 1) := by
  rw [lev_mem]
  rcases pa_mem.mp h with h | ⟨j, hj, e⟩
  · unfold grT gr at h
    rw [fold_mem] at h
    rcases h with h | ⟨m, hm, q⟩
    · cases h
    · exact ⟨m, List.mem_of_mem_take hm, q⟩
  · exact ⟨_, getD_mem hl, j, by omega, e⟩
def P4 : Nat → Prop := fun p => p = 2 ∨ p = 18 ∨ p = 19 ∨ p = 23
theorem s_build_71 {w h : Nat} {U D : Nat → Bool} {c i : Nat} (hc : c < w * h) (hi : i < (lev w U D c).length) (k56 : Int32 → Int32 → St → Option (Unit × St)) :
    ∀ (n k : Nat) (σ : St), k ≤ 3 → 3 - k < n → CG σ w h U D → BC σ w U D c i k (pa w U D c (grT w U D c i) ((lev w U D c).getD i 0) k) →
    ∃ σ', f_X3_build_71 k56 n (nI c) (nI (fs w U D c + i)) (nI k) σ = k56 (nI c) (nI (fs w U D c + i + 1)) σ' ∧ BC σ' w U D c i 3 (pa w U D c (grT w U D c i) ((lev w U D c).getD i 0) 3) ∧ σ'.2 = σ.2 ∧ eqx P4 σ σ' := by
  intro n
  induction n with
  | zero => intro k σ h1 h2; omega
  | succ n ih =>
    intro k σ h1 h2 g hB
    obtain ⟨hw1, hw8, hh1, hh8, -⟩ := id g
    have har := area_le hw8 hh8
    have hfs := fs_le (U := U) (D := D) hw1 hw8 (c + 1)
    have hfe := fs_succ w U D c
    have hmem := getD_mem hi
    have hmw := lev_lt hw1 hmem
    have h256 := pow_256 hw8
    rw [f_X3_build_71]
    by_cases hk : 3 ≤ k
    · have e : k = 3 := by omega
      subst e
      rw [if_pos (show (3 : Int32) ≤ nI 3 by decide), nI_1]
      exact ⟨σ, rfl, hB, rfl, eqx.rf⟩
    · have hk3 : k < 3 := by omega
      obtain ⟨⟨b1, b2, b3⟩, b4, b5, b6⟩ := id hB
      rw [if_neg (show ¬ (3 : Int32) ≤ nI k from nI_ge (a := k) (b := 3) (by omega) (by decide)), rdI_at _ _ (show fs w U D c + i < len 18 by show _ < 4550; omega) (by decide), b2 c (Nat.le_refl _) i hi, bd_at (s_openAfter g hc hmw hk3)]
      have ei : nI (fs w U D c + i) * (3 : Int32) + nI k = nI (3 * (fs w U D c + i) + k) := by rw [show (3 : Int32) = nI 3 from rfl, nI_mul, nI_add, Nat.mul_comm]
      have hin : 3 * (fs w U D c + i) + k < len 19 := by show _ < 13650; omega
      have hnd := pa_nodup (w := w) (U := U) (D := D) (c := c) (m := (lev w U D c).getD i 0) (grT_nodup w U D c i) k
      have hold : ∀ i', i' < i → ∀ k', k' < 3 → ∀ a, Tk w U D c ((lev w U D c).getD i' 0) k' = some a → a ∈ pa w U D c (grT w U D c i) ((lev w U D c).getD i 0) k := fun i' hi' k' hk' a ha => pa_mem.mpr (Or.inl (grT_in hi' (by omega) hk' ha))
      have hnow : ∀ k', k' < k → ∀ a, Tk w U D c ((lev w U D c).getD i 0) k' = some a → a ∈ pa w U D c (grT w U D c i) ((lev w U D c).getD i 0) k := fun k' hk' a ha => pa_mem.mpr (Or.inr ⟨k', hk', ha⟩)
      -- behind the node's number is known
      have fin : ∀ (τ : St) (v : Int32), v = nx w U D (pa w U D c (grT w U D c i) ((lev w U D c).getD i 0) (k + 1)) c ((lev w U D c).getD i 0) k → RT τ (fs w U D (c + 1)) (pa w U D c (grT w U D c i) ((lev w U D c).getD i 0) (k + 1)) → τ.2 = σ.2 → eqx (fun p => p = 2 ∨ p = 18 ∨ p = 23) σ τ → (∀ q, q < fs w U D (c + 1) → gi τ 18 q = gi σ 18 q) →
          ∃ σ', f_X3_build_71 k56 n (nI c) (nI (fs w U D c + i)) (nI k + 1) (si τ 19 (3 * (fs w U D c + i) + k) v) = k56 (nI c) (nI (fs w U D c + i + 1)) σ' ∧ BC σ' w U D c i 3 (pa w U D c (grT w U D c i) ((lev w U D c).getD i 0) 3) ∧ σ'.2 = σ.2 ∧ eqx P4 σ σ' := by
        intro τ v hv hRT h2 he h18
        have heq : eqx P4 σ (si τ 19 (3 * (fs w U D c + i) + k) v) := (he.mono (fun p hp => by
          rcases hp with rfl | rfl | rfl
          · exact Or.inl rfl
          · exact Or.inr (Or.inl rfl)
          · exact Or.inr (Or.inr (Or.inr rfl)))).si (Or.inr (Or.inr (Or.inl rfl)))
        have e19 : ∀ q, q ≠ 3 * (fs w U D c + i) + k → gi (si τ 19 (3 * (fs w U D c + i) + k) v) 19 q = gi σ 19 q := fun q hq => by
          rw [gi_si_ne _ _ _ _ (fun z => hq z.2)]
          exact (he 19 (by decide) q).1
        rw [nI_1]
        obtain ⟨σ', f1, f2, f3, f4⟩ := ih (k + 1) (si τ 19 (3 * (fs w U D c + i) + k) v) (by omega) (by omega) (g.keep heq (by unfold P4; decide)) ⟨⟨fun j hj => by
            rw [gi_si_ne _ _ _ _ (by omega), (he 17 (by decide) j).1]; exact b1 j hj, fun j hj i' hi' => by
            have hm1 := fs_mono w U D (show j + 1 ≤ c + 1 by omega)
            rw [fs_succ] at hm1
            rw [gi_si_ne _ _ _ _ (by omega), h18 _ (by omega)]; exact b2 j hj i' hi', fun j hj i' hi' k' hk' => by
            have hm1 := fs_mono w U D (show j + 1 ≤ c by omega)
            rw [fs_succ] at hm1
            rw [e19 _ (by omega)]; exact b3 j hj i' hi' k' hk'⟩, ⟨fun m hm => by
            rw [gi_si_ne _ _ _ _ (by omega)]; exact hRT.1 m hm, by
            rw [gi_si_ne _ _ _ _ (by omega)]; exact hRT.2.1, fun i' hi' => by
            rw [gi_si_ne _ _ _ _ (by omega)]; exact hRT.2.2 i' hi'⟩, fun i' hi' k' hk' => by
            rw [e19 _ (by omega), b5 i' hi' k' hk']
            exact (nx_add _ (hold i' hi' k' hk')).symm, fun k' hk' => by
            by_cases hq : k' = k
            · subst hq; rw [gi_si_same, hv]
            · rw [e19 _ (by omega), b6 k' (by omega)]
              exact (nx_add _ (hnow k' (by omega))).symm⟩
        exact ⟨σ', f1, f2, by rw [f3]; exact h2, eqx.tr heq f4⟩
      cases ht : Tk w U D c ((lev w U D c).getD i 0) k with
      | none =>
        rw [show oG none = -1 from rfl, bd_at (s_nodeFor_none σ), ei, wrI_at _ _ _ hin (by decide)]
        have epa : pa w U D c (grT w U D c i) ((lev w U D c).getD i 0) (k + 1) = pa w U D c (grT w U D c i) ((lev w U D c).getD i 0) k := by
          show addL _ (Tk w U D c ((lev w U D c).getD i 0) k) = _
          rw [ht]
          rfl
        refine fin σ (-1) ?_ (by rw [epa]; exact b4) rfl eqx.rf (fun _ _ => rfl)
        unfold nx
        rw [ht]
      | some a =>
        have haw := Tk_lt hw1 hmw ht
        have epa : pa w U D c (grT w U D c i) ((lev w U D c).getD i 0) (k + 1) = addL (pa w U D c (grT w U D c i) ((lev w U D c).getD i 0) k) (some a) := by
          show addL _ (Tk w U D c ((lev w U D c).getD i 0) k) = _
          rw [ht]
        have hlen : ∀ r : List Nat, r.Nodup → (∀ x, x ∈ r → x ∈ lev w U D (c + 1)) → r.length ≤ 70 := fun r h3 h4 => Nat.le_trans (sub_len h3 h4) (lev_len hw1 hw8 (c + 1))
        have l1 := hlen _ hnd (fun x hx => pa_sub hi (by omega) hx)
        have l2 := hlen _ (pa_nodup (w := w) (U := U) (D := D) (c := c) (m := (lev w U D c).getD i 0) (grT_nodup w U D c i) (k + 1)) (fun x hx => pa_sub hi (by omega) hx)
        obtain ⟨τ, t1, t2, t3, t4, t5⟩ := s_nodeFor (σ := σ) (base := fs w U D (c + 1)) (m := a) (l := pa w U D c (grT w U D c i) ((lev w U D c).getD i 0) k) (by omega) (fun hna => by
          have e2 : (addL (pa w U D c (grT w U D c i) ((lev w U D c).getD i 0) k) (some a)).length = (pa w U D c (grT w U D c i) ((lev w U D c).getD i 0) k).length + 1 := by
            show (if a ∈ pa w U D c (grT w U D c i) ((lev w U D c).getD i 0) k then _ else _ : List Nat).length = _
            rw [if_neg hna, List.length_append]
            rfl
          rw [epa, e2] at l2
          omega) (by omega) b4
        rw [show oG (some a) = nI a from rfl, bd_at t1, ei, wrI_at _ _ _ hin (by decide)]
        refine fin τ _ ?_ (by rw [epa]; exact t2) t3 t4 (fun q hq => t5 q (by omega))
        unfold nx
        rw [ht, epa]
def P5 : Nat → Prop := fun p => p = 2 ∨ p = 17 ∨ p = 18 ∨ p = 19 ∨ p = 23
theorem P4_5 (p : Nat) (h : P4 p) : P5 p := by
  rcases h with h | h | h | h
  · exact Or.inl h
  · exact Or.inr (Or.inr (Or.inl h))
  · exact Or.inr (Or.inr (Or.inr (Or.inl h)))
  · exact Or.inr (Or.inr (Or.inr (Or.inr h)))
theorem s_build_56 {w h : Nat} {U D : Nat → Bool} {c : Nat} (hc : c < w * h) (k21 : Int32 → St → Option (Unit × St)) :
    ∀ (n i : Nat) (σ : St), i ≤ (lev w U D c).length → (lev w U D c).length - i < n → CG σ w h U D → BC σ w U D c i 0 (grT w U D c i) →
    ∃ σ', f_X3_build_56 k21 n (nI c) (nI (fs w U D c + i)) σ = k21 (nI (c + 1)) σ' ∧ BA σ' w U D (c + 1) (c + 1) ∧ gi σ' 2 7 = nI (fs w U D (c + 2)) ∧ σ'.2 = σ.2 ∧ eqx P4 σ σ' := by
  intro n
  induction n with
  | zero => intro i σ h1 h2; omega
  | succ n ih =>
    intro i σ h1 h2 g hB
    obtain ⟨hw1, hw8, hh1, hh8, -⟩ := id g
    have har := area_le hw8 hh8
    have hfs := fs_le (U := U) (D := D) hw1 hw8 (c + 1)
    have hfe := fs_succ w U D c
    obtain ⟨⟨b1, b2, b3⟩, b4, b5, b6⟩ := id hB
    rw [f_X3_build_56, nI_1, rdI_at _ _ (show c + 1 < len 17 by show _ < 66; omega) (by decide), b1 (c + 1) (Nat.le_refl _)]
    by_cases hi : i < (lev w U D c).length
    · rw [if_neg (nI_ge (by omega) (by omega))]
      obtain ⟨τ, t1, t2, t3, t4⟩ := s_build_71 hc hi (f_X3_build_56 k21 n) FU 0 σ (by decide) (by decide) g hB
      rw [show nI 0 = 0 from rfl] at t1
      rw [t1]
      obtain ⟨q1, q2, q3, q4⟩ := t2
      rw [← grT_succ hi] at q2 q3 q4
      obtain ⟨σ', f1, f2, f3, f4, f5⟩ := ih (i + 1) τ (by omega) (by omega) (g.keep t4 (by unfold P4; decide)) ⟨q1, q2, fun i' hi' k' hk' => by
        by_cases he : i' = i
        · subst he; exact q4 k' hk'
        · exact q3 i' (by omega) k' hk', fun k' hk' => by omega⟩
      exact ⟨σ', f1, f2, f3, f4.trans t3, eqx.tr t4 f5⟩
    · have e : i = (lev w U D c).length := by omega
      subst e
      rw [if_pos (nI_le (by omega) (by omega))]
      rw [grT_all] at b4 b5
      refine ⟨σ, rfl, ⟨b1, fun j hj i' hi' => ?_, fun j hj i' hi' k hk => ?_⟩, ?_, rfl, eqx.rf⟩
      · by_cases hjc : j = c + 1
        · subst hjc; exact b4.2.2 i' hi'
        · exact b2 j (by omega) i' hi'
      · by_cases hjc : j = c
        · subst hjc; exact b5 i' hi' k hk
        · exact b3 j (by omega) i' hi' k hk
      · rw [b4.2.1, fs_succ w U D (c + 1)]
/-- what build has made before it counts -/
def Built (σ : St) (w h : Nat) (U D : Nat → Bool) : Prop := (∀ j, j ≤ w * h + 1 → gi σ 17 j = nI (fs w U D j)) ∧ (∀ j, j ≤ w * h → ∀ i, i < (lev w U D j).length → gi σ 18 (fs w U D j + i) = nI ((lev w U D j).getD i 0)) ∧ (∀ j, j < w * h → ∀ i, i < (lev w U D j).length → ∀ k, k < 3 → gi σ 19 (3 * (fs w U D j + i) + k) = nx w U D (lev w U D (j + 1)) j ((lev w U D j).getD i 0) k) ∧ gi σ 2 7 = nI (fs w U D (w * h + 1))
theorem s_build_21 {w h : Nat} {U D : Nat → Bool} : ∀ (n c : Nat) (σ : St), c ≤ w * h → w * h - c < n → CG σ w h U D → BA σ w U D c c → gi σ 2 7 = nI (fs w U D (c + 1)) →
    ∃ σ', Built σ' w h U D ∧ σ'.2 = σ.2 ∧ eqx P5 σ σ' ∧ f_X3_build_21 n (nI c) σ = bd (f_X3_countOnward σ') fun _ σ3 => bd (f_X3_countHither σ3) fun _ σ5 => some ((), σ5) := by
  intro n
  induction n with
  | zero => intro c σ h1 h2; omega
  | succ n ih =>
    intro c σ h1 h2 g hB hn
    obtain ⟨hw1, hw8, hh1, hh8, -, -, e2, -⟩ := id g
    have har := area_le hw8 hh8
    rw [f_X3_build_21, e2]
    by_cases hc : w * h ≤ c
    · have e : c = w * h := by omega
      subst e
      rw [if_pos (nI_le hc (by omega)), nI_1, wrI_at _ _ _ (show w * h + 1 < len 17 by show _ < 66; omega) (by decide), hn]
      refine ⟨si σ 17 (w * h + 1) (nI (fs w U D (w * h + 1))), ⟨fun j hj => ?_, fun j hj i hi => ?_, fun j hj i hi k hk => ?_, ?_⟩, rfl, eqx.si eqx.rf (Or.inr (Or.inl rfl)), rfl⟩
      · by_cases hj2 : j = w * h + 1
        · subst hj2; rw [gi_si_same]
        · rw [gi_si_ne _ _ _ _ (by omega)]; exact hB.1 j (by omega)
      · rw [gi_si_ne _ _ _ _ (by omega)]; exact hB.2.1 j hj i hi
      · rw [gi_si_ne _ _ _ _ (by omega)]; exact hB.2.2 j hj i hi k hk
      · rw [gi_si_ne _ _ _ _ (by omega)]; exact hn
    · have hc' : c < w * h := by omega
      rw [if_neg (nI_ge hc' (by omega)), nI_1, wrI_at _ _ _ (show c + 1 < len 17 by show _ < 66; omega) (by decide), hn]
      have hfill : f_J7_fill_53178 23 (-1) (si σ 17 (c + 1) (nI (fs w U D (c + 1)))) = some ((), fill (si σ 17 (c + 1) (nI (fs w U D (c + 1)))) 23 0 256 (fun _ => -1)) := s_fill (p := 23) (-1) (by decide) FU 0 _ (Nat.zero_le _) (by decide)
      rw [bd_at hfill]
      generalize hτ : fill (si σ 17 (c + 1) (nI (fs w U D (c + 1)))) 23 0 256 (fun _ => -1) = τ
      have hg : ∀ q j, gi τ q j = if q = 23 ∧ 0 ≤ j ∧ j < 256 then -1 else if q = 17 ∧ j = c + 1 then nI (fs w U D (c + 1)) else gi σ q j := fun q j => by rw [← hτ]; rfl
      have ht2 : τ.2 = σ.2 := by rw [← hτ]; rfl
      have heq : eqx P5 σ τ := fun p hp k => ⟨by rw [hg, if_neg (fun z => hp (Or.inr (Or.inr (Or.inr (Or.inr z.1))))), if_neg (fun z => hp (Or.inr (Or.inl z.1)))], by unfold gl; rw [ht2]⟩
      have h17 : ∀ j, j ≤ c + 1 → gi τ 17 j = nI (fs w U D j) := fun j hj => by
        rw [hg, if_neg (by omega)]
        by_cases hj2 : j = c + 1
        · subst hj2; rw [if_pos ⟨rfl, rfl⟩]
        · rw [if_neg (by omega)]; exact hB.1 j (by omega)
      rw [rdI_at _ _ (show c < len 17 by show _ < 66; omega) (by decide), h17 c (by omega)]
      obtain ⟨υ, u1, u2, u3, u4, u5⟩ := s_build_56 hc' (f_X3_build_21 n) FU 0 τ (Nat.zero_le _) (by have := lev_len (U := U) (D := D) hw1 hw8 c; unfold FU; omega) (g.keep heq (by unfold P5; decide)) ⟨⟨h17, fun j hj i hi => by rw [hg, if_neg (by omega), if_neg (by omega)]; exact hB.2.1 j hj i hi, fun j hj i hi k hk => by rw [hg, if_neg (by omega), if_neg (by omega)]; exact hB.2.2 j hj i hi k hk⟩, ⟨fun m hm => by
          rw [hg, if_pos ⟨rfl, Nat.zero_le _, hm⟩]
          rfl, by
          rw [hg, if_neg (by omega), if_neg (by omega)]
          exact hn, fun i hi => by cases hi⟩, fun i' hi' => by omega, fun k' hk' => by omega⟩
      rw [Nat.add_zero] at u1
      rw [u1]
      have heq2 : eqx P5 σ υ := eqx.tr heq (u5.mono P4_5)
      obtain ⟨σ', f1, f2, f3, f4⟩ := ih (c + 1) υ (by omega) (by omega) (g.keep heq2 (by unfold P5; decide)) u2 u3
      exact ⟨σ', f1, f2.trans (u4.trans ht2), eqx.tr heq2 f3, f4⟩
theorem s_build_made {σ : St} {w h : Nat} {U D : Nat → Bool} (g : CG σ w h U D) : ∃ σ', Built σ' w h U D ∧ σ'.2 = σ.2 ∧ eqx P5 σ σ' ∧ f_X3_build σ = bd (f_X3_countOnward σ') fun _ σ3 => bd (f_X3_countHither σ3) fun _ σ5 => some ((), σ5) := by
  unfold f_X3_build
  rw [fI_at, show (0 : Int32) = nI 0 from rfl, wrI_at _ _ _ (show 0 < len 17 by decide) (by decide), wrI_at _ _ _ (show 0 < len 18 by decide) (by decide)]
  generalize hτ : si (si (si σ 2 7 1) 17 0 (nI 0)) 18 0 (nI 0) = τ
  have hg : ∀ q j, gi τ q j = if q = 18 ∧ j = 0 then nI 0 else if q = 17 ∧ j = 0 then nI 0 else if q = 2 ∧ j = 7 then 1 else gi σ q j := fun q j => by rw [← hτ]; rfl
  have heq : eqx P5 σ τ := by
    rw [← hτ]
    exact eqx.si (eqx.si (eqx.si eqx.rf (Or.inl rfl)) (Or.inr (Or.inl rfl))) (Or.inr (Or.inr (Or.inl rfl)))
  obtain ⟨σ', f1, f2, f3, f4⟩ := s_build_21 FU 0 τ (Nat.zero_le _) (by have := area_le g.2.1 g.2.2.2.1; unfold FU; omega) (g.keep heq (by unfold P5; decide)) ⟨fun j hj => by
      have : j = 0 := by omega
      subst this
      rw [hg]; rfl, fun j hj i hi => by
      have : j = 0 := by omega
      subst this
      have hi0 : i = 0 := by
        simp [lev] at hi
        exact hi
      subst hi0
      rw [hg]; rfl, fun j hj => by omega⟩ (by rw [hg]; rfl)
  exact ⟨σ', f1, by rw [f2, ← hτ]; rfl, eqx.tr heq f3, f4⟩
