/-! ===== HALF 2: the class's steps as a whole ===== -/
theorem sm_shift (f : Nat → Nat) (n : Nat) : sm f (n + 1) = f 0 + sm (fun i => f (i + 1)) n := by
  rw [Nat.add_comm n 1, sm_split]
  have h1 : sm f 1 = f 0 := by show 0 + f 0 = f 0; omega
  rw [h1]
  congr 1
  exact sm_congr (fun i _ => by rw [Nat.add_comm 1 i])
theorem sm_list {B : Nat} : ∀ {l : List Nat} {f : Nat → Nat}, l.Nodup → (∀ a, a ∈ l → a < B) → (∀ m, m < B → m ∉ l → f m = 0) → sm f B = sm (fun i => f (l.getD i 0)) l.length
  | [], f, _, _, h => sm_all0 (fun i hi => h i hi (by simp))
  | a :: l, f, hn, hb, h => by
    rw [List.nodup_cons] at hn
    have ha := hb a (by simp)
    have ih := sm_list (l := l) (f := fun m => if m = a then 0 else f m) hn.2 (fun b hb' => hb b (by simp [hb'])) (fun m hm hml => by
      by_cases e : m = a
      · simp [e]
      · simp only [if_neg e]
        exact h m hm (by simp [e, hml]))
    have e1 : sm f B = sm (fun m => if m = a then f a else 0) B + sm (fun m => if m = a then 0 else f m) B := by
      rw [← sm_add]
      refine sm_congr (fun m _ => ?_)
      by_cases e : m = a
      · subst e; simp
      · simp [e]
    rw [e1, ih, sm_one ha (fun i _ hi => by rw [if_neg hi]), if_pos rfl, List.length_cons, sm_shift]
    congr 1
    refine sm_congr (fun i hi => ?_)
    have hm : l.getD i 0 ∈ l := getD_mem hi
    have hne : l.getD i 0 ≠ a := fun z => hn.1 (z ▸ hm)
    show (if l.getD i 0 = a then 0 else f (l.getD i 0)) = f ((a :: l).getD (i + 1) 0)
    rw [if_neg hne]
    simp
theorem sm_Tk (w : Nat) (U D : Nat → Bool) (c m m' v : Nat) : sm (fun k => if Tk w U D c m k = some m' then v else 0) 3 = sm (fun k => if Tr w U D c m k = some m' then v else 0) 4 := by
  rw [sm4]
  show 0 + _ + _ + _ = _
  unfold Tk
  cases hU : U c with
  | true => simp [Tr_in3 hU]
  | false => simp [Tr_out hU (k := 0) (by decide), Tr_out hU (k := 1) (by decide), Tr_out hU (k := 2) (by decide)]
theorem Cm_off {w : Nat} {U D : Nat → Bool} : ∀ {c m : Nat}, m ∉ lev w U D c → Cm w U D c m = 0
  | 0, m, h => by
    show (if m = 0 then 1 else 0) = 0
    rw [if_neg (fun z => h (by simp [lev, z]))]
  | c + 1, m', h => by
    rw [Cm_succ]
    refine sm_all0 (fun m _ => ?_)
    rw [← sm_Tk]
    refine sm_all0 (fun k hk => ?_)
    by_cases e : Tk w U D c m k = some m'
    · rw [if_pos e]
      exact Cm_off (fun z => h (lev_mem.mpr ⟨m, z, k, hk, e⟩))
    · rw [if_neg e]
theorem Cm_lev {w : Nat} {U D : Nat → Bool} (hw : 1 ≤ w) (c m' : Nat) : Cm w U D (c + 1) m' = sm (fun i => sm (fun k => if Tk w U D c ((lev w U D c).getD i 0) k = some m' then Cm w U D c ((lev w U D c).getD i 0) else 0) 3) (lev w U D c).length := by
  rw [Cm_succ, sm_list (lev_nodup w U D c) (fun a ha => lev_lt hw ha) (fun m _ hm => by rw [Cm_off hm]; exact sm_all0 (fun k _ => by simp))]
  exact sm_congr (fun i _ => (sm_Tk w U D c _ m' _).symm)
theorem Wr_up {w : Nat} {U D : Nat → Bool} {N j m k a : Nat} (hj : j < N) (hk : k < 3) (ht : Tk w U D j m k = some a) (h : Wr w U D (N - (j + 1)) (j + 1) a ≠ 0) : Wr w U D (N - j) j m ≠ 0 := by
  rw [show N - j = N - (j + 1) + 1 by omega, Wr_Tk]
  have h1 := sm_term (f := fun k => ov (Tk w U D j m k) (Wr w U D (N - (j + 1)) (j + 1))) hk
  simp only [ht] at h1
  have h2 : ov (some a) (Wr w U D (N - (j + 1)) (j + 1)) = Wr w U D (N - (j + 1)) (j + 1) a := rfl
  omega
theorem Hm_Cm {w : Nat} {U D : Nat → Bool} (hw : 1 ≤ w) {N : Nat} : ∀ {j m : Nat}, j ≤ N → Wr w U D (N - j) j m ≠ 0 → Hm w U D N j m = Cm w U D j m
  | 0, m, _, _ => rfl
  | j + 1, m', hj, h => by
    rw [Cm_lev hw]
    show sm _ _ = _
    refine sm_congr (fun i hi => sm_congr (fun k hk => ?_))
    unfold eE
    by_cases e : Tk w U D j ((lev w U D j).getD i 0) k = some m'
    · rw [if_pos ⟨e, h⟩, if_pos e]
      exact Hm_Cm hw (by omega) (Wr_up (by omega) hk e h)
    · rw [if_neg e, if_neg (fun z => e z.1)]
/-- the steps stand -/
def SK (σ : St) (w h : Nat) (U D : Nat → Bool) : Prop := (∀ j, j ≤ w * h + 1 → gi σ 17 j = nI (fs w U D j)) ∧ (∀ j, j ≤ w * h → ∀ i, i < (lev w U D j).length → gi σ 18 (fs w U D j + i) = nI ((lev w U D j).getD i 0)) ∧ NX σ w h U D ∧ (∀ j, j ≤ w * h → ∀ i, i < (lev w U D j).length → gl σ 20 (fs w U D j + i) = lN (Wr w U D (w * h - j) j ((lev w U D j).getD i 0))) ∧ (∀ j, j ≤ w * h → ∀ i, i < (lev w U D j).length → gl σ 21 (fs w U D j + i) = lN (Hm w U D (w * h) j ((lev w U D j).getD i 0))) ∧ gi σ 2 7 = nI (fs w U D (w * h + 1))
theorem SK.keep {P : Nat → Prop} {σ τ : St} {w h : Nat} {U D : Nat → Bool} (h0 : SK σ w h U D) (he : eqx P σ τ) (h1 : ¬ P 17 ∧ ¬ P 18 ∧ ¬ P 19 ∧ ¬ P 20 ∧ ¬ P 21 ∧ ¬ P 2) : SK τ w h U D := by
  obtain ⟨a1, a2, a3, a4, a5, a6⟩ := h0
  refine ⟨fun j hj => ?_, fun j hj i hi => ?_, fun j hj i hi k hk => ?_, fun j hj i hi => ?_, fun j hj i hi => ?_, ?_⟩
  · rw [(he _ h1.1 _).1]; exact a1 j hj
  · rw [(he _ h1.2.1 _).1]; exact a2 j hj i hi
  · rw [(he _ h1.2.2.1 _).1]; exact a3 j hj i hi k hk
  · rw [(he _ h1.2.2.2.1 _).2]; exact a4 j hj i hi
  · rw [(he _ h1.2.2.2.2.1 _).2]; exact a5 j hj i hi
  · rw [(he _ h1.2.2.2.2.2 _).1]; exact a6
def P6 : Nat → Prop := fun p => p = 2 ∨ (17 ≤ p ∧ p ≤ 21) ∨ p = 23
theorem s_build {σ : St} {w h : Nat} {U D : Nat → Bool} (g : CG σ w h U D) : ∃ σ', f_X3_build σ = some ((), σ') ∧ SK σ' w h U D ∧ eqx P6 σ σ' := by
  have har := area_le g.2.1 g.2.2.2.1
  obtain ⟨τ, b1, b2, b3, b4⟩ := s_build_made g
  have g1 := g.keep b3 (by unfold P5; decide)
  obtain ⟨υ, o1, o2, o3⟩ := s_countOnward g1 b1
  have g2 := g1.keep o3 (by decide)
  have hfs := fs_le (U := U) (D := D) g.1 g.2.1 (w * h + 1)
  have hN : NX υ w h U D := fun j hj i hi k hk => by rw [o2.2 j hj i hi k hk, if_pos (Nat.zero_le _)]
  obtain ⟨φ, h1, h2, h3, h4⟩ := s_hi2 g.1 g.2.1 g.2.2.2.1 FU 0 υ (Nat.zero_le _) (by unfold FU; omega) g2 (by rw [(o3 _ (by decide) _).1]; exact b1.1 _ (by omega)) (by rw [(o3 _ (by decide) _).1]; exact b1.2.2.2) hN (fun q hq => by omega)
  refine ⟨φ, ?_, ⟨fun j hj => ?_, fun j hj i hi => ?_, fun j hj i hi k hk => ?_, fun j hj i hi => ?_, fun j hj i hi => ?_, ?_⟩, ?_⟩
  · rw [b4, bd_at o1]
    exact bd_at (show f_X3_countHither υ = some ((), φ) from h1) _
  · rw [(h4 _ (by decide) _).1, (o3 _ (by decide) _).1]; exact b1.1 j hj
  · rw [(h4 _ (by decide) _).1, (o3 _ (by decide) _).1]; exact b1.2.1 j hj i hi
  · rw [(h4 _ (by decide) _).1]; exact hN j hj i hi k hk
  · rw [(h4 _ (by decide) _).2]; exact o2.1 j hj i hi (Nat.zero_le _)
  · rw [h2 j hj i hi, hv_full (fs_mono w U D hj)]
  · rw [(h4 _ (by decide) _).1, (o3 _ (by decide) _).1]; exact b1.2.2.2
  · refine eqx.tr (eqx.mono b3 (fun p hp => ?_)) (eqx.tr (eqx.mono o3 (fun p hp => ?_)) (eqx.mono h4 (fun p hp => ?_)))
    · unfold P5 at hp; unfold P6; omega
    · unfold P6; omega
    · unfold P6; omega
theorem s_total {σ : St} {w h : Nat} {U D : Nat → Bool} (s : SK σ w h U D) : f_X3_total σ = some (lN (Wr w U D (w * h) 0 0), σ) := by
  unfold f_X3_total
  rw [show (0 : Int32) = nI 0 from rfl, rdL_at _ _ (show 0 < len 20 by decide) (by decide)]
  have := s.2.2.2.1 0 (Nat.zero_le _) 0 (by simp [lev])
  rw [show fs w U D 0 + 0 = 0 from rfl, Nat.sub_zero] at this
  rw [this]
  rfl
theorem s_wt26 {w h : Nat} {U D : Nat → Bool} (hw1 : 1 ≤ w) (hw : w ≤ 8) (hh : h ≤ 8) {c k : Nat} (hc : c < w * h) (hk : k < 3) {σ : St} (s : SK σ w h U D) : ∀ (n i acc : Nat), i ≤ (lev w U D c).length → (lev w U D c).length - i < n →
    f_X3_waysThrough_26 n (nI c) (nI k) (lN acc) (nI (fs w U D c + i)) σ = some (lN (acc + sm (fun q => Cm w U D c ((lev w U D c).getD (i + q) 0) * ov (Tk w U D c ((lev w U D c).getD (i + q) 0) k) (Wr w U D (w * h - (c + 1)) (c + 1))) ((lev w U D c).length - i)), σ) := by
  have har := area_le hw hh
  have hfs := fs_le (U := U) (D := D) hw1 hw (c + 1)
  have hfs2 := fs_le (U := U) (D := D) hw1 hw (c + 1 + 1)
  have hfe := fs_succ w U D c
  have hfe2 := fs_succ w U D (c + 1)
  intro n
  induction n with
  | zero => intro i acc h1 h2; omega
  | succ n ih =>
    intro i acc h1 h2
    rw [f_X3_waysThrough_26, show (1 : Int32) = nI 1 from rfl, nI_add, rdI_at _ _ (show c + 1 < len 17 by show _ < 66; omega) (by decide), s.1 (c + 1) (by omega)]
    by_cases hi : (lev w U D c).length ≤ i
    · have e : i = (lev w U D c).length := by omega
      rw [if_pos (nI_le (by omega) (by omega)), e, Nat.sub_self]
      rfl
    · have hi' : i < (lev w U D c).length := by omega
      have ei : nI (fs w U D c + i) * (3 : Int32) + nI k = nI (3 * (fs w U D c + i) + k) := by rw [show (3 : Int32) = nI 3 from rfl, nI_mul, nI_add, Nat.mul_comm]
      rw [if_neg (nI_ge (by omega) (by omega)), ei, rdI_at _ _ (show 3 * (fs w U D c + i) + k < len 19 by show _ < 13650; omega) (by decide), s.2.2.1 c hc i hi' k hk]
      have hsum : sm (fun q => Cm w U D c ((lev w U D c).getD (i + q) 0) * ov (Tk w U D c ((lev w U D c).getD (i + q) 0) k) (Wr w U D (w * h - (c + 1)) (c + 1))) ((lev w U D c).length - i) = Cm w U D c ((lev w U D c).getD i 0) * ov (Tk w U D c ((lev w U D c).getD i 0) k) (Wr w U D (w * h - (c + 1)) (c + 1)) + sm (fun q => Cm w U D c ((lev w U D c).getD (i + 1 + q) 0) * ov (Tk w U D c ((lev w U D c).getD (i + 1 + q) 0) k) (Wr w U D (w * h - (c + 1)) (c + 1))) ((lev w U D c).length - (i + 1)) := by
        rw [show (lev w U D c).length - i = (lev w U D c).length - (i + 1) + 1 by omega, sm_shift]
        congr 1
        exact sm_congr (fun q _ => by rw [show i + (q + 1) = i + 1 + q by omega])
      rw [hsum]
      unfold f_X3_waysThrough_77
      have none' : Cm w U D c ((lev w U D c).getD i 0) * ov (Tk w U D c ((lev w U D c).getD i 0) k) (Wr w U D (w * h - (c + 1)) (c + 1)) = 0 → f_X3_waysThrough_26 n (nI c) (nI k) (lN acc) (nI (fs w U D c + i) + 1) σ = some (lN (acc + (Cm w U D c ((lev w U D c).getD i 0) * ov (Tk w U D c ((lev w U D c).getD i 0) k) (Wr w U D (w * h - (c + 1)) (c + 1)) + sm (fun q => Cm w U D c ((lev w U D c).getD (i + 1 + q) 0) * ov (Tk w U D c ((lev w U D c).getD (i + 1 + q) 0) k) (Wr w U D (w * h - (c + 1)) (c + 1))) ((lev w U D c).length - (i + 1)))), σ) := by
        intro h0
        rw [h0, Nat.zero_add, nI_1]
        exact ih (i + 1) acc (by omega) (by omega)
      cases ht : Tk w U D c ((lev w U D c).getD i 0) k with
      | none =>
        rw [show nxp w U D (w * h) c ((lev w U D c).getD i 0) k = -1 by unfold nxp; rw [ht], if_pos (by decide), ← ht]
        exact none' (by rw [ht]; rfl)
      | some a =>
        have ha := lev_Tk hi' hk ht
        have hix := ix_lt ha
        by_cases h0 : Wr w U D (w * h - (c + 1)) (c + 1) a = 0
        · rw [show nxp w U D (w * h) c ((lev w U D c).getD i 0) k = -1 by unfold nxp; rw [ht]; simp only [h0, if_true], if_pos (by decide), ← ht]
          exact none' (by rw [ht]; show _ * Wr w U D (w * h - (c + 1)) (c + 1) a = 0; rw [h0, Nat.mul_zero])
        · rw [show nxp w U D (w * h) c ((lev w U D c).getD i 0) k = nI (fs w U D (c + 1) + ix a (lev w U D (c + 1))) by unfold nxp; rw [ht]; simp only [h0, if_false], if_neg (nI_pos (by omega)), rdL_at _ _ (show fs w U D c + i < len 21 by show _ < 4550; omega) (by decide), rdL_at _ _ (show fs w U D (c + 1) + ix a (lev w U D (c + 1)) < len 20 by show _ < 4550; omega) (by decide)]
          rw [s.2.2.2.2.1 c (by omega) i hi', s.2.2.2.1 (c + 1) (by omega) _ hix, getD_ix ha, Hm_Cm hw1 (by omega) (Wr_up hc hk ht h0), lN_mul, lN_add, nI_1]
          rw [show fs w U D c + i + 1 = fs w U D c + (i + 1) from rfl, ih (i + 1) _ (by omega) (by omega)]
          show some (lN (_ + _ * _ + _), σ) = some (lN (_ + (_ * Wr w U D (w * h - (c + 1)) (c + 1) a + _)), σ)
          rw [Nat.add_assoc]
/-- waysThrough -/
theorem s_waysThrough {σ : St} {w h : Nat} {U D : Nat → Bool} (g : CG σ w h U D) (s : SK σ w h U D) {c k : Nat} (hc : c < w * h) (hk : k < 3) : f_X3_waysThrough (nI c) (nI k) σ = some (lN (if U c = true then With w U D (w * h - (c + 1)) c k else 0), σ) := by
  have har := area_le g.2.1 g.2.2.2.1
  have hfs := fs_le (U := U) (D := D) g.1 g.2.1 (c + 1)
  have hll := lev_len (U := U) (D := D) g.1 g.2.1 c
  unfold f_X3_waysThrough
  have hb := g.2.2.2.2.2.2.2.1 c (by omega)
  rw [rd_bit _ (show c < 64 by omega)]
  rw [hb]
  cases hU : U c with
  | false => rfl
  | true =>
    rw [if_neg (by decide), rdI_at _ _ (show c < len 17 by show _ < 66; omega) (by decide), s.1 c (by omega)]
    have := s_wt26 g.1 g.2.1 g.2.2.2.1 hc hk s FU 0 0 (Nat.zero_le _) (by unfold FU; omega)
    rw [show fs w U D c + 0 = fs w U D c from rfl, show lN 0 = 0 from rfl] at this
    rw [this, if_pos rfl, Nat.zero_add, Nat.sub_zero]
    congr 2
    unfold With
    rw [sm_list (lev_nodup w U D c) (fun a ha => lev_lt g.1 ha) (fun m _ hm => by rw [Cm_off hm, Nat.zero_mul])]
    congr 1
    exact sm_congr (fun i _ => by
      rw [Nat.zero_add]
      unfold Tk
      rw [if_pos hU])
