/-! ===== HALF 2: waysAhead of the class ===== -/
theorem jmax_k {U : Nat → Bool} {K : Nat → Nat} {c : Nat} (hK : U c = true → K c < 3) : jmax 0 (if U c = true then nI (K c) else -1) = nI (kc U c (K c)) := by
  unfold jmax kc
  cases hU : U c with
  | false => rfl
  | true =>
    have := hK hU
    rw [if_pos rfl, if_pos rfl]
    rcases (show K c = 0 ∨ K c = 1 ∨ K c = 2 by omega) with e | e | e <;> rw [e] <;> decide
theorem s_wa37 {σ : St} {q w h : Nat} {U D : Nat → Bool} (g : CG σ w h U D) (s : SK σ w h U D) {c m K a : Nat} (hc : c < w * h) (hm : m ∈ lev w U D c) (hK : K < 3) (ht : Tk w U D c m K = some a) (h0 : Wr w U D (w * h - (c + 1)) (c + 1) a ≠ 0) (k8 : Nat → Int64 → Int32 → Int32 → St → Option (Int64 × St)) (acc : Nat) :
    ∀ (n k : Nat), k ≤ K → K - k < n → f_X3_waysAhead_37 k8 n q (lN (acc + sm (gK w U D (w * h) c m) k)) (nI (nd w U D c m)) (nI c) (nI K) (nI k) σ = k8 q (lN (acc + sm (gK w U D (w * h) c m) K)) (nI (nd w U D (c + 1) a)) (nI (c + 1)) σ := by
  intro n
  induction n with
  | zero => intro k h1 h2; omega
  | succ n ih =>
    intro k h1 h2
    rw [f_X3_waysAhead_37]
    by_cases hk : K ≤ k
    · have e : k = K := by omega
      rw [if_pos (nI_le hk (by omega)), rd_next g s hc hm hK, nxp_some ht h0, nI_1, e]
    · rw [if_neg (nI_ge (by omega) (by omega)), bd_at (s_onwardBy g s hc hm (by omega)), nI_1, lN_add, Nat.add_assoc]
      exact ih (k + 1) (by omega) (by omega)
theorem s_wa8 {σ : St} {q w h : Nat} {U D : Nat → Bool} (g : CG σ w h U D) (s : SK σ w h U D) {K : Nat → Nat} (hI : IsL w U D (w * h) K) (hL : LC σ q (w * h) U K) :
    ∀ (n c : Nat), c ≤ w * h → w * h - c < n → f_X3_waysAhead_8 n q (lN (PL w U D (w * h) K c)) (nI (nd w U D c ((Rn w U D K c).getD 0))) (nI c) σ = some (lN (PL w U D (w * h) K (w * h)), σ) := by
  have har := area_le g.2.1 g.2.2.2.1
  intro n
  induction n with
  | zero => intro c h1 h2; omega
  | succ n ih =>
    intro c h1 h2
    rw [f_X3_waysAhead_8, g.2.2.2.2.2.2.1]
    by_cases hc : w * h ≤ c
    · have e : c = w * h := by omega
      rw [if_pos (nI_le hc (by omega)), e]
      rfl
    · have hc' : c < w * h := by omega
      obtain ⟨a, r1, r0⟩ := IsL_at hI (w * h - (c + 1)) (c + 1) (by omega)
      obtain ⟨m, r2, r3⟩ := Rn_back r1
      have hm := Rn_lev hI.2 h1 r2
      have hn := nd_lt g.1 g.2.1 hm
      obtain ⟨t1, t2⟩ := Tk_kc (hI.2 c hc') r3
      have hkd := (Tr_kind (hI.2 c hc') r3).1
      rw [if_neg (nI_ge hc' (by omega)), r2, show (some m).getD 0 = m from rfl, if_neg (nI_pos (by omega)), bd_at (s_kindAt hL (by omega) hc' hkd), jmax_k hkd]
      have h37 := s_wa37 (q := q) g s hc' hm t2 t1 r0 (f_X3_waysAhead_8 n) (PL w U D (w * h) K c) FU 0 (Nat.zero_le _) (by unfold FU; omega)
      rw [show sm (gK w U D (w * h) c m) 0 = 0 from rfl, Nat.add_zero, show nI 0 = 0 from rfl, sm_gK (hI.2 c hc') r3] at h37
      rw [h37]
      have key := ih (c + 1) (by omega) (by omega)
      rw [r1, show PL w U D (w * h) K (c + 1) = PL w U D (w * h) K c + sm (fK w U D (w * h) c ((Rn w U D K c).getD 0)) (K c) from rfl, r2] at key
      exact key
theorem s_waysAhead {σ : St} {q w h : Nat} {U D : Nat → Bool} (g : CG σ w h U D) (s : SK σ w h U D) {K : Nat → Nat} (hI : IsL w U D (w * h) K) (hL : LC σ q (w * h) U K) : f_X3_waysAhead q σ = some (lN (PL w U D (w * h) K (w * h)), σ) := by
  have har := area_le g.2.1 g.2.2.2.1
  exact s_wa8 g s hI hL FU 0 (Nat.zero_le _) (by unfold FU; omega)
