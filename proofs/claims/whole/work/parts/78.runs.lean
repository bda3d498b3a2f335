/-! ===== HALF 2: runs of TURNS one way; they end with the same one ===== -/
def UpN (w : Nat) (U D : Nat → Bool) (N : Nat) (t : Bool) : Nat → (Nat → Nat) → (Nat → Nat) → Prop
  | 0, K, M => K = M
  | n + 1, K, M => ∃ c, atP w U D N t K c ∧ UpN w U D N t n (tu w t K c) M
/-- no POINT can be turned that way -/
def NoP (w : Nat) (U D : Nat → Bool) (N : Nat) (t : Bool) (K : Nat → Nat) : Prop := ∀ c, ¬ atP w U D N t K c
section RUN
variable {w : Nat} {U D : Nat → Bool} {N : Nat} {t : Bool}
theorem UpN_snoc : ∀ {n : Nat} {K M : Nat → Nat} {c : Nat}, UpN w U D N t n K M → atP w U D N t M c → UpN w U D N t (n + 1) K (tu w t M c)
  | 0, K, M, c, h, hc => by
    have e : K = M := h
    subst e
    exact ⟨c, hc, rfl⟩
  | n + 1, K, M, c, h, hc => by
    obtain ⟨c0, h0, h1⟩ := h
    exact ⟨c0, h0, UpN_snoc h1 hc⟩
theorem UpN_app : ∀ {n m : Nat} {K M L : Nat → Nat}, UpN w U D N t n K M → UpN w U D N t m M L → UpN w U D N t (n + m) K L
  | 0, m, K, M, L, h, h2 => by
    have e : K = M := h
    subst e
    rw [Nat.zero_add]
    exact h2
  | n + 1, m, K, M, L, h, h2 => by
    obtain ⟨c0, h0, h1⟩ := h
    rw [show n + 1 + m = (n + m) + 1 by omega]
    exact ⟨c0, h0, UpN_app h1 h2⟩
theorem UpN_LL (hw : 1 ≤ w) : ∀ {n : Nat} {K M : Nat → Nat}, UpN w U D N t n K M → LL w U D N K → LL w U D N M
  | 0, K, M, h, hL => by
    have e : K = M := h
    subst e
    exact hL
  | n + 1, K, M, h, hL => by
    obtain ⟨c0, h0, h1⟩ := h
    exact UpN_LL hw h1 (tu_LL hw h0 hL)
theorem UpN_Phi (hw : 1 ≤ w) : ∀ {n : Nat} {K M : Nat → Nat}, UpN w U D N t n K M → Phi w N M + n * b1 (t = true) = Phi w N K + n * b1 (t = false)
  | 0, K, M, h => by
    have e : K = M := h
    subst e
    omega
  | n + 1, K, M, h => by
    obtain ⟨c0, h0, h1⟩ := h
    have h2 := UpN_Phi hw h1
    have h3 := Phi_tu hw h0
    rw [Nat.add_mul, Nat.add_mul]
    omega
/-- what is left to turn -/
def mea (w N : Nat) (t : Bool) (K : Nat → Nat) : Nat := if t then Phi w N K else 512 - Phi w N K
theorem mea_le (hw : w ≤ 8) (hN : N ≤ 64) (K : Nat → Nat) : mea w N t K ≤ 512 := by
  have := Phi_le hw hN K
  unfold mea
  split <;> omega
theorem UpN_mea (hw : 1 ≤ w) (hw8 : w ≤ 8) (hN : N ≤ 64) {n : Nat} {K M : Nat → Nat} (h : UpN w U D N t n K M) : mea w N t K = mea w N t M + n := by
  have h1 := UpN_Phi hw h
  have h2 := Phi_le hw8 hN K
  have h3 := Phi_le hw8 hN M
  unfold mea
  cases t
  · simp [b1] at h1 ⊢
    omega
  · simp [b1] at h1 ⊢
    omega
theorem UpN_first (hw : 1 ≤ w) : ∀ {n : Nat} {K M : Nat → Nat}, UpN w U D N t n K M → NoP w U D N t M → ∀ {c : Nat}, atP w U D N t K c → ∃ m, n = m + 1 ∧ UpN w U D N t m (tu w t K c) M
  | 0, K, M, h, hM, c, hc => by
    have e : K = M := h
    subst e
    exact absurd hc (hM c)
  | n + 1, K, M, h, hM, c, hc => by
    obtain ⟨c0, h0, h1⟩ := h
    by_cases e : c0 = c
    · subst e
      exact ⟨n, rfl, h1⟩
    · obtain ⟨t1, t2⟩ := tu_two hw h0 hc e
      obtain ⟨t3, -⟩ := tu_two hw hc h0 (fun q => e q.symm)
      obtain ⟨m, e1, e2⟩ := UpN_first hw h1 hM t1
      refine ⟨n, rfl, ?_⟩
      rw [e1]
      refine ⟨c0, t3, ?_⟩
      rw [← t2]
      exact e2
/-- whatever the order: as many turns, the same end -/
theorem UpN_same (hw : 1 ≤ w) : ∀ {n n' : Nat} {K M M' : Nat → Nat}, UpN w U D N t n K M → NoP w U D N t M → UpN w U D N t n' K M' → NoP w U D N t M' → n = n' ∧ M = M'
  | n, 0, K, M, M', h, hM, h', hM' => by
    have e : K = M' := h'
    subst e
    cases n with
    | zero => exact ⟨rfl, (show K = M from h).symm⟩
    | succ n =>
      obtain ⟨c0, h0, -⟩ := h
      exact absurd h0 (hM' c0)
  | n, n' + 1, K, M, M', h, hM, h', hM' => by
    obtain ⟨c0, h0, h1⟩ := h'
    obtain ⟨m, e1, e2⟩ := UpN_first hw h hM h0
    obtain ⟨e3, e4⟩ := UpN_same hw e2 hM h1 hM'
    exact ⟨by omega, e4⟩
theorem UpN_back (hw : 1 ≤ w) : ∀ {n : Nat} {K M : Nat → Nat}, UpN w U D N t n K M → UpN w U D N (!t) n M K
  | 0, K, M, h => by
    have e : K = M := h
    exact e.symm
  | n + 1, K, M, h => by
    obtain ⟨c0, h0, h1⟩ := h
    have h2 := UpN_back hw h1
    obtain ⟨t1, t2⟩ := tu_tu hw h0
    have h3 := UpN_snoc h2 t1
    rw [t2] at h3
    exact h3
theorem UpN_end (hw : 1 ≤ w) (hw8 : w ≤ 8) (hN : N ≤ 64) : ∀ (k : Nat) (K : Nat → Nat), mea w N t K ≤ k → ∃ n M, UpN w U D N t n K M ∧ NoP w U D N t M
  | k, K, hk => by
    by_cases h : NoP w U D N t K
    · exact ⟨0, K, rfl, h⟩
    · have h' : ∃ c, atP w U D N t K c := by
        apply Classical.byContradiction
        intro q
        exact h (fun c hc => q ⟨c, hc⟩)
      obtain ⟨c, hc⟩ := h'
      have h1 : UpN w U D N t 1 K (tu w t K c) := ⟨c, hc, rfl⟩
      have h2 := UpN_mea hw hw8 hN h1
      cases k with
      | zero => omega
      | succ k =>
        obtain ⟨n, M, e1, e2⟩ := UpN_end hw hw8 hN k (tu w t K c) (by omega)
        exact ⟨n + 1, M, ⟨c, hc, e1⟩, e2⟩
end RUN
/-! ===== the class's sets of POINTS ===== -/
theorem tb_inner {σ : St} {w h : Nat} {U D : Nat → Bool} (g : CG σ w h U D) {c : Nat} (hc : c < 64) : tb (innerL (gl σ 1 3) (gl σ 1 4) (gl σ 1 5) (gi σ 1 0)) c = innB w U D (w * h) c := by
  obtain ⟨g1, g2, g3, g4, g5, g6, g7, g8, g9, g10⟩ := g
  have har := area_le g2 g4
  unfold innerL innB
  rw [g5, show (1 : Int32) = nI 1 from rfl, nI_add]
  simp only [tb_and, tb_lshl _ (show 1 < 64 by decide), tb_lshl _ (show w < 64 by omega), tb_lshl _ (show w + 1 < 64 by omega)]
  rw [g10 c hc, g8 c hc, g8 (c - 1) (by omega), g8 (c - w) (by omega), g9 (c - 1) (by omega), g9 (c - w) (by omega), g9 (c - (w + 1)) (by omega)]
  unfold eastB
  by_cases h1 : c < w * h
  · by_cases h2 : c % w = 0
    · simp [h2]
    · by_cases h3 : w ≤ c
      · have h4 : w + 1 ≤ c := by
          rcases Nat.lt_or_ge w c with q | q
          · exact q
          · have : c = w := by omega
            rw [this, Nat.mod_self] at h2
            exact absurd rfl h2
        have h5 : 1 ≤ c := by omega
        rw [show c - (w + 1) = c - w - 1 by omega]
        simp [h1, h2, h3, h4, h5, hc, Bool.and_comm, Bool.and_left_comm, Bool.and_assoc]
      · simp [h3]
  · simp [h1]
/-- the ground's INNER points stand -/
def CI6 (σ : St) (w h : Nat) (U D : Nat → Bool) : Prop := ∀ c, c < 64 → tb (gl σ 1 6) c = innB w U D (w * h) c
/-- LOW (true), HIGH points as the class finds them -/
def ptsV (σ : St) (q : Nat) (t : Bool) : Int64 := if t then (((gl σ 1 6) &&& (gl σ q 2)) &&& (lshl (gl σ q 3) (1 : Int32))) &&& (lshl (gl σ q 1) (gi σ 1 0)) else (((gl σ 1 6) &&& (gl σ q 3)) &&& (lshl (gl σ q 1) (1 : Int32))) &&& (lshl (gl σ q 2) (gi σ 1 0))
theorem s_lows (q : Nat) (σ : St) : f_X2_lows q σ = some (ptsV σ q true, σ) := rfl
theorem s_highs (q : Nat) (σ : St) : f_X2_highs q σ = some (ptsV σ q false, σ) := rfl
theorem tb_pts {σ : St} {w h q : Nat} {U D : Nat → Bool} {K : Nat → Nat} (g : CG σ w h U D) (g6 : CI6 σ w h U D) (hL : LC σ q (w * h) U K) (t : Bool) {c : Nat} (hc : c < 64) : tb (ptsV σ q t) c = true ↔ atP w U D (w * h) t K c := by
  have hw : w < 64 := by have := g.2.1; omega
  have har := area_le g.2.1 g.2.2.2.1
  have L := fun i (hi : i < 64) => (⟨hL i hi 0 (by decide), hL i hi 1 (by decide), hL i hi 2 (by decide)⟩ : tb (gl σ q 1) i = decide (i < w * h ∧ U i = true ∧ K i = 0) ∧ tb (gl σ q 2) i = decide (i < w * h ∧ U i = true ∧ K i = 1) ∧ tb (gl σ q 3) i = decide (i < w * h ∧ U i = true ∧ K i = 2))
  unfold ptsV atP
  rw [g.2.2.2.2.1, show (1 : Int32) = nI 1 from rfl]
  cases t with
  | true =>
    rw [if_pos rfl]
    simp only [tb_and, tb_lshl _ (show 1 < 64 by decide), tb_lshl _ hw, g6 c hc, (L c hc).2.1, (L (c - 1) (by omega)).2.2, (L (c - w) (by omega)).1, Bool.and_eq_true, decide_eq_true_eq]
    constructor
    · rintro ⟨⟨⟨h1, h2⟩, h3⟩, h4⟩
      exact ⟨h1, h2.2.2, h3.2.2.2.2, h4.2.2.2.2⟩
    · rintro ⟨h1, h2, h3, h4⟩
      obtain ⟨i1, i2, i3, i4, i5, i6, i7, i8, i9⟩ := inn_of h1
      exact ⟨⟨⟨h1, i1, i6, h2⟩, hc, by omega, by omega, i7, h3⟩, hc, by omega, by omega, i8, h4⟩
  | false =>
    rw [if_neg (by decide)]
    simp only [tb_and, tb_lshl _ (show 1 < 64 by decide), tb_lshl _ hw, g6 c hc, (L c hc).2.2, (L (c - 1) (by omega)).1, (L (c - w) (by omega)).2.1, Bool.and_eq_true, decide_eq_true_eq]
    constructor
    · rintro ⟨⟨⟨h1, h2⟩, h3⟩, h4⟩
      exact ⟨h1, h2.2.2, h3.2.2.2.2, h4.2.2.2.2⟩
    · rintro ⟨h1, h2, h3, h4⟩
      obtain ⟨i1, i2, i3, i4, i5, i6, i7, i8, i9⟩ := inn_of h1
      exact ⟨⟨⟨h1, i1, i6, h2⟩, hc, by omega, by omega, i7, h3⟩, hc, by omega, by omega, i8, h4⟩
/-- a POINT's bit turned over -/
def flipS (σ : St) (q w : Nat) (P : Int64) : St := sl (sl (sl σ q 1 ((gl σ q 1) ^^^ ((lushr P 1) ^^^ (lushr P (nI w))))) q 2 ((gl σ q 2) ^^^ (P ^^^ (lushr P (nI w))))) q 3 ((gl σ q 3) ^^^ (P ^^^ (lushr P 1)))
theorem s_flip (q w : Nat) (P : Int64) (σ : St) : f_X2_flip q P (nI w) σ = some ((), flipS σ q w P) := by
  unfold f_X2_flip flipS
  rw [fL_at, fL_at, fL_at, gl_sl_ne _ _ _ _ (by omega), gl_sl_ne _ _ _ _ (by omega), gl_sl_ne _ _ _ _ (by omega)]
theorem flipS_eqx (σ : St) (q w : Nat) (P : Int64) : eqx (fun p => p = q) σ (flipS σ q w P) := eqx.sl (eqx.sl (eqx.sl eqx.rf rfl) rfl) rfl
theorem flipS_1 (σ : St) (q w : Nat) (P : Int64) : (flipS σ q w P).1 = σ.1 := rfl
theorem gl_flipS (σ : St) (q w : Nat) (P : Int64) : gl (flipS σ q w P) q 1 = (gl σ q 1) ^^^ ((lushr P 1) ^^^ (lushr P (nI w))) ∧ gl (flipS σ q w P) q 2 = (gl σ q 2) ^^^ (P ^^^ (lushr P (nI w))) ∧ gl (flipS σ q w P) q 3 = (gl σ q 3) ^^^ (P ^^^ (lushr P 1)) := by
  unfold flipS
  refine ⟨?_, ?_, ?_⟩ <;> simp [gl_sl]
/-- flips add up -/
theorem flipS_flipS {w : Nat} (hw : w < 64) (σ : St) (q : Nat) (P R : Int64) : flipS (flipS σ q w P) q w R = flipS σ q w (P ^^^ R) := by
  have hl : ∀ k, k < 64 → lushr (P ^^^ R) (nI k) = lushr P (nI k) ^^^ lushr R (nI k) := fun k hk => tb_ext (fun i _ => by rw [tb_lushr _ hk, tb_xor, tb_xor, tb_lushr _ hk, tb_lushr _ hk])
  have hl1 : lushr (P ^^^ R) 1 = lushr P 1 ^^^ lushr R 1 := hl 1 (by decide)
  obtain ⟨a1, a2, a3⟩ := gl_flipS σ q w P
  obtain ⟨b1, b2, b3⟩ := gl_flipS (flipS σ q w P) q w R
  obtain ⟨c1, c2, c3⟩ := gl_flipS σ q w (P ^^^ R)
  refine st_ext (fun _ _ => rfl) (fun p k => ?_)
  by_cases hp : p = q
  · subst hp
    by_cases k1 : k = 1
    · subst k1
      rw [b1, a1, c1, hl1, hl w hw]
      apply tb_ext
      intro i _
      simp only [tb_xor]
      cases tb (gl σ p 1) i <;> cases tb (lushr P 1) i <;> cases tb (lushr P (nI w)) i <;> cases tb (lushr R 1) i <;> cases tb (lushr R (nI w)) i <;> rfl
    · by_cases k2 : k = 2
      · subst k2
        rw [b2, a2, c2, hl w hw]
        apply tb_ext
        intro i _
        simp only [tb_xor]
        cases tb (gl σ p 2) i <;> cases tb P i <;> cases tb (lushr P (nI w)) i <;> cases tb R i <;> cases tb (lushr R (nI w)) i <;> rfl
      · by_cases k3 : k = 3
        · subst k3
          rw [b3, a3, c3, hl1]
          apply tb_ext
          intro i _
          simp only [tb_xor]
          cases tb (gl σ p 3) i <;> cases tb P i <;> cases tb (lushr P 1) i <;> cases tb R i <;> cases tb (lushr R 1) i <;> rfl
        · unfold flipS
          simp [gl_sl, k1, k2, k3]
  · unfold flipS
    simp [gl_sl, hp]
/-- one POINT's turn, as bits -/
theorem LC_flip {σ : St} {q w N : Nat} {U D : Nat → Bool} {K : Nat → Nat} {t : Bool} {c : Nat} (hw : 1 ≤ w) (hw8 : w ≤ 8) (hN : N ≤ 64) (hL : LC σ q N U K) (h : atP w U D N t K c) : LC (flipS σ q w (lshl 1 (nI c))) q N U (tu w t K c) := by
  obtain ⟨h0, h1, h2, h3⟩ := h
  obtain ⟨i1, i2, i3, i4, i5, i6, i7, i8, i9⟩ := inn_of h0
  have hw2 := i5 hw
  have hc : c < 64 := by omega
  obtain ⟨a1, a2, a3⟩ := gl_flipS σ q w (lshl 1 (nI c))
  have e1 : ∀ i, tb (lushr (lshl 1 (nI c)) 1) i = decide (i = c - 1) := fun i => by
    rw [show (1 : Int32) = nI 1 from rfl, tb_lushr _ (by decide), tb_bit hc]
    exact decide_eq_decide.mpr (by omega)
  have ew : ∀ i, tb (lushr (lshl 1 (nI c)) (nI w)) i = decide (i = c - w) := fun i => by
    rw [tb_lushr _ (by omega), tb_bit hc]
    exact decide_eq_decide.mpr (by omega)
  intro i hi k hk
  have L0 := hL i hi 0 (by decide)
  have L1 := hL i hi 1 (by decide)
  have L2 := hL i hi 2 (by decide)
  have key : tb (gl (flipS σ q w (lshl 1 (nI c))) q (k + 1)) i = (tb (gl σ q (k + 1)) i ^^ (if k = 0 then (decide (i = c - 1) ^^ decide (i = c - w)) else if k = 1 then (decide (i = c) ^^ decide (i = c - w)) else (decide (i = c) ^^ decide (i = c - 1)))) := by
    rcases (show k = 0 ∨ k = 1 ∨ k = 2 by omega) with e | e | e <;> subst e
    · rw [show 0 + 1 = 1 from rfl, a1, tb_xor, tb_xor, e1, ew]; rfl
    · rw [show 1 + 1 = 2 from rfl, a2, tb_xor, tb_xor, ew, tb_bit hc]; rfl
    · rw [show 2 + 1 = 3 from rfl, a3, tb_xor, tb_xor, e1, tb_bit hc]; rfl
  rw [key, hL i hi k hk]
  have n1 : c ≠ c - 1 := by omega
  have n2 : c ≠ c - w := by omega
  have n3 : c - 1 ≠ c - w := by omega
  by_cases q1 : i = c
  · subst q1
    rw [tu_c, h1, i6]
    rcases (show k = 0 ∨ k = 1 ∨ k = 2 by omega) with e | e | e <;> subst e <;> cases t <;> simp [sA, n1, n2, i1]
  · by_cases q2 : i = c - 1
    · subst q2
      rw [tu_1 (by omega), h2, i7]
      rcases (show k = 0 ∨ k = 1 ∨ k = 2 by omega) with e | e | e <;> subst e <;> cases t <;> simp [sB, n1.symm, n3, show c - 1 < N by omega]
    · by_cases q3 : i = c - w
      · subst q3
        rw [tu_w hw2 i3, h3, i8]
        rcases (show k = 0 ∨ k = 1 ∨ k = 2 by omega) with e | e | e <;> subst e <;> cases t <;> simp [sC, n2.symm, n3.symm, show c - w < N by omega]
      · rw [tu_o q1 q2 q3]
        simp [q1, q2, q3]
