/-! ===== HALF 2: the slots' methods, further ===== -/
theorem LL_k3 {w N : Nat} {U D : Nat → Bool} {K : Nat → Nat} (hL : LL w U D N K) {c : Nat} (hc : c < N) : (U c = true → K c < 3) ∧ (U c = false → K c = 3) := by
  obtain ⟨l1, l2, -⟩ := hL.1 c hc
  refine ⟨fun hu => ?_, fun hu => l2.mpr hu⟩
  have : K c ≠ 3 := fun z => by have := l2.mp z; rw [hu] at this; cases this
  omega
/-- the gate of a slot that holds none -/
theorem m_kind {σ : St} {w h : Nat} {U D : Nat → Bool} {wt : Nat → Nat → Int} (h0 : RZ σ w h U D wt) (a b : Int32) : Both (f_X5_kind a b) (f_X6_kind a b) σ := by
  have har := area_le h0.1.1.2.1 h0.1.1.2.2.2.1
  unfold Both f_X5_kind f_X5_kind_18 f_X5_kind_57 f_X6_kind f_X6_kind_15 f_X6_kind_56
  rcases gate a (show 4 < 2 ^ 31 by decide) with ha | ⟨s, hs, rfl⟩
  · rw [bd_at (g5_noslot ha), if_pos rfl]
    refine ⟨_, σ, σ, rfl, ?_, h0.rel⟩
    rw [bd_at (g6_noslot ha), if_pos rfl]
  · rw [bd_at (g5_slot hs), if_neg (by decide)]
    rcases gate b (show w * h < 2 ^ 31 by omega) with hb | ⟨c, hc, rfl⟩
    · rw [bd_at (g5_nocell h0.1.1 hb), if_pos rfl]
      refine ⟨_, σ, σ, rfl, ?_, h0.rel⟩
      rw [bd_at (g6_slot hs), if_neg (by decide), bd_at (g6_nocell h0.1.2.2.1 hb), if_pos rfl]
    · rw [bd_at (g5_cell h0.1.1 hc), if_neg (by decide), slot_rd hs]
      rcases h0.sl hs with ⟨q1, q2⟩ | ⟨q1, q2, K, k1, k2, k3⟩
      · rw [if_pos q1]
        refine ⟨_, σ, σ, rfl, ?_, h0.rel⟩
        rw [bd_at (g6_slot hs), if_neg (by decide), bd_at (g6_cell h0.1.2.2.1 hc), if_neg (by decide), rd29 hs, if_pos q2]
      · have hk := LL_k3 k1 hc
        rw [if_neg (by rw [q1]; decide), slot_rd hs, bd_at (s_kindAt k2 (by omega) hc hk.1)]
        have ref : f_X6_isUp (nI c) σ = some (bI (U c), σ) := s_isUp h0.1.2.2.1 hc
        cases hU : U c with
        | true =>
          have := hk.1 hU
          rw [if_pos rfl, if_pos (nI_pos' (by omega))]
          refine ⟨_, σ, σ, rfl, ?_, h0.rel⟩
          rw [bd_at (g6_slot hs), if_neg (by decide), bd_at (g6_cell h0.1.2.2.1 hc), if_neg (by decide), rd29 hs, if_neg (by rw [q2]; decide), bd_at ref, hU, if_neg bIt, show (64 : Int32) * nI s + nI c = nI (64 * s + c) by rw [show (64 : Int32) = nI 64 from rfl, nI_mul, nI_add], rdI_at _ _ (show 64 * s + c < len 30 by show _ < 256; omega) (by decide), k3 c hc]
        | false =>
          rw [if_neg (show ¬ false = true by decide), if_neg (show ¬ (0 : Int32) ≤ -1 by decide)]
          refine ⟨_, σ, σ, rfl, ?_, h0.rel⟩
          rw [bd_at (g6_slot hs), if_neg (by decide), bd_at (g6_cell h0.1.2.2.1 hc), if_neg (by decide), rd29 hs, if_neg (by rw [q2]; decide), bd_at ref, hU, if_pos bI_f]
theorem s_count39 {σ : St} {w h s k : Nat} {U D : Nat → Bool} {K : Nat → Nat} (hs : s < 4) (hk : k < 3) (g : MG σ w h U D) (hM : LM σ s (w * h) K) (hK : ∀ c, c < w * h → K c < 4) : ∀ (n c : Nat), c ≤ w * h → w * h - c < n → f_X6_count__39 n (nI s) (nI k) (nI (cnt (fun c => decide (K c = k)) c)) (nI c) σ = some (nI (cnt (fun c => decide (K c = k)) (w * h)), σ) := by
  have har := area_le g.2.1 g.2.2.2.1
  intro n
  induction n with
  | zero => intro c h1 h2; omega
  | succ n ih =>
    intro c h1 h2
    rw [f_X6_count__39, bd_at (s_cells g)]
    by_cases hc : w * h ≤ c
    · have e : c = w * h := by omega
      rw [if_pos (nI_le hc (by omega)), e]
    · have h4 := hK c (by omega)
      rw [if_neg (nI_ge (by omega) (by omega)), show (64 : Int32) * nI s + nI c = nI (64 * s + c) by rw [show (64 : Int32) = nI 64 from rfl, nI_mul, nI_add], rdI_at _ _ (show 64 * s + c < len 30 by show _ < 256; omega) (by decide), hM c (by omega)]
      unfold f_X6_count__70
      have key := ih (c + 1) (by omega) (by omega)
      have hs1 : cnt (fun c => decide (K c = k)) (c + 1) = cnt (fun c => decide (K c = k)) c + (if decide (K c = k) = true then 1 else 0) := rfl
      rw [hs1] at key
      by_cases q : K c = k
      · rw [if_pos (by rw [q]), nI_1, nI_1]
        rw [decide_eq_true q, if_pos rfl] at key
        exact key
      · rw [if_neg (fun z => q ((nI_eq (by omega) (by omega)).mp z)), nI_1, show nI (cnt (fun c => decide (K c = k)) c) + 0 = nI (cnt (fun c => decide (K c = k)) c + 0) from nI_add _ 0]
        rw [decide_eq_false q, if_neg (show ¬ false = true by decide)] at key
        exact key
theorem m_count {σ : St} {w h : Nat} {U D : Nat → Bool} {wt : Nat → Nat → Int} (h0 : RZ σ w h U D wt) (a b : Int32) : Both (f_X5_count a b) (f_X6_count_ a b) σ := by
  have har := area_le h0.1.1.2.1 h0.1.1.2.2.2.1
  unfold Both f_X5_count f_X5_count_14 f_X6_count_ f_X6_count__19
  rcases gate a (show 4 < 2 ^ 31 by decide) with ha | ⟨s, hs, rfl⟩
  · rw [bd_at (g5_noslot ha), if_pos rfl]
    refine ⟨_, σ, σ, rfl, ?_, h0.rel⟩
    rw [bd_at (g6_noslot ha), if_pos rfl]
  · rw [bd_at (g5_slot hs), if_neg (by decide)]
    rcases gate b (show 3 < 2 ^ 31 by decide) with hb | ⟨k, hk, rfl⟩
    · rw [bd_at (g5_nokind hb), if_pos rfl]
      refine ⟨_, σ, σ, rfl, ?_, h0.rel⟩
      rw [bd_at (g6_slot hs), if_neg (by decide), bd_at (g6_nokind hb), if_pos rfl]
    · rw [bd_at (g5_kind hk), if_neg (by decide), slot_rd hs]
      rcases h0.sl hs with ⟨q1, q2⟩ | ⟨q1, q2, K, k1, k2, k3⟩
      · rw [if_pos q1]
        refine ⟨_, σ, σ, rfl, ?_, h0.rel⟩
        rw [bd_at (g6_slot hs), if_neg (by decide), bd_at (g6_kind hk), if_neg (by decide), rd29 hs, if_pos q2]
      · have hco : f_X2_cellsOf (5 + s) (nI k) σ = some (gl σ (5 + s) (k + 1), σ) := by
          unfold f_X2_cellsOf f_X2_cellsOf_27
          rcases (show k = 0 ∨ k = 1 ∨ k = 2 by omega) with e | e | e <;> subst e
          · rw [if_pos (by decide)]
          · rw [if_neg (by decide), if_pos (by decide)]
          · rw [if_neg (by decide), if_neg (by decide)]
        rw [if_neg (by rw [q1]; decide), slot_rd hs, bd_at hco, bd_at (s_bitCount _ σ)]
        have hpc : pc (gl σ (5 + s) (k + 1)) = cnt (fun c => decide (K c = k)) (w * h) := by
          rw [pc_cut har (fun i hi hn => by rw [k2 i hi k hk]; exact decide_eq_false (fun z => by have := z.1; omega))]
          refine cnt_congr (fun i hi => ?_)
          rw [k2 i (by omega) k hk]
          refine decide_eq_decide.mpr ⟨fun z => z.2.2, fun z => ⟨hi, ?_, z⟩⟩
          cases hu : U i with
          | true => rfl
          | false => have := (LL_k3 k1 hi).2 hu; omega
        refine ⟨_, σ, σ, rfl, ?_, h0.rel⟩
        rw [bd_at (g6_slot hs), if_neg (by decide), bd_at (g6_kind hk), if_neg (by decide), rd29 hs, if_neg (by rw [q2]; decide), hpc]
        exact s_count39 hs hk h0.1.2.2.1 k3 (LL_4 k1) FU 0 (Nat.zero_le _) (by unfold FU; omega)
def ws (wt : Nat → Nat → Int) (K : Nat → Nat) : Nat → Int
  | 0 => 0
  | c + 1 => ws wt K c + wt c (K c)
theorem s_weighs29 {σ : St} {w h s : Nat} {U D : Nat → Bool} {wt : Nat → Nat → Int} {K : Nat → Nat} (hs : s < 4) (g : CG σ w h U D) (hT : WT σ wt) (hL : LL w U D (w * h) K) (hC : LC σ (5 + s) (w * h) U K) : ∀ (n c : Nat), c ≤ w * h → w * h - c < n → f_X5_weighs_29 n (nI s) (iZ (ws wt K c)) (nI c) σ = some (iZ (ws wt K (w * h)), σ) := by
  have har := area_le g.2.1 g.2.2.2.1
  intro n
  induction n with
  | zero => intro c h1 h2; omega
  | succ n ih =>
    intro c h1 h2
    rw [f_X5_weighs_29, g.2.2.2.2.2.2.1]
    by_cases hc : w * h ≤ c
    · have e : c = w * h := by omega
      rw [if_pos (nI_le hc (by omega)), e]
    · have hk := LL_k3 hL (show c < w * h by omega)
      rw [if_neg (nI_ge (by omega) (by omega)), slot_rd hs, bd_at (s_kindAt hC (by omega) (by omega) hk.1)]
      unfold f_X5_weighs_71
      have key := ih (c + 1) (by omega) (by omega)
      have hs1 : ws wt K (c + 1) = ws wt K c + wt c (K c) := rfl
      rw [hs1] at key
      cases hU : U c with
      | true =>
        have h3 := hk.1 hU
        rw [if_pos rfl, if_neg (nI_pos (by omega)), show nI c * (3 : Int32) + nI (K c) = nI (3 * c + K c) by rw [show (3 : Int32) = nI 3 from rfl, nI_mul, nI_add, Nat.mul_comm], rdI_at _ _ (show 3 * c + K c < len 15 by show _ < 192; omega) (by decide), (hT.2.2 c (by omega) _ h3).1, iZ_add, nI_1]
        exact key
      | false =>
        have h3 := hk.2 hU
        rw [if_neg (show ¬ false = true by decide), if_pos (by decide), nI_1]
        rw [h3, hT.2.1 c, Int.add_zero] at key
        exact key
theorem s_weighs26 {σ : St} {w h s : Nat} {U D : Nat → Bool} {wt : Nat → Nat → Int} {K : Nat → Nat} (hs : s < 4) (g : MG σ w h U D) (hT : WT σ wt) (hK : ∀ c, c < w * h → K c < 4) (hM : LM σ s (w * h) K) : ∀ (n c : Nat), c ≤ w * h → w * h - c < n → f_X6_weighs_26 n (nI s) (iZ (ws wt K c)) (nI c) σ = some (iZ (ws wt K (w * h)), σ) := by
  have har := area_le g.2.1 g.2.2.2.1
  intro n
  induction n with
  | zero => intro c h1 h2; omega
  | succ n ih =>
    intro c h1 h2
    rw [f_X6_weighs_26, bd_at (s_cells g)]
    by_cases hc : w * h ≤ c
    · have e : c = w * h := by omega
      rw [if_pos (nI_le hc (by omega)), e]
    · have h4 := hK c (by omega)
      have ei : (64 : Int32) * nI s + nI c = nI (64 * s + c) := by rw [show (64 : Int32) = nI 64 from rfl, nI_mul, nI_add]
      rw [if_neg (nI_ge (by omega) (by omega)), ei, rdI_at _ _ (show 64 * s + c < len 30 by show _ < 256; omega) (by decide), hM c (by omega)]
      unfold f_X6_weighs_74
      have key := ih (c + 1) (by omega) (by omega)
      have hs1 : ws wt K (c + 1) = ws wt K c + wt c (K c) := rfl
      rw [hs1] at key
      by_cases q : K c = 3
      · rw [if_pos (by rw [q]; rfl), nI_1, show iZ (ws wt K c) + 0 = iZ (ws wt K c + 0) from iZ_add _ 0]
        rw [q, hT.2.1 c] at key
        exact key
      · rw [if_neg (show ¬ nI (K c) = (3 : Int32) from fun z => q ((nI_eq (b := 3) (by omega) (by decide)).mp z)), rdI_at _ _ (show 64 * s + c < len 30 by show _ < 256; omega) (by decide), hM c (by omega), show (3 : Int32) * nI c + nI (K c) = nI (3 * c + K c) by rw [show (3 : Int32) = nI 3 from rfl, nI_mul, nI_add], rdI_at _ _ (show 3 * c + K c < len 28 by show _ < 192; omega) (by decide), (hT.2.2 c (by omega) _ (by omega)).2, iZ_add, nI_1]
        exact key
theorem m_weighs {σ : St} {w h : Nat} {U D : Nat → Bool} {wt : Nat → Nat → Int} (h0 : RZ σ w h U D wt) (a : Int32) : Both (f_X5_weighs a) (f_X6_weighs a) σ := by
  have har := area_le h0.1.1.2.1 h0.1.1.2.2.2.1
  unfold Both f_X5_weighs f_X6_weighs
  rcases gate a (show 4 < 2 ^ 31 by decide) with ha | ⟨s, hs, rfl⟩
  · rw [bd_at (g5_noslot ha), if_pos rfl]
    refine ⟨_, σ, σ, rfl, ?_, h0.rel⟩
    rw [bd_at (g6_noslot ha), if_pos rfl]
  · rw [bd_at (g5_slot hs), if_neg (by decide), slot_rd hs]
    rcases h0.sl hs with ⟨q1, q2⟩ | ⟨q1, q2, K, k1, k2, k3⟩
    · rw [if_pos q1]
      refine ⟨_, σ, σ, rfl, ?_, h0.rel⟩
      rw [bd_at (g6_slot hs), if_neg (by decide), rd29 hs, if_pos q2]
    · rw [if_neg (by rw [q1]; decide)]
      have h5 := s_weighs29 hs h0.1.1 h0.1.2.2.2.2.1 k1 k2 FU 0 (Nat.zero_le _) (by unfold FU; omega)
      refine ⟨_, σ, σ, h5, ?_, h0.rel⟩
      rw [bd_at (g6_slot hs), if_neg (by decide), rd29 hs, if_neg (by rw [q2]; decide)]
      exact s_weighs26 hs h0.1.2.2.1 h0.1.2.2.2.2.1 (LL_4 k1) k3 FU 0 (Nat.zero_le _) (by unfold FU; omega)
/-! points -/
theorem pt_gate {w h : Nat} (hw : w ≤ 8) (hh : h ≤ 8) (a b : Int32) : (∃ x y, x ≤ w ∧ y ≤ h ∧ a = nI x ∧ b = nI y) ∨ ((a < 0 ∨ nI w < a ∨ b < 0 ∨ nI h < b) ∧ ¬ ((0 ≤ a ∧ a ≤ nI w) ∧ (0 ≤ b ∧ b ≤ nI h))) := by
  rcases gate a (show w + 1 < 2 ^ 31 by omega) with ha | ⟨x, hx, rfl⟩
  · refine Or.inr ⟨?_, fun z => ?_⟩
    · rcases ha with q | ⟨q1, q2⟩
      · exact Or.inl q
      · refine Or.inr (Or.inl ?_)
        apply nle_lt
        intro r
        exact nI_ge (a := w) (b := w + 1) (by omega) (by omega) (le_tr q2 r)
    · have := out_in (m := w + 1) (by omega) (by omega) ha
      rw [Nat.add_sub_cancel, decide_eq_true z.1] at this
      cases this
  · rcases gate b (show h + 1 < 2 ^ 31 by omega) with hb | ⟨y, hy, rfl⟩
    · refine Or.inr ⟨?_, fun z => ?_⟩
      · rcases hb with q | ⟨q1, q2⟩
        · exact Or.inr (Or.inr (Or.inl q))
        · refine Or.inr (Or.inr (Or.inr ?_))
          apply nle_lt
          intro r
          exact nI_ge (a := h) (b := h + 1) (by omega) (by omega) (le_tr q2 r)
      · have := out_in (m := h + 1) (by omega) (by omega) hb
        rw [Nat.add_sub_cancel, decide_eq_true z.2] at this
        cases this
    · exact Or.inl ⟨x, y, by omega, by omega, rfl, rfl⟩
theorem g5_pt {σ : St} {w h x y : Nat} {U D : Nat → Bool} (g : CG σ w h U D) (hx : x ≤ w) (hy : y ≤ h) : f_X1_hasPoint (nI x) (nI y) σ = some (1, σ) := by
  have hw := g.2.1
  have hh := g.2.2.2.1
  unfold f_X1_hasPoint f_X1_hasPoint_29
  rw [if_neg (nI_pos (by omega)), g.2.2.2.2.1, if_neg (nI_nlt hx (by omega)), if_neg (nI_pos (by omega)), g.2.2.2.2.2.1, if_neg (nI_nlt hy (by omega)), gz_1]
theorem g5_nopt {σ : St} {w h : Nat} {U D : Nat → Bool} (g : CG σ w h U D) {a b : Int32} (hq : a < 0 ∨ nI w < a ∨ b < 0 ∨ nI h < b) : f_X1_hasPoint a b σ = some (0, σ) := by
  unfold f_X1_hasPoint f_X1_hasPoint_28 f_X1_hasPoint_29
  rw [g.2.2.2.2.1, g.2.2.2.2.2.1, gz_0]
  by_cases q1 : a < 0
  · rw [if_pos q1]
  · rw [if_neg q1]
    by_cases q2 : nI w < a
    · rw [if_pos q2]
    · rw [if_neg q2]
      by_cases q3 : b < 0
      · rw [if_pos q3]
      · rw [if_neg q3, if_pos (by rcases hq with z | z | z | z <;> first | (exact absurd z q1) | (exact absurd z q2) | (exact absurd z q3) | exact z)]
/-- the class's bit of a POINT -/
theorem s_ptBit {σ : St} {w h x y : Nat} {U D : Nat → Bool} (g : CG σ w h U D) (hx : x ≤ w) (hy : y ≤ h) : ∃ v, f_X1_pointBit (nI x) (nI y) σ = some (v, σ) ∧ (∀ X : Int64, (∀ c, c < 64 → tb X c = true → innB w U D (w * h) c = true) → ((X &&& v) = 0 ↔ tb X (y * w + x) = false ∨ 64 ≤ y * w + x ∨ innB w U D (w * h) (y * w + x) = false)) ∧ (innB w U D (w * h) (y * w + x) = true → v = lshl 1 (nI (y * w + x))) := by
  have hw := g.2.1
  have hh := g.2.2.2.1
  have har := area_le hw hh
  by_cases hin : x < w ∧ y < h
  · have hlt := cell_lt hin.1 hin.2
    refine ⟨_, s_pointBit g.2.2.2.2.1 g.2.2.2.2.2.1 hin.1 hin.2 hw hh, fun X hX => ?_, fun _ => rfl⟩
    rw [and_bit (by omega)]
    constructor
    · intro z; exact Or.inl z
    · rintro (z | z | z)
      · exact z
      · omega
      · cases t : tb X (y * w + x) with
        | false => rfl
        | true => have := hX _ (by omega) t; rw [z] at this; cases this
  · have hfar : innB w U D (w * h) (y * w + x) = false := by
      rw [inn_xy hx hy g.1]
      unfold thB
      rw [decide_eq_false (show ¬ (x < w ∧ y < h) from hin)]
      simp
    refine ⟨0, s_pointBit0 g.2.2.2.2.1 g.2.2.2.2.2.1 (by omega) (by omega) (by omega) (by omega), fun X _ => ⟨fun _ => Or.inr (Or.inr hfar), fun _ => tb_eq0.mpr (fun i _ => by rw [tb_and, tb_0, Bool.and_false])⟩, fun q => by rw [hfar] at q; cases q⟩
/-- what the class finds at a POINT -/
theorem pt_bits {σ : St} {w h x y p : Nat} {U D : Nat → Bool} {K : Nat → Nat} (g : CG σ w h U D) (g6 : CI6 σ w h U D) (hC : LC σ p (w * h) U K) (hx : x ≤ w) (hy : y ≤ h) : ∃ v, f_X1_pointBit (nI x) (nI y) σ = some (v, σ) ∧ ((gl σ 1 6 &&& v) = 0 ↔ innB w U D (w * h) (y * w + x) = false) ∧ (∀ t, (ptsV σ p t &&& v) = 0 ↔ ¬ atP w U D (w * h) t K (y * w + x)) ∧ (innB w U D (w * h) (y * w + x) = true → v = lshl 1 (nI (y * w + x))) := by
  have har := area_le g.2.1 g.2.2.2.1
  obtain ⟨v, e1, e2, e3⟩ := s_ptBit g hx hy
  refine ⟨v, e1, ?_, fun t => ?_, e3⟩
  · rw [e2 _ (fun c hc z => by rw [← g6 c hc]; exact z)]
    constructor
    · rintro (z | z | z)
      · rcases Nat.lt_or_ge (y * w + x) 64 with q | q
        · rw [← g6 _ q]; exact z
        · cases t : innB w U D (w * h) (y * w + x) with
          | false => rfl
          | true => have := (inn_of t).1; omega
      · cases t : innB w U D (w * h) (y * w + x) with
        | false => rfl
        | true => have := (inn_of t).1; omega
      · exact z
    · intro z; exact Or.inr (Or.inr z)
  · rw [e2 _ (fun c hc z => ((tb_pts g g6 hC t hc).mp z).1)]
    constructor
    · rintro (z | z | z) hat
      · have hl : y * w + x < 64 := by have := (inn_of hat.1).1; omega
        rw [(tb_pts g g6 hC t hl).mpr hat] at z
        cases z
      · have := (inn_of hat.1).1; omega
      · have := hat.1; rw [z] at this; cases this
    · intro hn
      rcases Nat.lt_or_ge (y * w + x) 64 with q | q
      · refine Or.inl ?_
        cases z : tb (ptsV σ p t) (y * w + x) with
        | false => rfl
        | true => exact absurd ((tb_pts g g6 hC t q).mp z) hn
      · exact Or.inr (Or.inl q)
theorem m_point {σ : St} {w h : Nat} {U D : Nat → Bool} {wt : Nat → Nat → Int} (h0 : RZ σ w h U D wt) (a b c : Int32) : Both (f_X5_point a b c) (f_X6_point a b c) σ := by
  have har := area_le h0.1.1.2.1 h0.1.1.2.2.2.1
  unfold Both f_X5_point f_X5_point_19 f_X5_point_110 f_X6_point f_X6_point_16 f_X6_point_40
  rcases gate a (show 4 < 2 ^ 31 by decide) with ha | ⟨s, hs, rfl⟩
  · rw [bd_at (g5_noslot ha), if_pos rfl]
    refine ⟨_, σ, σ, rfl, ?_, h0.rel⟩
    rw [bd_at (g6_noslot ha), if_pos rfl]
  · rw [bd_at (g5_slot hs), if_neg (by decide)]
    rcases pt_gate h0.1.1.2.1 h0.1.1.2.2.2.1 b c with ⟨x, y, hx, hy, rfl, rfl⟩ | ⟨hq, hn⟩
    · have hp6 : f_X6_isPoint (nI x) (nI y) σ = some (1, σ) := by
        have hw := h0.1.1.2.1
        have hh := h0.1.1.2.2.2.1
        rw [s_isPt h0.1.2.2.1 (by omega) (by omega), decide_eq_true ⟨hx, hy⟩]
        rfl
      rw [bd_at (g5_pt h0.1.1 hx hy), if_neg (by decide), slot_rd hs]
      rcases h0.sl hs with ⟨q1, q2⟩ | ⟨q1, q2, K, k1, k2, k3⟩
      · rw [if_pos q1]
        refine ⟨_, σ, σ, rfl, ?_, h0.rel⟩
        rw [bd_at (g6_slot hs), if_neg (by decide), bd_at hp6, if_neg (by decide), rd29 hs, if_pos q2]
      · obtain ⟨v, e1, e2, e3, -⟩ := pt_bits h0.1.1 h0.1.2.1 k2 hx hy
        have hpt := s_pointOf h0.1.2.2.1 hs k3 (LL_4 k1) hx hy
        rw [if_neg (by rw [q1]; decide), bd_at e1]
        have ref : ∀ r : Int32, r = nI (ptN w U D (w * h) K (y * w + x)) → ∃ σ2, (bd (f_X6_isSlot (nI s) σ) fun v1 σ2 => if v1 = 0 then some ((-900001 : Int32), σ2) else bd (f_X6_isPoint (nI x) (nI y) σ2) fun v3 σ4 => if v3 = 0 then some ((-900001 : Int32), σ4) else rdI σ4 29 (nI s) fun v5 => if v5 = 0 then some ((-900003 : Int32), σ4) else bd (f_X6_pointOf (nI s) (nI x) (nI y) σ4) fun v6 σ7 => some (v6, σ7)) = some (r, σ2) ∧ Rel σ2 := by
          intro r hr
          refine ⟨σ, ?_, h0.rel⟩
          rw [bd_at (g6_slot hs), if_neg (by decide), bd_at hp6, if_neg (by decide), rd29 hs, if_neg (by rw [q2]; decide), bd_at hpt, hr]
        have pt := fun t => ptN_at w U D (w * h) K (y * w + x) t
        by_cases hi : innB w U D (w * h) (y * w + x) = false
        · rw [if_pos (e2.mpr hi)]
          obtain ⟨σ2, r1, r2⟩ := ref 0 (by unfold ptN; rw [if_pos hi]; rfl)
          exact ⟨_, σ, σ2, rfl, r1, r2⟩
        · rw [if_neg (fun z => hi (e2.mp z)), bd_at (s_lows _ σ)]
          by_cases hl : atP w U D (w * h) true K (y * w + x)
          · rw [if_neg (fun z => (e3 true).mp z hl)]
            obtain ⟨σ2, r1, r2⟩ := ref 2 (by rw [(pt true).mpr hl]; rfl)
            exact ⟨_, σ, σ2, rfl, r1, r2⟩
          · rw [if_pos ((e3 true).mpr hl), bd_at (s_highs _ σ)]
            by_cases hg : atP w U D (w * h) false K (y * w + x)
            · rw [if_neg (fun z => (e3 false).mp z hg)]
              obtain ⟨σ2, r1, r2⟩ := ref 3 (by rw [(pt false).mpr hg]; rfl)
              exact ⟨_, σ, σ2, rfl, r1, r2⟩
            · rw [if_pos ((e3 false).mpr hg)]
              obtain ⟨σ2, r1, r2⟩ := ref 1 (by
                have n2 : ptN w U D (w * h) K (y * w + x) ≠ 2 := fun z => hl ((pt true).mp z)
                have n3 : ptN w U D (w * h) K (y * w + x) ≠ 3 := fun z => hg ((pt false).mp z)
                have n0 : ptN w U D (w * h) K (y * w + x) ≠ 0 := fun z => by
                  unfold ptN at z
                  rw [if_neg hi] at z
                  split at z
                  · cases z
                  · split at z <;> cases z
                have := ptN_lt w U D (w * h) K (y * w + x)
                rw [show ptN w U D (w * h) K (y * w + x) = 1 by omega]
                rfl)
              exact ⟨_, σ, σ2, rfl, r1, r2⟩
    · rw [bd_at (g5_nopt h0.1.1 hq), if_pos rfl]
      refine ⟨_, σ, σ, rfl, ?_, h0.rel⟩
      rw [bd_at (g6_slot hs), if_neg (by decide), bd_at (s_isPoint h0.1.2.2.1 b c), decide_eq_false hn, if_pos bI_f]
