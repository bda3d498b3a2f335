/-! ===== HALF 2: the law's own loop ===== -/
theorem stepB {α : Type} [DecidableEq α] {f g : St → Option (α × St)} {σ : St} (hb : Both f g σ) {K : St → Option (Int32 × St)} (hK : ∀ τ, Rel τ → ∃ υ, K τ = some (1, υ)) : ∃ υ, (bd (f σ) fun v1 σ2 => bd (g σ2) fun v3 σ4 => if v1 = v3 then K σ4 else some ((0 : Int32), σ4)) = some (1, υ) := by
  obtain ⟨r, σ1, σ2, h1, h2, h3⟩ := hb
  obtain ⟨υ, h4⟩ := hK σ2 h3
  refine ⟨υ, ?_⟩
  rw [bd_at h1, bd_at h2, if_pos rfl]
  exact h4
theorem rdS_at {xs : Nat → Int32} {L k : Nat} (h : k < L) (hL : L ≤ 2048) (f : Int32 → Option (Int32 × St)) : rdS xs L (nI k) f = f (xs k) := by
  unfold rdS
  rw [nI_clamp (by omega), if_neg (fun z => by
    rcases z with z | z
    · exact nI_pos (by omega) z
    · omega)]
section LW
variable {xs : Nat → Int32} {L k : Nat} {σ : St} {K : Int32 → St → Option (Int32 × St)}
theorem rs1 (hk : k + 4 ≤ L) (hL : L ≤ 2048) (f : Int32 → Option (Int32 × St)) : rdS xs L (nI k + 1) f = f (xs (k + 1)) := by
  rw [show nI k + (1 : Int32) = nI (k + 1) from nI_1 _]
  exact rdS_at (k := k + 1) (by omega) hL f
theorem rs2 (hk : k + 4 ≤ L) (hL : L ≤ 2048) (f : Int32 → Option (Int32 × St)) : rdS xs L (nI k + 2) f = f (xs (k + 2)) := by
  rw [show nI k + (2 : Int32) = nI (k + 2) from nI_add _ 2]
  exact rdS_at (k := k + 2) (by omega) hL f
theorem rs3 (hk : k + 4 ≤ L) (hL : L ≤ 2048) (f : Int32 → Option (Int32 × St)) : rdS xs L (nI k + 3) f = f (xs (k + 3)) := by
  rw [show nI k + (3 : Int32) = nI (k + 3) from nI_add _ 3]
  exact rdS_at (k := k + 3) (by omega) hL f
theorem lw_c0 (hk : k + 4 ≤ L) (hL : L ≤ 2048) (hr : Rel σ) (hK : ∀ τ, Rel τ → ∃ υ, K (nI k + 4) τ = some (1, υ)) : ∃ υ, f_L_law_176 xs L K (nI k) σ = some (1, υ) := by
  obtain ⟨w, h, U, D, wt, h0⟩ := hr
  unfold f_L_law_176 f_L_law_1176
  simp only [rs1 hk hL, rs2 hk hL]
  exact stepB (m_ground h0 _ _) (K := fun τ => K (nI k + 4) τ) hK
theorem lw_c1 (hk : k + 4 ≤ L) (hL : L ≤ 2048) (hr : Rel σ) (hK : ∀ τ, Rel τ → ∃ υ, K (nI k + 4) τ = some (1, υ)) : ∃ υ, f_L_law_209 xs L K (nI k) σ = some (1, υ) := by
  obtain ⟨w, h, U, D, wt, h0⟩ := hr
  unfold f_L_law_209 f_L_law_1176
  simp only [rs1 hk hL, rs2 hk hL, rs3 hk hL]
  exact stepB (m_hexagon h0 _ _ _) (K := fun τ => K (nI k + 4) τ) hK
theorem lw_c2 (hk : k + 4 ≤ L) (hL : L ≤ 2048) (hr : Rel σ) (hK : ∀ τ, Rel τ → ∃ υ, K (nI k + 4) τ = some (1, υ)) : ∃ υ, f_L_law_252 xs L K (nI k) σ = some (1, υ) := by
  obtain ⟨w, h, U, D, wt, h0⟩ := hr
  unfold f_L_law_252 f_L_law_271 f_L_law_293 f_L_law_1176
  simp only [rs1 hk hL, rs2 hk hL]
  by_cases q : xs (k + 2) = 0
  · simp only [if_pos q]
    exact stepB (m_set h0 _ false) (K := fun τ => K (nI k + 4) τ) hK
  · simp only [if_neg q]
    exact stepB (m_set h0 _ true) (K := fun τ => K (nI k + 4) τ) hK
theorem lw_c3 (hk : k + 4 ≤ L) (hL : L ≤ 2048) (hr : Rel σ) (hK : ∀ τ, Rel τ → ∃ υ, K (nI k + 4) τ = some (1, υ)) : ∃ υ, f_L_law_301 xs L K (nI k) σ = some (1, υ) := by
  obtain ⟨w, h, U, D, wt, h0⟩ := hr
  unfold f_L_law_301 f_L_law_1176
  simp only [rs1 hk hL]
  exact stepB (m_isIn h0 _) (K := fun τ => K (nI k + 4) τ) hK
theorem lw_c4 (hk : k + 4 ≤ L) (hL : L ≤ 2048) (hr : Rel σ) (hK : ∀ τ, Rel τ → ∃ υ, K (nI k + 4) τ = some (1, υ)) : ∃ υ, f_L_law_324 xs L K (nI k) σ = some (1, υ) := by
  obtain ⟨w, h, U, D, wt, h0⟩ := hr
  unfold f_L_law_324 f_L_law_338 f_L_law_355 f_L_law_1176
  simp only [rs1 hk hL]
  by_cases q : xs (k + 1) = 0
  · simp only [if_pos q]
    exact stepB (m_ups h0 false) (K := fun τ => K (nI k + 4) τ) hK
  · simp only [if_neg q]
    exact stepB (m_ups h0 true) (K := fun τ => K (nI k + 4) τ) hK
theorem lw_c5 (hk : k + 4 ≤ L) (hL : L ≤ 2048) (hr : Rel σ) (hK : ∀ τ, Rel τ → ∃ υ, K (nI k + 4) τ = some (1, υ)) : ∃ υ, f_L_law_363 xs L K (nI k) σ = some (1, υ) := by
  obtain ⟨w, h, U, D, wt, h0⟩ := hr
  unfold f_L_law_363 f_L_law_1176
  simp only [rs1 hk hL]
  exact stepB (m_size h0 _) (K := fun τ => K (nI k + 4) τ) hK
theorem lw_c6 (hk : k + 4 ≤ L) (hL : L ≤ 2048) (hr : Rel σ) (hK : ∀ τ, Rel τ → ∃ υ, K (nI k + 4) τ = some (1, υ)) : ∃ υ, f_L_law_386 xs L K (nI k) σ = some (1, υ) := by
  obtain ⟨w, h, U, D, wt, h0⟩ := hr
  unfold f_L_law_386 f_L_law_1176
  simp only [rs1 hk hL, rs2 hk hL, rs3 hk hL]
  exact stepB (m_product h0 _ _ _) (K := fun τ => K (nI k + 4) τ) hK
theorem lw_c7 (hk : k + 4 ≤ L) (hL : L ≤ 2048) (hr : Rel σ) (hK : ∀ τ, Rel τ → ∃ υ, K (nI k + 4) τ = some (1, υ)) : ∃ υ, f_L_law_430 xs L K (nI k) σ = some (1, υ) := by
  obtain ⟨w, h, U, D, wt, h0⟩ := hr
  unfold f_L_law_430 f_L_law_1176
  exact stepB (m_layings h0 ) (K := fun τ => K (nI k + 4) τ) hK
theorem lw_c8 (hk : k + 4 ≤ L) (hL : L ≤ 2048) (hr : Rel σ) (hK : ∀ τ, Rel τ → ∃ υ, K (nI k + 4) τ = some (1, υ)) : ∃ υ, f_L_law_444 xs L K (nI k) σ = some (1, υ) := by
  obtain ⟨w, h, U, D, wt, h0⟩ := hr
  unfold f_L_law_444 f_L_law_1176
  simp only [rs1 hk hL, rs2 hk hL]
  exact stepB (m_with h0 _ _) (K := fun τ => K (nI k + 4) τ) hK
theorem lw_c9 (hk : k + 4 ≤ L) (hL : L ≤ 2048) (hr : Rel σ) (hK : ∀ τ, Rel τ → ∃ υ, K (nI k + 4) τ = some (1, υ)) : ∃ υ, f_L_law_478 xs L K (nI k) σ = some (1, υ) := by
  obtain ⟨w, h, U, D, wt, h0⟩ := hr
  unfold f_L_law_478 f_L_law_1176
  simp only [rs1 hk hL]
  exact stepB (m_kinds h0 _) (K := fun τ => K (nI k + 4) τ) hK
theorem lw_c10 (hk : k + 4 ≤ L) (hL : L ≤ 2048) (hr : Rel σ) (hK : ∀ τ, Rel τ → ∃ υ, K (nI k + 4) τ = some (1, υ)) : ∃ υ, f_L_law_501 xs L K (nI k) σ = some (1, υ) := by
  obtain ⟨w, h, U, D, wt, h0⟩ := hr
  unfold f_L_law_501 f_L_law_1176
  exact stepB (m_forced h0 ) (K := fun τ => K (nI k + 4) τ) hK
theorem lw_c11 (hk : k + 4 ≤ L) (hL : L ≤ 2048) (hr : Rel σ) (hK : ∀ τ, Rel τ → ∃ υ, K (nI k + 4) τ = some (1, υ)) : ∃ υ, f_L_law_514 xs L K (nI k) σ = some (1, υ) := by
  obtain ⟨w, h, U, D, wt, h0⟩ := hr
  unfold f_L_law_514 f_L_law_533 f_L_law_555 f_L_law_1176
  simp only [rs1 hk hL, rs2 hk hL]
  by_cases q : xs (k + 2) = 0
  · simp only [if_pos q]
    exact stepB (m_span h0 _ 0) (K := fun τ => K (nI k + 4) τ) hK
  · simp only [if_neg q]
    exact stepB (m_span h0 _ 1) (K := fun τ => K (nI k + 4) τ) hK
theorem lw_c12 (hk : k + 4 ≤ L) (hL : L ≤ 2048) (hr : Rel σ) (hK : ∀ τ, Rel τ → ∃ υ, K (nI k + 4) τ = some (1, υ)) : ∃ υ, f_L_law_563 xs L K (nI k) σ = some (1, υ) := by
  obtain ⟨w, h, U, D, wt, h0⟩ := hr
  unfold f_L_law_563 f_L_law_1176
  simp only [rs1 hk hL, rs2 hk hL, rs3 hk hL]
  exact stepB (m_weight h0 _ _ _) (K := fun τ => K (nI k + 4) τ) hK
theorem lw_c13 (hk : k + 4 ≤ L) (hL : L ≤ 2048) (hr : Rel σ) (hK : ∀ τ, Rel τ → ∃ υ, K (nI k + 4) τ = some (1, υ)) : ∃ υ, f_L_law_606 xs L K (nI k) σ = some (1, υ) := by
  obtain ⟨w, h, U, D, wt, h0⟩ := hr
  unfold f_L_law_606 f_L_law_1176
  exact stepB (m_dearest h0 ) (K := fun τ => K (nI k + 4) τ) hK
theorem lw_c14 (hk : k + 4 ≤ L) (hL : L ≤ 2048) (hr : Rel σ) (hK : ∀ τ, Rel τ → ∃ υ, K (nI k + 4) τ = some (1, υ)) : ∃ υ, f_L_law_619 xs L K (nI k) σ = some (1, υ) := by
  obtain ⟨w, h, U, D, wt, h0⟩ := hr
  unfold f_L_law_619 f_L_law_1176
  simp only [rs1 hk hL, rs2 hk hL, rs3 hk hL]
  exact stepB (m_lay h0 _ _) (K := fun τ => K (nI k + 4) τ) hK
theorem lw_c15 (hk : k + 4 ≤ L) (hL : L ≤ 2048) (hr : Rel σ) (hK : ∀ τ, Rel τ → ∃ υ, K (nI k + 4) τ = some (1, υ)) : ∃ υ, f_L_law_682 xs L K (nI k) σ = some (1, υ) := by
  obtain ⟨w, h, U, D, wt, h0⟩ := hr
  unfold f_L_law_682 f_L_law_1176
  simp only [rs1 hk hL]
  exact stepB (m_layDearest h0 _) (K := fun τ => K (nI k + 4) τ) hK
theorem lw_c16 (hk : k + 4 ≤ L) (hL : L ≤ 2048) (hr : Rel σ) (hK : ∀ τ, Rel τ → ∃ υ, K (nI k + 4) τ = some (1, υ)) : ∃ υ, f_L_law_705 xs L K (nI k) σ = some (1, υ) := by
  obtain ⟨w, h, U, D, wt, h0⟩ := hr
  unfold f_L_law_705 f_L_law_1176
  simp only [rs1 hk hL, rs2 hk hL]
  exact stepB (m_copy h0 _ _) (K := fun τ => K (nI k + 4) τ) hK
theorem lw_c17 (hk : k + 4 ≤ L) (hL : L ≤ 2048) (hr : Rel σ) (hK : ∀ τ, Rel τ → ∃ υ, K (nI k + 4) τ = some (1, υ)) : ∃ υ, f_L_law_738 xs L K (nI k) σ = some (1, υ) := by
  obtain ⟨w, h, U, D, wt, h0⟩ := hr
  unfold f_L_law_738 f_L_law_1176
  simp only [rs1 hk hL]
  exact stepB (m_place h0 _) (K := fun τ => K (nI k + 4) τ) hK
theorem lw_c18 (hk : k + 4 ≤ L) (hL : L ≤ 2048) (hr : Rel σ) (hK : ∀ τ, Rel τ → ∃ υ, K (nI k + 4) τ = some (1, υ)) : ∃ υ, f_L_law_762 xs L K (nI k) σ = some (1, υ) := by
  obtain ⟨w, h, U, D, wt, h0⟩ := hr
  unfold f_L_law_762 f_L_law_1176
  simp only [rs1 hk hL, rs2 hk hL]
  exact stepB (m_kind h0 _ _) (K := fun τ => K (nI k + 4) τ) hK
theorem lw_c19 (hk : k + 4 ≤ L) (hL : L ≤ 2048) (hr : Rel σ) (hK : ∀ τ, Rel τ → ∃ υ, K (nI k + 4) τ = some (1, υ)) : ∃ υ, f_L_law_795 xs L K (nI k) σ = some (1, υ) := by
  obtain ⟨w, h, U, D, wt, h0⟩ := hr
  unfold f_L_law_795 f_L_law_1176
  simp only [rs1 hk hL, rs2 hk hL]
  exact stepB (m_count h0 _ _) (K := fun τ => K (nI k + 4) τ) hK
theorem lw_c20 (hk : k + 4 ≤ L) (hL : L ≤ 2048) (hr : Rel σ) (hK : ∀ τ, Rel τ → ∃ υ, K (nI k + 4) τ = some (1, υ)) : ∃ υ, f_L_law_828 xs L K (nI k) σ = some (1, υ) := by
  obtain ⟨w, h, U, D, wt, h0⟩ := hr
  unfold f_L_law_828 f_L_law_1176
  simp only [rs1 hk hL]
  exact stepB (m_weighs h0 _) (K := fun τ => K (nI k + 4) τ) hK
theorem lw_c21 (hk : k + 4 ≤ L) (hL : L ≤ 2048) (hr : Rel σ) (hK : ∀ τ, Rel τ → ∃ υ, K (nI k + 4) τ = some (1, υ)) : ∃ υ, f_L_law_851 xs L K (nI k) σ = some (1, υ) := by
  obtain ⟨w, h, U, D, wt, h0⟩ := hr
  unfold f_L_law_851 f_L_law_1176
  simp only [rs1 hk hL, rs2 hk hL, rs3 hk hL]
  exact stepB (m_point h0 _ _ _) (K := fun τ => K (nI k + 4) τ) hK
theorem lw_c22 (hk : k + 4 ≤ L) (hL : L ≤ 2048) (hr : Rel σ) (hK : ∀ τ, Rel τ → ∃ υ, K (nI k + 4) τ = some (1, υ)) : ∃ υ, f_L_law_894 xs L K (nI k) σ = some (1, υ) := by
  obtain ⟨w, h, U, D, wt, h0⟩ := hr
  unfold f_L_law_894 f_L_law_913 f_L_law_935 f_L_law_1176
  simp only [rs1 hk hL, rs2 hk hL]
  by_cases q : xs (k + 2) = 0
  · simp only [if_pos q]
    exact stepB (m_free h0 _ false) (K := fun τ => K (nI k + 4) τ) hK
  · simp only [if_neg q]
    exact stepB (m_free h0 _ true) (K := fun τ => K (nI k + 4) τ) hK
theorem lw_c23 (hk : k + 4 ≤ L) (hL : L ≤ 2048) (hr : Rel σ) (hK : ∀ τ, Rel τ → ∃ υ, K (nI k + 4) τ = some (1, υ)) : ∃ υ, f_L_law_943 xs L K (nI k) σ = some (1, υ) := by
  obtain ⟨w, h, U, D, wt, h0⟩ := hr
  unfold f_L_law_943 f_L_law_1176
  simp only [rs1 hk hL, rs2 hk hL, rs3 hk hL]
  exact stepB (m_turn h0 _ _ _) (K := fun τ => K (nI k + 4) τ) hK
theorem lw_c24 (hk : k + 4 ≤ L) (hL : L ≤ 2048) (hr : Rel σ) (hK : ∀ τ, Rel τ → ∃ υ, K (nI k + 4) τ = some (1, υ)) : ∃ υ, f_L_law_986 xs L K (nI k) σ = some (1, υ) := by
  obtain ⟨w, h, U, D, wt, h0⟩ := hr
  unfold f_L_law_986 f_L_law_1176
  simp only [rs1 hk hL, rs2 hk hL]
  exact stepB (m_apart h0 _ _) (K := fun τ => K (nI k + 4) τ) hK
theorem lw_c25 (hk : k + 4 ≤ L) (hL : L ≤ 2048) (hr : Rel σ) (hK : ∀ τ, Rel τ → ∃ υ, K (nI k + 4) τ = some (1, υ)) : ∃ υ, f_L_law_1019 xs L K (nI k) σ = some (1, υ) := by
  obtain ⟨w, h, U, D, wt, h0⟩ := hr
  unfold f_L_law_1019 f_L_law_1038 f_L_law_1060 f_L_law_1176
  simp only [rs1 hk hL, rs2 hk hL]
  by_cases q : xs (k + 2) = 0
  · simp only [if_pos q]
    exact stepB (m_end h0 _ false) (K := fun τ => K (nI k + 4) τ) hK
  · simp only [if_neg q]
    exact stepB (m_end h0 _ true) (K := fun τ => K (nI k + 4) τ) hK
theorem lw_c26 (hk : k + 4 ≤ L) (hL : L ≤ 2048) (hr : Rel σ) (hK : ∀ τ, Rel τ → ∃ υ, K (nI k + 4) τ = some (1, υ)) : ∃ υ, f_L_law_1068 xs L K (nI k) σ = some (1, υ) := by
  obtain ⟨w, h, U, D, wt, h0⟩ := hr
  unfold f_L_law_1068 f_L_law_1176
  simp only [rs1 hk hL]
  exact stepB (m_reach h0 _) (K := fun τ => K (nI k + 4) τ) hK
theorem lw_c27 (hk : k + 4 ≤ L) (hL : L ≤ 2048) (hr : Rel σ) (hK : ∀ τ, Rel τ → ∃ υ, K (nI k + 4) τ = some (1, υ)) : ∃ υ, f_L_law_1091 xs L K (nI k) σ = some (1, υ) := by
  obtain ⟨w, h, U, D, wt, h0⟩ := hr
  unfold f_L_law_1091 f_L_law_1176
  simp only [rs1 hk hL]
  exact stepB (m_mirror h0 _) (K := fun τ => K (nI k + 4) τ) hK
theorem lw_c28 (hk : k + 4 ≤ L) (hL : L ≤ 2048) (hr : Rel σ) (hK : ∀ τ, Rel τ → ∃ υ, K (nI k + 4) τ = some (1, υ)) : ∃ υ, f_L_law_1114 xs L K (nI k) σ = some (1, υ) := by
  obtain ⟨w, h, U, D, wt, h0⟩ := hr
  unfold f_L_law_1114 f_L_law_1176
  exact stepB (m_most h0 ) (K := fun τ => K (nI k + 4) τ) hK
theorem lw_c29 (hk : k + 4 ≤ L) (hL : L ≤ 2048) (hr : Rel σ) (hK : ∀ τ, Rel τ → ∃ υ, K (nI k + 4) τ = some (1, υ)) : ∃ υ, f_L_law_1127 xs L K (nI k) σ = some (1, υ) := by
  obtain ⟨w, h, U, D, wt, h0⟩ := hr
  unfold f_L_law_1127 f_L_law_1176
  exact stepB (m_lack h0 ) (K := fun τ => K (nI k + 4) τ) hK
theorem lw_c30 (hk : k + 4 ≤ L) (hL : L ≤ 2048) (hr : Rel σ) (hK : ∀ τ, Rel τ → ∃ υ, K (nI k + 4) τ = some (1, υ)) : ∃ υ, f_L_law_1140 xs L K (nI k) σ = some (1, υ) := by
  obtain ⟨w, h, U, D, wt, h0⟩ := hr
  unfold f_L_law_1140 f_L_law_1176
  exact stepB (m_bar h0 ) (K := fun τ => K (nI k + 4) τ) hK
theorem lw_c31 (hk : k + 4 ≤ L) (hL : L ≤ 2048) (hr : Rel σ) (hK : ∀ τ, Rel τ → ∃ υ, K (nI k + 4) τ = some (1, υ)) : ∃ υ, f_L_law_1153 xs L K (nI k) σ = some (1, υ) := by
  obtain ⟨w, h, U, D, wt, h0⟩ := hr
  unfold f_L_law_1153 f_L_law_1176
  simp only [rs1 hk hL]
  exact stepB (m_barred h0 _) (K := fun τ => K (nI k + 4) τ) hK
end LW
theorem s_law18 {xs : Nat → Int32} {L : Nat} (hL : L ≤ 2048) : ∀ (n k : Nat) (σ : St), Rel σ → k ≤ L + 3 → L + 4 - k < n → ∃ υ, f_L_law_18 xs L n (nI k) σ = some (1, υ) := by
  intro n
  induction n with
  | zero => intro k σ hr h1 h2; omega
  | succ n ih =>
    intro k σ hr h1 h2
    rw [f_L_law_18]
    have hs : ((Int32.ofNat L) - (4 : Int32) < nI k) ↔ L < k + 4 := by
      have e : (nI L - nI 4).toInt = (L : Int) - 4 := pk_sub_toInt (by omega) (by decide)
      rw [show (Int32.ofNat L) - (4 : Int32) = nI L - nI 4 from rfl, Int32.lt_iff_toInt_lt, e, nI_toInt (by omega)]
      omega
    by_cases q : L < k + 4
    · rw [if_pos (hs.mpr q)]
      exact ⟨σ, rfl⟩
    · have hk : k + 4 ≤ L := by omega
      rw [if_neg (fun z => q (hs.mp z)), rdS_at (by omega) hL]
      have hK : ∀ τ, Rel τ → ∃ υ, f_L_law_18 xs L n (nI k + 4) τ = some (1, υ) := fun τ hτ => by
        rw [show nI k + (4 : Int32) = nI (k + 4) from nI_add _ 4]
        exact ih (k + 4) τ hτ (by omega) (by omega)
      obtain ⟨j, hj, ej⟩ := pk_andE (xs k) (m := 31) 5 rfl
      unfold swt
      rw [ej, nI_clamp (by omega)]
      rcases (show j = 0 ∨ j = 1 ∨ j = 2 ∨ j = 3 ∨ j = 4 ∨ j = 5 ∨ j = 6 ∨ j = 7 ∨ j = 8 ∨ j = 9 ∨ j = 10 ∨ j = 11 ∨ j = 12 ∨ j = 13 ∨ j = 14 ∨ j = 15 ∨ j = 16 ∨ j = 17 ∨ j = 18 ∨ j = 19 ∨ j = 20 ∨ j = 21 ∨ j = 22 ∨ j = 23 ∨ j = 24 ∨ j = 25 ∨ j = 26 ∨ j = 27 ∨ j = 28 ∨ j = 29 ∨ j = 30 ∨ j = 31 by omega) with e | e | e | e | e | e | e | e | e | e | e | e | e | e | e | e | e | e | e | e | e | e | e | e | e | e | e | e | e | e | e | e <;> subst e
      · exact lw_c0 hk hL hr hK
      · exact lw_c1 hk hL hr hK
      · exact lw_c2 hk hL hr hK
      · exact lw_c3 hk hL hr hK
      · exact lw_c4 hk hL hr hK
      · exact lw_c5 hk hL hr hK
      · exact lw_c6 hk hL hr hK
      · exact lw_c7 hk hL hr hK
      · exact lw_c8 hk hL hr hK
      · exact lw_c9 hk hL hr hK
      · exact lw_c10 hk hL hr hK
      · exact lw_c11 hk hL hr hK
      · exact lw_c12 hk hL hr hK
      · exact lw_c13 hk hL hr hK
      · exact lw_c14 hk hL hr hK
      · exact lw_c15 hk hL hr hK
      · exact lw_c16 hk hL hr hK
      · exact lw_c17 hk hL hr hK
      · exact lw_c18 hk hL hr hK
      · exact lw_c19 hk hL hr hK
      · exact lw_c20 hk hL hr hK
      · exact lw_c21 hk hL hr hK
      · exact lw_c22 hk hL hr hK
      · exact lw_c23 hk hL hr hK
      · exact lw_c24 hk hL hr hK
      · exact lw_c25 hk hL hr hK
      · exact lw_c26 hk hL hr hK
      · exact lw_c27 hk hL hr hK
      · exact lw_c28 hk hL hr hK
      · exact lw_c29 hk hL hr hK
      · exact lw_c30 hk hL hr hK
      · exact lw_c31 hk hL hr hK
theorem s_law {xs : Nat → Int32} {L : Nat} (hL : L ≤ 2048) {σ : St} (hr : Rel σ) : ∃ υ, f_L_law_18 xs L FU 0 σ = some (1, υ) := s_law18 hL FU 0 σ hr (Nat.zero_le _) (by unfold FU; omega)
