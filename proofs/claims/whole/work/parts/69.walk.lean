/-! ===== HALF 2: walkTo of the class ===== -/
/-- the class's number of a KIND: 0 stands for an UP that is OUT -/
def kc (U : Nat → Bool) (c k : Nat) : Nat := if U c = true then k else 0
def gK (w : Nat) (U D : Nat → Bool) (N c m k : Nat) : Nat := ov (Tk w U D c m k) (Wr w U D (N - (c + 1)) (c + 1))
theorem Tr_kind {w : Nat} {U D : Nat → Bool} {c m k a : Nat} (hk : k < 4) (h : Tr w U D c m k = some a) : (U c = true → k < 3) ∧ (U c = false → k = 3) := by
  refine ⟨fun hU => ?_, fun hU => ?_⟩
  · by_cases e : k = 3
    · rw [e, Tr_in3 hU] at h; cases h
    · omega
  · by_cases e : k = 3
    · exact e
    · rw [Tr_out hU e] at h; cases h
theorem Tk_kc {w : Nat} {U D : Nat → Bool} {c m k a : Nat} (hk : k < 4) (h : Tr w U D c m k = some a) : Tk w U D c m (kc U c k) = some a ∧ kc U c k < 3 := by
  obtain ⟨h1, h2⟩ := Tr_kind hk h
  unfold Tk kc
  cases hU : U c with
  | true => simp [h, h1 hU]
  | false =>
    have := h2 hU
    subst this
    simp [h]
theorem sm_gK {w : Nat} {U D : Nat → Bool} {N c m k a : Nat} (hk : k < 4) (h : Tr w U D c m k = some a) : sm (gK w U D N c m) (kc U c k) = sm (fK w U D N c m) k := by
  obtain ⟨h1, h2⟩ := Tr_kind hk h
  unfold kc
  cases hU : U c with
  | true =>
    rw [if_pos rfl]
    refine sm_congr (fun i _ => ?_)
    unfold gK fK Tk
    rw [if_pos hU]
  | false =>
    have := h2 hU
    subst this
    rw [if_neg (by decide)]
    show 0 = _
    exact (sm_all0 (fun i hi => by unfold fK; rw [Tr_out hU (by omega)]; rfl)).symm
theorem NW_lev {w : Nat} {U D : Nat → Bool} (hw : 1 ≤ w) {N i : Nat} (hi : i < Wr w U D N 0 0) : ∀ {c : Nat}, c ≤ N → (NW w U D N i c).1 ∈ lev w U D c
  | 0, _ => by simp [NW, lev]
  | c + 1, hc => by
    have hok := NW_ok hw hi (show c ≤ N by omega)
    obtain ⟨b1, b2, b3, b4, b5⟩ := NW_step (show c < N by omega) hok.2
    obtain ⟨t1, t2⟩ := Tk_kc b2 b3
    exact lev_mem.mpr ⟨_, NW_lev hw hi (by omega), _, t2, t1⟩
/-- the class's node of the set m at cell c -/
def nd (w : Nat) (U D : Nat → Bool) (c m : Nat) : Nat := fs w U D c + ix m (lev w U D c)
theorem nd_lt {w : Nat} {U D : Nat → Bool} (hw1 : 1 ≤ w) (hw : w ≤ 8) {c m : Nat} (h : m ∈ lev w U D c) : nd w U D c m < 70 * (c + 1) := by
  have h1 := fs_le (U := U) (D := D) hw1 hw (c + 1)
  have h2 := fs_succ w U D c
  have h3 := ix_lt h
  unfold nd
  omega
theorem rd_next {σ : St} {w h : Nat} {U D : Nat → Bool} (g : CG σ w h U D) (s : SK σ w h U D) {c m k : Nat} (hc : c < w * h) (hm : m ∈ lev w U D c) (hk : k < 3) {α : Type} (f : Int32 → Option α) : rdI σ 19 (nI (nd w U D c m) * (3 : Int32) + nI k) f = f (nxp w U D (w * h) c m k) := by
  have har := area_le g.2.1 g.2.2.2.1
  have hn := nd_lt g.1 g.2.1 hm
  have ei : nI (nd w U D c m) * (3 : Int32) + nI k = nI (3 * nd w U D c m + k) := by rw [show (3 : Int32) = nI 3 from rfl, nI_mul, nI_add, Nat.mul_comm]
  rw [ei, rdI_at _ _ (show 3 * nd w U D c m + k < len 19 by show _ < 13650; omega) (by decide)]
  have := s.2.2.1 c hc _ (ix_lt hm) k hk
  rw [getD_ix hm] at this
  unfold nd
  rw [this]
theorem nxp_some {w : Nat} {U D : Nat → Bool} {N c m k a : Nat} (ht : Tk w U D c m k = some a) (h0 : Wr w U D (N - (c + 1)) (c + 1) a ≠ 0) : nxp w U D N c m k = nI (nd w U D (c + 1) a) := by
  unfold nxp
  rw [ht]
  simp only [h0, if_false]
  rfl
theorem s_onwardBy {σ : St} {w h : Nat} {U D : Nat → Bool} (g : CG σ w h U D) (s : SK σ w h U D) {c m k : Nat} (hc : c < w * h) (hm : m ∈ lev w U D c) (hk : k < 3) : f_X3_onwardBy (nI (nd w U D c m)) (nI k) σ = some (lN (gK w U D (w * h) c m k), σ) := by
  have har := area_le g.2.1 g.2.2.2.1
  unfold f_X3_onwardBy f_X3_onwardBy_25 gK
  rw [rd_next g s hc hm hk]
  cases ht : Tk w U D c m k with
  | none =>
    rw [show nxp w U D (w * h) c m k = -1 by unfold nxp; rw [ht], if_neg (by decide)]
    rfl
  | some a =>
    by_cases h0 : Wr w U D (w * h - (c + 1)) (c + 1) a = 0
    · rw [show nxp w U D (w * h) c m k = -1 by unfold nxp; rw [ht]; simp only [h0, if_true], if_neg (by decide)]
      show some ((0 : Int64), σ) = some (lN (Wr w U D (w * h - (c + 1)) (c + 1) a), σ)
      rw [h0]
      rfl
    · have ha : a ∈ lev w U D (c + 1) := lev_mem.mpr ⟨m, hm, k, hk, ht⟩
      have hn := nd_lt g.1 g.2.1 ha
      rw [nxp_some ht h0, if_pos (nI_pos' (by omega)), rdL_at _ _ (show nd w U D (c + 1) a < len 20 by show _ < 4550; omega) (by decide)]
      have := s.2.2.2.1 (c + 1) (by omega) _ (ix_lt ha)
      rw [getD_ix ha] at this
      unfold nd
      rw [this]
      rfl
/-- one step -/
def stp (σ : St) (q : Nat) (U : Nat → Bool) (c k : Nat) : St := if U c = true then putS σ q (lshl 1 (nI c)) k else σ
theorem stp_eqx (σ : St) (q : Nat) (U : Nat → Bool) (c k : Nat) : eqx (fun p => p = q) σ (stp σ q U c k) := by
  unfold stp
  split
  · exact putS_eqx _ _ _ _
  · exact eqx.rf
theorem stp_1 (σ : St) (q : Nat) (U : Nat → Bool) (c k : Nat) : (stp σ q U c k).1 = σ.1 := by
  unfold stp
  split <;> rfl
theorem s_step {σ : St} {q w h : Nat} (hq : 5 ≤ q ∧ q ≤ 13) {U D : Nat → Bool} (g : CG σ w h U D) (s : SK σ w h U D) {c m k a : Nat} (hc : c < w * h) (hm : m ∈ lev w U D c) (hk : k < 3) (ht : Tk w U D c m k = some a) (h0 : Wr w U D (w * h - (c + 1)) (c + 1) a ≠ 0) : f_X3_step q (nI c) (nI (nd w U D c m)) (nI k) σ = some (nI (nd w U D (c + 1) a), stp σ q U c k) := by
  have har := area_le g.2.1 g.2.2.2.1
  unfold f_X3_step f_X3_step_22
  have hr := tb_read (gl σ 1 3) (show c < 64 by omega)
  rw [g.2.2.2.2.2.2.2.1 c (by omega)] at hr
  unfold stp
  cases hU : U c with
  | false =>
    rw [if_pos (hr.mpr hU), rd_next g s hc hm hk, nxp_some ht h0, if_neg (by decide)]
  | true =>
    have hex : eqx (fun p => p = q) σ (putS σ q (lshl 1 (nI c)) k) := putS_eqx _ _ _ _
    rw [if_neg (fun z => by have := hr.mp z; rw [hU] at this; cases this), bd_at (s_put q _ hk σ), rd_next (g.keep hex (by show ¬ 1 = q; omega)) (s.keep hex (by refine ⟨?_, ?_, ?_, ?_, ?_, ?_⟩ <;> (show ¬ _ = q; omega))) hc hm hk, nxp_some ht h0, if_pos rfl]
