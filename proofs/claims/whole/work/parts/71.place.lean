/-! ===== HALF 2: what a LAYING is; its PLACE ===== -/
/-- the open set at cell c when the KINDS are K -/
def Rn (w : Nat) (U D : Nat → Bool) (K : Nat → Nat) : Nat → Option Nat
  | 0 => some 0
  | c + 1 => match Rn w U D K c with
    | none => none
    | some m => Tr w U D c m (K c)
def IsL (w : Nat) (U D : Nat → Bool) (N : Nat) (K : Nat → Nat) : Prop := Rn w U D K N = some 0 ∧ ∀ c, c < N → K c < 4
theorem Rn_back {w : Nat} {U D : Nat → Bool} {K : Nat → Nat} {c a : Nat} (h : Rn w U D K (c + 1) = some a) : ∃ m, Rn w U D K c = some m ∧ Tr w U D c m (K c) = some a := by
  unfold Rn at h
  cases hm : Rn w U D K c with
  | none => rw [hm] at h; cases h
  | some m => rw [hm] at h; exact ⟨m, rfl, h⟩
theorem IsL_at {w : Nat} {U D : Nat → Bool} {N : Nat} {K : Nat → Nat} (h : IsL w U D N K) : ∀ (d c : Nat), c + d = N → ∃ m, Rn w U D K c = some m ∧ Wr w U D (N - c) c m ≠ 0
  | 0, c, e => by
    have : c = N := by omega
    subst this
    exact ⟨0, h.1, by rw [Nat.sub_self, Wr_zero]; decide⟩
  | d + 1, c, e => by
    obtain ⟨a, h1, h2⟩ := IsL_at h d (c + 1) (by omega)
    obtain ⟨m, h3, h4⟩ := Rn_back h1
    refine ⟨m, h3, ?_⟩
    rw [Wr_fK (by omega)]
    have h5 := sm_term (f := fK w U D N c m) (h.2 c (by omega))
    have h6 : fK w U D N c m (K c) = Wr w U D (N - (c + 1)) (c + 1) a := by unfold fK; rw [h4]; rfl
    omega
theorem Rn_lev {w : Nat} {U D : Nat → Bool} {K : Nat → Nat} {N : Nat} (hK : ∀ c, c < N → K c < 4) : ∀ {c m : Nat}, c ≤ N → Rn w U D K c = some m → m ∈ lev w U D c
  | 0, m, _, h => by
    have : 0 = m := Option.some.inj h
    subst this
    simp [lev]
  | c + 1, m, hc, h => by
    obtain ⟨a, h1, h2⟩ := Rn_back h
    obtain ⟨t1, t2⟩ := Tk_kc (hK c (by omega)) h2
    exact lev_mem.mpr ⟨a, Rn_lev hK (by omega) h1, _, t2, t1⟩
theorem NK_Rn {w : Nat} {U D : Nat → Bool} (hw : 1 ≤ w) {N i : Nat} (hi : i < Wr w U D N 0 0) : ∀ {c : Nat}, c ≤ N → Rn w U D (NK w U D N i) c = some (NW w U D N i c).1
  | 0, _ => rfl
  | c + 1, hc => by
    have hok := NW_ok hw hi (show c ≤ N by omega)
    obtain ⟨b1, b2, b3, b4, b5⟩ := NW_step (show c < N by omega) hok.2
    unfold Rn
    rw [NK_Rn hw hi (by omega)]
    exact b3
theorem NK_IsL {w : Nat} {U D : Nat → Bool} (hw : 1 ≤ w) {N i : Nat} (hi : i < Wr w U D N 0 0) : IsL w U D N (NK w U D N i) := by
  refine ⟨?_, fun c hc => (NW_step hc (NW_ok hw hi (by omega)).2).2.1⟩
  rw [NK_Rn hw hi (Nat.le_refl _)]
  have h := (NW_ok hw hi (Nat.le_refl N)).2
  rw [Nat.sub_self, Wr_zero] at h
  split at h
  · next e => rw [e]
  · omega
/-- its PLACE: the ways passed over -/
def PL (w : Nat) (U D : Nat → Bool) (N : Nat) (K : Nat → Nat) (c : Nat) : Nat := sm (fun c => sm (fK w U D N c ((Rn w U D K c).getD 0)) (K c)) c
theorem s_place48 {w h : Nat} {U D : Nat → Bool} {σ : St} (g : MG σ w h U D) (hW : WaysOK σ w h U D) {K : Nat → Nat} {s c m a : Nat} (hs : s < 4) (hc : c < w * h) (hm : m < 2 ^ w) (hK : K c < 4) (hL : gi σ 30 (64 * s + c) = nI (K c)) (ht : Tr w U D c m (K c) = some a) (k36 : Int32 → Int64 → Int32 → Int32 → St → Option (Int64 × St)) (acc : Nat) :
    ∀ (n k : Nat), k ≤ K c → K c - k < n → f_X6_place_48 k36 n (nI s) (lN (acc + sm (fK w U D (w * h) c m) k)) (nI m) (nI c) (nI k) σ = k36 (nI s) (lN (acc + sm (fK w U D (w * h) c m) (K c))) (nI a) (nI (c + 1)) σ := by
  obtain ⟨hw1, hw8, hh1, hh8, -⟩ := id g
  have har := area_le hw8 hh8
  have h256 := pow_256 hw8
  have ei : (64 : Int32) * nI s + nI c = nI (64 * s + c) := by rw [show (64 : Int32) = nI 64 from rfl, nI_mul, nI_add]
  intro n
  induction n with
  | zero => intro k h1 h2; omega
  | succ n ih =>
    intro k h1 h2
    rw [f_X6_place_48, ei, rdI_at _ _ (show 64 * s + c < len 30 by show _ < 256; omega) (by decide), hL]
    by_cases hk : K c ≤ k
    · have e : k = K c := by omega
      rw [if_pos (nI_le hk (by omega)), rdI_at _ _ (show 64 * s + c < len 30 by show _ < 256; omega) (by decide), hL, bd_at (s_then g hc hm hK), ht, oI_some, nI_1, e]
    · rw [if_neg (nI_ge (by omega) (by omega)), bd_at (s_then g hc hm (by omega))]
      unfold f_X6_place_107
      have key := ih (k + 1) (by omega) (by omega)
      have hs1 : sm (fK w U D (w * h) c m) (k + 1) = sm (fK w U D (w * h) c m) k + ov (Tr w U D c m k) (Wr w U D (w * h - (c + 1)) (c + 1)) := rfl
      cases hk' : Tr w U D c m k with
      | none =>
        rw [if_pos (show oI none = -900009 from rfl), nI_1, show (0 : Int64) = lN 0 from rfl, lN_add]
        rw [hs1, hk'] at key
        exact key
      | some b =>
        have hb := Tr_lt hw1 hm hk'
        have hl := l256 (by omega : c + 1 ≤ w * h) hw8 hh8 hb
        rw [if_neg (show ¬ oI (some b) = -900009 from nI_none (by omega)), oI_some, show (256 : Int32) = nI 256 from rfl, nI_mul, nI_add, nI_add, show 256 * c + 256 + b = 256 * (c + 1) + b by omega]
        rw [rdL_at _ _ (show 256 * (c + 1) + b < len 31 from hl) (by decide), hW (c + 1) (by omega) b hb, nI_1, lN_add, Nat.add_assoc]
        rw [hs1, hk'] at key
        exact key
theorem s_place36 {w h : Nat} {U D : Nat → Bool} {σ : St} (g : MG σ w h U D) (hW : WaysOK σ w h U D) {K : Nat → Nat} {s : Nat} (hs : s < 4) (hI : IsL w U D (w * h) K) (hL : LM σ s (w * h) K) :
    ∀ (n c : Nat), c ≤ w * h → w * h - c < n → f_X6_place_36 n (nI s) (lN (PL w U D (w * h) K c)) (nI ((Rn w U D K c).getD 0)) (nI c) σ = some (lN (PL w U D (w * h) K (w * h)), σ) := by
  obtain ⟨hw1, hw8, hh1, hh8, -⟩ := id g
  have har := area_le hw8 hh8
  intro n
  induction n with
  | zero => intro c h1 h2; omega
  | succ n ih =>
    intro c h1 h2
    rw [f_X6_place_36, bd_at (s_cells g)]
    by_cases hc : w * h ≤ c
    · have e : c = w * h := by omega
      rw [if_pos (nI_le hc (by omega)), e]
    · have hc' : c < w * h := by omega
      obtain ⟨a, r1, -⟩ := IsL_at hI (w * h - (c + 1)) (c + 1) (by omega)
      obtain ⟨m, r2, r3⟩ := Rn_back r1
      have hm : m < 2 ^ w := lev_lt hw1 (Rn_lev hI.2 h1 r2)
      rw [if_neg (nI_ge hc' (by omega)), r2, show (some m).getD 0 = m from rfl]
      have h48 := s_place48 g hW hs hc' hm (hI.2 c hc') (hL c hc') r3 (f_X6_place_36 n) (PL w U D (w * h) K c) FU 0 (Nat.zero_le _) (by have := hI.2 c hc'; unfold FU; omega)
      rw [show sm (fK w U D (w * h) c m) 0 = 0 from rfl, Nat.add_zero, show nI 0 = 0 from rfl] at h48
      rw [h48]
      have key := ih (c + 1) (by omega) (by omega)
      rw [r1, show PL w U D (w * h) K (c + 1) = PL w U D (w * h) K c + sm (fK w U D (w * h) c ((Rn w U D K c).getD 0)) (K c) from rfl, r2] at key
      exact key
