/-! ===== HALF 2: the LAYING with a given PLACE; lay of the reference ===== -/
theorem sm_mono (f : Nat → Nat) {a b : Nat} (h : a ≤ b) : sm f a ≤ sm f b := by
  obtain ⟨d, rfl⟩ : ∃ d, b = a + d := ⟨b - a, by omega⟩
  rw [sm_split]
  omega
def kOf (f : Nat → Nat) (i : Nat) : Nat → Nat
  | 0 => 0
  | n + 1 => if i < sm f n then kOf f i n else n
theorem kOf_spec {f : Nat → Nat} {i : Nat} : ∀ {n : Nat}, i < sm f n → sm f (kOf f i n) ≤ i ∧ i < sm f (kOf f i n + 1) ∧ kOf f i n < n
  | 0, h => by exact absurd h (by show ¬ i < 0; omega)
  | n + 1, h => by
    unfold kOf
    split
    · next q =>
      have := kOf_spec q
      exact ⟨this.1, this.2.1, by omega⟩
    · next q => exact ⟨by omega, h, by omega⟩
theorem kOf_uniq {f : Nat → Nat} {i k n : Nat} (h1 : sm f k ≤ i) (h2 : i < sm f (k + 1)) (hk : k < n) : kOf f i n = k := by
  have h3 : i < sm f n := Nat.lt_of_lt_of_le h2 (sm_mono f (by omega))
  obtain ⟨a1, a2, a3⟩ := kOf_spec h3
  rcases Nat.lt_trichotomy (kOf f i n) k with q | q | q
  · have := sm_mono f (show kOf f i n + 1 ≤ k by omega)
    omega
  · exact q
  · have := sm_mono f (show k + 1 ≤ kOf f i n by omega)
    omega
/-- the ways by each KIND -/
def fK (w : Nat) (U D : Nat → Bool) (N c m k : Nat) : Nat := ov (Tr w U D c m k) (Wr w U D (N - (c + 1)) (c + 1))
theorem Wr_fK {w : Nat} {U D : Nat → Bool} {N c m : Nat} (hc : c < N) : Wr w U D (N - c) c m = sm (fK w U D N c m) 4 := by
  rw [show N - c = N - (c + 1) + 1 by omega, Wr_succ]
  rfl
/-- where the walk to PLACE i stands at cell c: the open set, and what is left of i -/
def NW (w : Nat) (U D : Nat → Bool) (N i : Nat) : Nat → Nat × Nat
  | 0 => (0, i)
  | c + 1 => ((Tr w U D c (NW w U D N i c).1 (kOf (fK w U D N c (NW w U D N i c).1) (NW w U D N i c).2 4)).getD 0, (NW w U D N i c).2 - sm (fK w U D N c (NW w U D N i c).1) (kOf (fK w U D N c (NW w U D N i c).1) (NW w U D N i c).2 4))
def NK (w : Nat) (U D : Nat → Bool) (N i c : Nat) : Nat := kOf (fK w U D N c (NW w U D N i c).1) (NW w U D N i c).2 4
theorem NW_step {w : Nat} {U D : Nat → Bool} {N i c : Nat} (hc : c < N) (h : (NW w U D N i c).2 < Wr w U D (N - c) c (NW w U D N i c).1) :
    sm (fK w U D N c (NW w U D N i c).1) (NK w U D N i c) ≤ (NW w U D N i c).2 ∧ NK w U D N i c < 4 ∧ Tr w U D c (NW w U D N i c).1 (NK w U D N i c) = some (NW w U D N i (c + 1)).1 ∧ (NW w U D N i (c + 1)).2 = (NW w U D N i c).2 - sm (fK w U D N c (NW w U D N i c).1) (NK w U D N i c) ∧ (NW w U D N i (c + 1)).2 < Wr w U D (N - (c + 1)) (c + 1) (NW w U D N i (c + 1)).1 := by
  rw [Wr_fK hc] at h
  obtain ⟨a1, a2, a3⟩ := kOf_spec h
  have e2 : (NW w U D N i (c + 1)).2 = (NW w U D N i c).2 - sm (fK w U D N c (NW w U D N i c).1) (NK w U D N i c) := rfl
  have e1 : (NW w U D N i (c + 1)).1 = (Tr w U D c (NW w U D N i c).1 (NK w U D N i c)).getD 0 := rfl
  have a1' : sm (fK w U D N c (NW w U D N i c).1) (NK w U D N i c) ≤ (NW w U D N i c).2 := a1
  have a2' : (NW w U D N i c).2 < sm (fK w U D N c (NW w U D N i c).1) (NK w U D N i c) + fK w U D N c (NW w U D N i c).1 (NK w U D N i c) := a2
  have hf : fK w U D N c (NW w U D N i c).1 (NK w U D N i c) = ov (Tr w U D c (NW w U D N i c).1 (NK w U D N i c)) (Wr w U D (N - (c + 1)) (c + 1)) := rfl
  cases ht : Tr w U D c (NW w U D N i c).1 (NK w U D N i c) with
  | none =>
    rw [ht] at hf
    have : fK w U D N c (NW w U D N i c).1 (NK w U D N i c) = 0 := hf
    omega
  | some a =>
    rw [ht] at hf e1
    have e1' : (NW w U D N i (c + 1)).1 = a := e1
    have hf' : fK w U D N c (NW w U D N i c).1 (NK w U D N i c) = Wr w U D (N - (c + 1)) (c + 1) a := hf
    refine ⟨a1', a3, by rw [e1'], e2, ?_⟩
    rw [e1', e2]
    omega
theorem NW_ok {w : Nat} {U D : Nat → Bool} (hw : 1 ≤ w) {N i : Nat} (hi : i < Wr w U D N 0 0) : ∀ {c : Nat}, c ≤ N → (NW w U D N i c).1 < 2 ^ w ∧ (NW w U D N i c).2 < Wr w U D (N - c) c (NW w U D N i c).1
  | 0, _ => ⟨Nat.pow_pos (by decide), hi⟩
  | c + 1, hc => by
    have ih := NW_ok hw hi (c := c) (by omega)
    obtain ⟨b1, b2, b3, b4, b5⟩ := NW_step (show c < N by omega) ih.2
    exact ⟨Tr_lt hw ih.1 b3, b5⟩
/-- the reference's slot s holds K below n -/
def LM (σ : St) (s n : Nat) (K : Nat → Nat) : Prop := ∀ c, c < n → gi σ 30 (64 * s + c) = nI (K c)
theorem s_lay67 {w h : Nat} {U D : Nat → Bool} {σ : St} (g : MG σ w h U D) (hW : WaysOK σ w h U D) {i c s : Nat} (hi : i < Wr w U D (w * h) 0 0) (hc : c < w * h) (hs : s < 4) (k43 : Int32 → Int64 → Int32 → Int32 → St → Option (Int32 × St)) :
    ∀ (n k : Nat), k ≤ NK w U D (w * h) i c → NK w U D (w * h) i c - k < n → f_X6_lay_67 k43 n (nI s) (lN ((NW w U D (w * h) i c).2 - sm (fK w U D (w * h) c (NW w U D (w * h) i c).1) k)) (nI (NW w U D (w * h) i c).1) (nI c) (nI k) (oI (Tr w U D c (NW w U D (w * h) i c).1 k)) σ = k43 (nI s) (lN (NW w U D (w * h) i (c + 1)).2) (nI (NW w U D (w * h) i (c + 1)).1) (nI (c + 1)) (si σ 30 (64 * s + c) (nI (NK w U D (w * h) i c))) := by
  obtain ⟨hw1, hw8, hh1, hh8, -⟩ := id g
  have har := area_le hw8 hh8
  have h256 := pow_256 hw8
  have hok := NW_ok hw1 hi (show c ≤ w * h by omega)
  obtain ⟨b1, b2, b3, b4, b5⟩ := NW_step hc hok.2
  have hb := Wr_56 (U := U) (D := D) hw8 hh8 (show c + (w * h - c) = w * h by omega) (NW w U D (w * h) i c).1
  generalize (NW w U D (w * h) i c).1 = m at *
  generalize (NW w U D (w * h) i c).2 = j at *
  generalize NK w U D (w * h) i c = K at *
  intro n
  induction n with
  | zero => intro k h1 h2; omega
  | succ n ih =>
    intro k h1 h2
    have hmk := sm_mono (fK w U D (w * h) c m) h1
    have hs1 : sm (fK w U D (w * h) c m) (k + 1) = sm (fK w U D (w * h) c m) k + fK w U D (w * h) c m k := rfl
    have fk : fK w U D (w * h) c m k = ov (Tr w U D c m k) (Wr w U D (w * h - (c + 1)) (c + 1)) := rfl
    -- going on
    have go : ∀ v : Nat, v = fK w U D (w * h) c m k → k < K → f_X6_lay_129 (f_X6_lay_67 k43 n) (nI s) (nI m) (nI c) (nI k) (lN (j - sm (fK w U D (w * h) c m) k)) (lN v) σ = k43 (nI s) (lN (NW w U D (w * h) i (c + 1)).2) (nI (NW w U D (w * h) i (c + 1)).1) (nI (c + 1)) (si σ 30 (64 * s + c) (nI K)) := by
      intro v hv hk
      have hm2 := sm_mono (fK w U D (w * h) c m) (show k + 1 ≤ K by omega)
      unfold f_X6_lay_129
      rw [nI_1, bd_at (s_then g hc hok.1 (show k + 1 < 4 by omega)), lN_sub (by omega), hv, show j - sm (fK w U D (w * h) c m) k - fK w U D (w * h) c m k = j - sm (fK w U D (w * h) c m) (k + 1) by omega]
      exact ih (k + 1) (by omega) (by omega)
    rw [f_X6_lay_67]
    unfold f_X6_lay_98
    cases ht : Tr w U D c m k with
    | none =>
      rw [if_pos (show oI none = -900009 from rfl), if_pos (show oI none = -900009 from rfl)]
      have hne : k ≠ K := fun e => by rw [e, b3] at ht; cases ht
      exact go 0 (by rw [fk, ht]; rfl) (by omega)
    | some a =>
      have ha := Tr_lt hw1 hok.1 ht
      have hl := l256 (by omega : c + 1 ≤ w * h) hw8 hh8 ha
      have hba := Wr_56 (U := U) (D := D) hw8 hh8 (show c + 1 + (w * h - (c + 1)) = w * h by omega) a
      have fk' : fK w U D (w * h) c m k = Wr w U D (w * h - (c + 1)) (c + 1) a := by rw [fk, ht]; rfl
      rw [if_neg (show ¬ oI (some a) = -900009 from nI_none (by omega)), if_neg (show ¬ oI (some a) = -900009 from nI_none (by omega)), oI_some, show (256 : Int32) = nI 256 from rfl, nI_mul, nI_add, nI_add, show 256 * c + 256 + a = 256 * (c + 1) + a by omega]
      rw [rdL_at _ _ (show 256 * (c + 1) + a < len 31 from hl) (by decide), hW (c + 1) (by omega) a ha]
      by_cases hk : k = K
      · subst hk
        have e : a = (NW w U D (w * h) i (c + 1)).1 := by rw [b3] at ht; exact (Option.some.inj ht).symm
        rw [if_pos ((pk_lLT (by omega) (by omega)).mpr (by rw [e, ← b4]; exact b5)), show (64 : Int32) = nI 64 from rfl, nI_mul, nI_add, wrI_at _ _ _ (show 64 * s + c < len 30 by show _ < 256; omega) (by decide), nI_1, e, b4]
      · have hm2 := sm_mono (fK w U D (w * h) c m) (show k + 1 ≤ K by omega)
        rw [if_neg (fun z => by have := (pk_lLT (by omega) (by omega)).mp z; omega), rdL_at _ _ (show 256 * (c + 1) + a < len 31 from hl) (by decide), hW (c + 1) (by omega) a ha]
        exact go _ fk'.symm (by omega)
theorem s_lay43 {w h : Nat} {U D : Nat → Bool} {i s : Nat} (hi : i < Wr w U D (w * h) 0 0) (hs : s < 4) : ∀ (n c : Nat) (σ : St), c ≤ w * h → w * h - c < n → MG σ w h U D → WaysOK σ w h U D → LM σ s c (NK w U D (w * h) i) →
    ∃ σ', f_X6_lay_43 n (nI s) (lN (NW w U D (w * h) i c).2) (nI (NW w U D (w * h) i c).1) (nI c) σ = some (1, σ') ∧ LM σ' s (w * h) (NK w U D (w * h) i) ∧ gi σ' 29 s = 1 ∧ σ'.2 = σ.2 ∧ (∀ p j, ¬ (p = 29 ∧ j = s) → ¬ (p = 30 ∧ 64 * s ≤ j ∧ j < 64 * s + 64) → gi σ' p j = gi σ p j) := by
  intro n
  induction n with
  | zero => intro c σ h1 h2; omega
  | succ n ih =>
    intro c σ h1 h2 g hW hL
    obtain ⟨hw1, hw8, hh1, hh8, -⟩ := id g
    have har := area_le hw8 hh8
    rw [f_X6_lay_43, bd_at (s_cells g)]
    by_cases hc : w * h ≤ c
    · have e : c = w * h := by omega
      rw [if_pos (nI_le hc (by omega)), wrZ_at _ _ _ (show s < len 29 from hs) (by decide), show vp_nar .boolean 1 = 1 from rfl]
      refine ⟨_, rfl, fun c' hc' => ?_, gi_si_same _ _ _ _, rfl, fun p j h3 h4 => gi_si_ne _ _ _ _ h3⟩
      rw [gi_si_ne _ _ _ _ (by omega)]
      exact hL c' (by omega)
    · have hc' : c < w * h := by omega
      have hok := NW_ok hw1 hi h1
      rw [if_neg (nI_ge hc' (by omega)), show (0 : Int32) = nI 0 from rfl, bd_at (s_then g hc' hok.1 (by decide))]
      have h67 := s_lay67 g hW hi hc' hs (f_X6_lay_43 n) FU 0 (Nat.zero_le _) (by have := (NW_step hc' hok.2).2.1; unfold FU; omega)
      rw [show sm (fK w U D (w * h) c (NW w U D (w * h) i c).1) 0 = 0 from rfl, Nat.sub_zero] at h67
      rw [h67]
      have hex : eqx (fun p => p = 30) σ (si σ 30 (64 * s + c) (nI (NK w U D (w * h) i c))) := eqx.si eqx.rf rfl
      obtain ⟨σ', e1, e2, e3, e4, e5⟩ := ih (c + 1) (si σ 30 (64 * s + c) (nI (NK w U D (w * h) i c))) (by omega) (by omega) (g.keep hex (by decide) (by decide)) hW (fun c' hc2 => by
        by_cases he : c' = c
        · subst he; rw [gi_si_same]
        · rw [gi_si_ne _ _ _ _ (by omega)]; exact hL c' (by omega))
      refine ⟨σ', e1, e2, e3, e4, fun p j h3 h4 => ?_⟩
      rw [e5 p j h3 h4, gi_si_ne _ _ _ _ (by omega)]
