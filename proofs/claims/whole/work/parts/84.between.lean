/-! ===== HALF 2: between of the class ===== -/
theorem nI_iZ (n : Nat) : nI n = iZ (n : Int) := Int32.ofInt_eq_ofNat.symm
theorem iZ_sub (a b : Int) : iZ a - iZ b = iZ (a - b) := (Int32.ofInt_sub a b).symm
theorem nI_d (a b : Nat) : nI a - nI b = iZ ((a : Int) - (b : Int)) := by rw [nI_iZ, nI_iZ, iZ_sub]
theorem iZ_0 : iZ 0 = 0 := rfl
theorem jabs_iZ {z : Int} (h : -1000000 ≤ z ∧ z ≤ 1000000) : jabs (iZ z) = nI z.natAbs := by
  unfold jabs
  rw [nI_iZ]
  by_cases q : 0 ≤ z
  · rw [if_pos (show (0 : Int32) ≤ iZ z from (iZ_le (a := 0) (by omega) (by omega)).mpr q)]
    congr 1
    omega
  · rw [if_neg (show ¬ (0 : Int32) ≤ iZ z from fun r => q ((iZ_le (a := 0) (by omega) (by omega)).mp r)), ← iZ_0, iZ_sub]
    congr 1
    omega
def takeS (σ : St) (a b : Nat) : St := sl (sl (sl (si σ a 0 (gi σ b 0)) a 1 (gl σ b 1)) a 2 (gl σ b 2)) a 3 (gl σ b 3)
theorem s_take {σ : St} (a b : Nat) (h : gi σ b 0 = 0 ∨ gi σ b 0 = 1) : f_X2_take a b σ = some ((), takeS σ a b) := by
  unfold f_X2_take takeS
  rw [gz_of h, fI_at, fL_at, fL_at, fL_at, gl_si, gl_sl_ne _ _ _ _ (by omega), gl_si, gl_sl_ne _ _ _ _ (by omega), gl_sl_ne _ _ _ _ (by omega), gl_si]
theorem takeS_eqx (σ : St) (a b : Nat) : eqx (fun p => p = a) σ (takeS σ a b) := eqx.sl (eqx.sl (eqx.sl (eqx.si eqx.rf rfl) rfl) rfl) rfl
theorem takeS_0 (σ : St) (a b : Nat) : gi (takeS σ a b) a 0 = gi σ b 0 := gi_si_same _ _ _ _
theorem gl_takeS (σ : St) (a b : Nat) {k : Nat} (hk : k < 3) : gl (takeS σ a b) a (k + 1) = gl σ b (k + 1) := by
  unfold takeS
  rw [gl_sl, gl_sl, gl_sl]
  rcases (show k = 0 ∨ k = 1 ∨ k = 2 by omega) with e | e | e <;> subst e <;> simp
theorem LC_take {σ : St} {a b N : Nat} {U : Nat → Bool} {K : Nat → Nat} (h : LC σ b N U K) : LC (takeS σ a b) a N U K := fun c hc k hk => by
  rw [gl_takeS σ a b hk]
  exact h c hc k hk
/-- alike in the class's bits, alike as KINDS -/
theorem LC_same {σ τ : St} {a b w h : Nat} {U D : Nat → Bool} {K M : Nat → Nat} (hN : w * h ≤ 64) (h1 : LC σ a (w * h) U K) (h2 : LC τ b (w * h) U M) (l1 : LL w U D (w * h) K) (l2 : LL w U D (w * h) M) : (gl σ a 1 = gl τ b 1 ∧ gl σ a 2 = gl τ b 2 ∧ gl σ a 3 = gl τ b 3) ↔ K = M := by
  constructor
  · rintro ⟨e1, e2, e3⟩
    funext c
    rcases Nat.lt_or_ge c (w * h) with hc | hc
    · have hc64 : c < 64 := by omega
      have z : ∀ k, k < 3 → gl σ a (k + 1) = gl τ b (k + 1) := fun k hk => by
        rcases (show k = 0 ∨ k = 1 ∨ k = 2 by omega) with e | e | e <;> subst e
        · exact e1
        · exact e2
        · exact e3
      by_cases hu : U c = false
      · rw [(l1.1 c hc).2.1.mpr hu, (l2.1 c hc).2.1.mpr hu]
      · have hu' : U c = true := by
          cases q : U c with
          | true => rfl
          | false => exact absurd q hu
        have k3 : K c < 3 := by
          have := (l1.1 c hc).1
          have : ¬ K c = 3 := fun q => hu ((l1.1 c hc).2.1.mp q)
          omega
        have h3 := h1 c hc64 (K c) k3
        rw [z (K c) k3, h2 c hc64 (K c) k3, decide_eq_true (show c < w * h ∧ U c = true ∧ K c = K c from ⟨hc, hu', rfl⟩)] at h3
        exact (of_decide_eq_true h3).2.2.symm
    · rw [l1.2.1 c hc, l2.2.1 c hc]
  · intro e
    subst e
    have z : ∀ k, k < 3 → gl σ a (k + 1) = gl τ b (k + 1) := fun k hk => tb_ext (fun c hc => by rw [h1 c hc k hk, h2 c hc k hk])
    exact ⟨z 0 (by decide), z 1 (by decide), z 2 (by decide)⟩
theorem s_isLike (a b : Nat) (σ : St) : (gl σ a 1 = gl σ b 1 ∧ gl σ a 2 = gl σ b 2 ∧ gl σ a 3 = gl σ b 3 → f_X2_isLike a b σ = some (1, σ)) ∧ (¬ (gl σ a 1 = gl σ b 1 ∧ gl σ a 2 = gl σ b 2 ∧ gl σ a 3 = gl σ b 3) → f_X2_isLike a b σ = some (0, σ)) := by
  unfold f_X2_isLike f_X2_isLike_40 f_X2_isLike_41
  constructor
  · rintro ⟨e1, e2, e3⟩
    rw [if_pos e1, if_pos e2, if_pos e3, gz_1]
  · intro q
    by_cases e1 : gl σ a 1 = gl σ b 1
    · rw [if_pos e1]
      by_cases e2 : gl σ a 2 = gl σ b 2
      · rw [if_pos e2]
        by_cases e3 : gl σ a 3 = gl σ b 3
        · exact absurd ⟨e1, e2, e3⟩ q
        · rw [if_neg e3, gz_0]
      · rw [if_neg e2, gz_0]
    · rw [if_neg e1, gz_0]
theorem s_btw66 {σ : St} {T : Nat → Int} (hT : TY σ T) (hB : ∀ p, -1000 ≤ T p ∧ T p ≤ 1000) : ∀ (n x : Nat), x ≤ 64 → 64 - x < n → f_X4_between_66 n (nI (sm (fun p => (T p).natAbs) x)) (nI x) σ = some (nI (sm (fun p => (T p).natAbs) 64), σ) := by
  intro n
  induction n with
  | zero => intro x h1 h2; omega
  | succ n ih =>
    intro x h1 h2
    rw [f_X4_between_66]
    by_cases hx : 64 ≤ x
    · have : x = 64 := by omega
      rw [if_pos (show (64 : Int32) ≤ nI x from nI_le (a := 64) hx (by omega)), this]
    · rw [if_neg (show ¬ (64 : Int32) ≤ nI x from nI_ge (a := x) (b := 64) (by omega) (by decide)), rdI_at _ _ (show x < len 24 by show _ < 64; omega) (by decide), hT x (by omega), jabs_iZ (by have := hB x; omega), nI_add, nI_1]
      exact ih (x + 1) (by omega) (by omega)
theorem Rr_le {w : Nat} (hw : 1 ≤ w) (hw8 : w ≤ 8) (K : Nat → Nat) (p : Nat) : 0 ≤ Rr w K p ∧ Rr w K p ≤ 8 := by
  have h1 := Rg_le w K (p / w) (p % w)
  have h2 := Nat.mod_lt p (show 0 < w by omega)
  unfold Rr
  omega
/-- agreeing at all POINTS that are not INNER -/
def agr (w h : Nat) (U D : Nat → Bool) (K1 K2 : Nat → Nat) : Prop := ∀ x y, x ≤ w → y ≤ h → innB w U D (w * h) (y * w + x) = false → Dz w K1 K2 x y = 0
def P101124 : Nat → Prop := fun p => p = 10 ∨ p = 11 ∨ p = 24
theorem s_between {σ : St} {w h a b : Nat} {U D : Nat → Bool} {K1 K2 : Nat → Nat} (ha : 5 ≤ a ∧ a ≤ 8) (hb : 5 ≤ b ∧ b ≤ 8) (g : CG σ w h U D) (g6 : CI6 σ w h U D) (L1 : LC σ a (w * h) U K1) (L2 : LC σ b (w * h) U K2) (l1 : LL w U D (w * h) K1) (l2 : LL w U D (w * h) K2) (e1 : gi σ a 0 = 1) (e2 : gi σ b 0 = 1) :
    ∃ σ' r, f_X4_between a b σ = some (r, σ') ∧ (agr w h U D K1 K2 → r = nI (sm (fun p => (Rr w K2 p - Rr w K1 p).natAbs) 64)) ∧ (¬ agr w h U D K1 K2 → r = -1) ∧ eqx P101124 σ σ' := by
  have har := area_le g.2.1 g.2.2.2.1
  have hmea := fun K => mea_le (t := false) (w := w) (N := w * h) g.2.1 har K
  unfold f_X4_between
  have hf : f_J7_fill_53178 24 0 σ = some ((), fill σ 24 0 64 (fun _ => 0)) := s_fill (p := 24) 0 (by decide) FU 0 σ (Nat.zero_le _) (by decide)
  rw [bd_at hf]
  have x0 : eqx P101124 σ (fill σ 24 0 64 (fun _ => 0)) := fun p hp k => ⟨by rw [gi_fill, if_neg (fun z => hp (Or.inr (Or.inr z.1)))], rfl⟩
  have x0' : eqx (fun p => p = 24) σ (fill σ 24 0 64 (fun _ => 0)) := fun p hp k => ⟨by rw [gi_fill, if_neg (fun z => hp z.1)], rfl⟩
  generalize hσ1 : fill σ 24 0 64 (fun _ => 0) = σ1 at *
  have T0 : TY σ1 (fun _ => 0) := fun p hp => by
    rw [← hσ1, gi_fill, if_pos ⟨rfl, Nat.zero_le _, hp⟩]
    rfl
  have ga1 : gi σ1 a 0 = 1 := by rw [(x0' a (by show ¬ a = 24; omega) 0).1]; exact e1
  have gb1 : gi σ1 b 0 = 1 := by rw [(x0' b (by show ¬ b = 24; omega) 0).1]; exact e2
  have La1 : LC σ1 a (w * h) U K1 := L1.keep x0' (by show ¬ a = 24; omega)
  have Lb1 : LC σ1 b (w * h) U K2 := L2.keep x0' (by show ¬ b = 24; omega)
  rw [bd_at (s_take 10 a (Or.inr ga1))]
  have x1 := takeS_eqx σ1 10 a
  have LA := LC_take (a := 10) La1
  have T1 : TY (takeS σ1 10 a) (fun _ => 0) := fun p hp => by rw [(x1 24 (by decide) p).1]; exact T0 p hp
  have gb2 : gi (takeS σ1 10 a) b 0 = 1 := by rw [(x1 b (by show ¬ b = 10; omega) 0).1]; exact gb1
  have Lb2 : LC (takeS σ1 10 a) b (w * h) U K2 := Lb1.keep x1 (by show ¬ b = 10; omega)
  have gg1 := (g.keep x0' (by decide)).keep x1 (by decide)
  have gg61 := (g6.keep x0' (by decide)).keep x1 (by decide)
  generalize hσ2 : takeS σ1 10 a = σ2 at *
  rw [bd_at (s_take 11 b (Or.inr gb2))]
  have x2 := takeS_eqx σ2 11 b
  have LB := LC_take (a := 11) Lb2
  have LA2 : LC (takeS σ2 11 b) 10 (w * h) U K1 := LA.keep x2 (by decide)
  have T2 : TY (takeS σ2 11 b) (fun _ => 0) := fun p hp => by rw [(x2 24 (by decide) p).1]; exact T1 p hp
  have gg2 := gg1.keep x2 (by decide)
  have gg62 := gg61.keep x2 (by decide)
  generalize hσ3 : takeS σ2 11 b = σ3 at *
  obtain ⟨σ4, M1, m1, f1, f2, f3, f4, f5, f6, f7⟩ := s_sink3 (q := 10) (U := U) (D := D) (e := 1) (by decide) FU 0 K1 σ3 (fun _ => 0) (by have := hmea K1; unfold FU; omega) (by have := hmea K1; omega) gg2 gg62 LA2 T2
  have f1' : f_X4_sinkTallied 10 (1 : Int32) σ3 = some ((), σ4) := f1
  rw [bd_at f1']
  obtain ⟨σ5, M2, m2, d1, d2, d3, d4, d5, d6, d7⟩ := s_sink3 (q := 11) (U := U) (D := D) (e := -1) (by decide) FU 0 K2 σ4 _ (by have := hmea K2; unfold FU; omega) (by have := hmea K2; omega) (gg2.keep f7 (by decide)) (gg62.keep f7 (by decide)) (LB.keep f7 (by decide)) f5
  have d1' : f_X4_sinkTallied 11 (-1 : Int32) σ4 = some ((), σ5) := d1
  rw [bd_at d1']
  have f4' : LC σ5 10 (w * h) U M1 := f4.keep d7 (by decide)
  have hlike := LC_same (D := D) har f4' d4 (UpN_LL g.1 f2 l1) (UpN_LL g.1 d2 l2)
  have hbot := bots g.1 g.2.1 g.2.2.2.1 l1 l2 f2 d2 f3 d3
  have hex : eqx P101124 σ σ5 := by
    refine eqx.tr x0 (eqx.tr (x1.mono (fun p hp => Or.inl hp)) (eqx.tr (x2.mono (fun p hp => Or.inr (Or.inl hp))) (eqx.tr (f7.mono (fun p hp => ?_)) (d7.mono (fun p hp => ?_)))))
    · rcases hp with z | z
      · exact Or.inl z
      · exact Or.inr (Or.inr z)
    · rcases hp with z | z
      · exact Or.inr (Or.inl z)
      · exact Or.inr (Or.inr z)
  by_cases hM : M1 = M2
  · rw [bd_at ((s_isLike 10 11 σ5).1 (hlike.mpr hM)), if_neg (by decide)]
    have hT : TY σ5 (fun p => Rr w K2 p - Rr w K1 p) := fun p hp => by
      have z : (0 : Int) + 1 * (Rr w M1 p - Rr w K1 p) + -1 * (Rr w M2 p - Rr w K2 p) = Rr w K2 p - Rr w K1 p := by rw [hM]; omega
      rw [d5 p hp]
      show iZ ((0 : Int) + 1 * (Rr w M1 p - Rr w K1 p) + -1 * (Rr w M2 p - Rr w K2 p)) = iZ (Rr w K2 p - Rr w K1 p)
      rw [z]
    have h66 := s_btw66 hT (fun p => by have := Rr_le g.1 g.2.1 K1 p; have := Rr_le g.1 g.2.1 K2 p; omega) FU 0 (Nat.zero_le _) (by decide)
    exact ⟨σ5, _, h66, fun _ => rfl, fun q => absurd (hbot.mp hM) q, hex⟩
  · rw [bd_at ((s_isLike 10 11 σ5).2 (fun z => hM (hlike.mp z))), if_pos rfl]
    exact ⟨σ5, _, rfl, fun q => absurd (hbot.mpr q) hM, fun _ => rfl, hex⟩
