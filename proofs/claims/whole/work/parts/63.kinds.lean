/-! ===== HALF 2: the class's kinds, forced ===== -/
theorem With_out {w : Nat} {U D : Nat → Bool} {r c k : Nat} (hU : U c = false) (hk : k < 3) : With w U D r c k = 0 := by
  unfold With
  exact sm_all0 (fun m _ => by rw [Tr_out hU (by omega)]; rfl)
theorem s_waysThrough' {σ : St} {w h : Nat} {U D : Nat → Bool} (g : CG σ w h U D) (s : SK σ w h U D) {c k : Nat} (hc : c < w * h) (hk : k < 3) : f_X3_waysThrough (nI c) (nI k) σ = some (lN (With w U D (w * h - (c + 1)) c k), σ) := by
  rw [s_waysThrough g s hc hk]
  cases hU : U c with
  | true => rfl
  | false => rw [With_out hU hk]; rfl
theorem s_kindSet_5 {w h : Nat} {U D : Nat → Bool} {σ : St} (g : CG σ w h U D) (s : SK σ w h U D) {c : Nat} (hc : c < w * h) :
    ∀ (n k : Nat), k ≤ 3 → 3 - k < n → f_X3_kindSet_5 n (nI c) (nI (kset w U D (w * h) c k)) (nI k) σ = some (nI (kset w U D (w * h) c 3), σ) := by
  intro n
  induction n with
  | zero => intro k h1 h2; omega
  | succ n ih =>
    intro k h1 h2
    rw [f_X3_kindSet_5]
    by_cases hk : 3 ≤ k
    · have e : k = 3 := by omega
      subst e
      rw [if_pos (show (3 : Int32) ≤ nI 3 by decide)]
    · rw [if_neg (show ¬ (3 : Int32) ≤ nI k from nI_ge (a := k) (b := 3) (by omega) (by decide)), bd_at (s_waysThrough' g s hc (by omega))]
      unfold f_X3_kindSet_31
      have hb := With_57 (U := U) (D := D) g.1 g.2.1 g.2.2.2.1 hc (show k < 4 by omega)
      have hs := kset_lt w U D (w * h) c k
      have key := ih (k + 1) (by omega) (by omega)
      unfold kset at key
      by_cases h0 : With w U D (w * h - (c + 1)) c k = 0
      · rw [h0] at key ⊢
        rw [if_pos (show lN 0 = 0 by decide), nI_1]
        rw [if_pos rfl, Nat.add_zero] at key
        exact key
      · rw [if_neg (show ¬ lN (With w U D (w * h - (c + 1)) c k) = 0 from fun z => h0 ((lN_0 (by omega)).mp z)), (or_bit k (by omega) _ hs).1, nI_1]
        rw [if_neg h0] at key
        exact key
theorem s_kindSet {w h : Nat} {U D : Nat → Bool} {σ : St} (g : CG σ w h U D) (s : SK σ w h U D) {c : Nat} (hc : c < w * h) : f_X3_kindSet (nI c) σ = some (nI (kset w U D (w * h) c 3), σ) := by
  unfold f_X3_kindSet
  exact s_kindSet_5 g s hc FU 0 (by decide) (by decide)
def bc3 (n : Nat) : Int32 := nI n - (jushr (nI n) 1 &&& 1431655765)
theorem bc3_8 : ∀ n, n < 8 → ((((((bc3 n &&& 858993459) + (jushr (bc3 n) 2 &&& 858993459)) + jushr ((bc3 n &&& 858993459) + (jushr (bc3 n) 2 &&& 858993459)) 4) &&& 252645135) + jushr ((((bc3 n &&& 858993459) + (jushr (bc3 n) 2 &&& 858993459)) + jushr ((bc3 n &&& 858993459) + (jushr (bc3 n) 2 &&& 858993459)) 4) &&& 252645135) 8) + jushr ((((((bc3 n &&& 858993459) + (jushr (bc3 n) 2 &&& 858993459)) + jushr ((bc3 n &&& 858993459) + (jushr (bc3 n) 2 &&& 858993459)) 4) &&& 252645135) + jushr ((((bc3 n &&& 858993459) + (jushr (bc3 n) 2 &&& 858993459)) + jushr ((bc3 n &&& 858993459) + (jushr (bc3 n) 2 &&& 858993459)) 4) &&& 252645135) 8)) 16) &&& 63 = nI (pb n) := by decide +kernel
theorem s_bitCount3 {n : Nat} (hn : n < 8) (σ : St) : f_J6_bitCount_0f7a4 (nI n) σ = some (nI (pb n), σ) := by
  show some (_, σ) = _
  rw [← bc3_8 n hn]
  rfl
theorem pb_one : ∀ n, n < 8 → (nI (pb n) = 1 ↔ (n == 1 || n == 2 || n == 4) = true) := by decide +kernel
theorem s_forced_8 {w h : Nat} {U D : Nat → Bool} {σ : St} (g : CG σ w h U D) (s : SK σ w h U D) :
    ∀ (n c : Nat), c ≤ w * h → w * h - c < n → f_X5_forced_8 n (nI (forcedN w U D (w * h) c)) (nI c) σ = some (nI (forcedN w U D (w * h) (w * h)), σ) := by
  have har := area_le g.2.1 g.2.2.2.1
  intro n
  induction n with
  | zero => intro c h1 h2; omega
  | succ n ih =>
    intro c h1 h2
    rw [f_X5_forced_8, g.2.2.2.2.2.2.1]
    by_cases hc : w * h ≤ c
    · have e : c = w * h := by omega
      rw [if_pos (nI_le hc (by omega)), e]
    · have hc' : c < w * h := by omega
      have hk := kset_lt w U D (w * h) c 3
      have key := ih (c + 1) (by omega) (by omega)
      have hs : forcedN w U D (w * h) (c + 1) = forcedN w U D (w * h) c + (if (kset w U D (w * h) c 3 == 1 || kset w U D (w * h) c 3 == 2 || kset w U D (w * h) c 3 == 4) = true then 1 else 0) := rfl
      rw [hs] at key
      rw [if_neg (nI_ge hc' (by omega)), bd_at (s_kindSet g s hc'), bd_at (s_bitCount3 hk σ)]
      unfold f_X5_forced_41
      by_cases h1' : (kset w U D (w * h) c 3 == 1 || kset w U D (w * h) c 3 == 2 || kset w U D (w * h) c 3 == 4) = true
      · rw [if_pos ((pb_one _ hk).mpr h1'), nI_1, nI_1]
        rw [if_pos h1'] at key
        exact key
      · rw [if_neg (fun z => h1' ((pb_one _ hk).mp z)), nI_1]
        rw [if_neg h1', Nat.add_zero] at key
        exact key
