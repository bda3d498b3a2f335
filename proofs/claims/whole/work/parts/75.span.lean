/-! ===== HALF 2: worths of span and of the weights ===== -/
def wtS (kd : Nat) (e : Int) (_ k : Nat) : Int := if k = kd then e else 0
theorem wtS_B {kd : Nat} {e : Int} (he : e = 1 ∨ e = -1) (c k : Nat) : -99 ≤ wtS kd e c k ∧ wtS kd e c k ≤ 99 := by
  unfold wtS
  split <;> omega
theorem wtS_3 {kd : Nat} {e : Int} (hk : kd < 3) (c : Nat) : wtS kd e c 3 = 0 := by
  unfold wtS
  rw [if_neg (by omega)]
theorem wtS_R {F : Nat → Int32} {w h kd : Nat} (hk : kd < 3) {a2 : Int32} {e : Int} (he : e = if a2 = 0 then -1 else 1) : WtR F w h (wtS kd e) (nI kd) a2 := by
  refine ⟨fun c k => wtS_B (by by_cases q : a2 = 0 <;> simp [q] at he <;> omega) c k, fun σ _ c hc k hk4 => ?_⟩
  unfold f_X6_worth f_X6_worth_46 wtS
  by_cases h3 : k = 3
  · subst h3
    rw [if_pos (show nI 3 = 3 from rfl), if_neg (by omega)]
    rfl
  · rw [if_neg (show ¬ nI k = (3 : Int32) from fun q => h3 ((nI_eq (a := k) (b := 3) (by omega) (by decide)).mp q)), if_neg (show ¬ nI kd = (3 : Int32) from fun q => by have := (nI_eq (a := kd) (b := 3) (by omega) (by decide)).mp q; omega)]
    by_cases hq : k = kd
    · rw [hq, if_pos rfl, if_pos rfl, he]
      by_cases q : a2 = 0
      · rw [if_pos q, if_pos q]; rfl
      · rw [if_neg q, if_neg q]; rfl
    · rw [if_neg (fun q => hq ((nI_eq (by omega) (by omega)).mp q).symm), if_neg hq]
      rfl
theorem iZ_mul (a b : Int) : iZ a * iZ b = iZ (a * b) := (Int32.ofInt_mul a b).symm
theorem iZ_neg (a : Int) : -iZ a = iZ (-a) := (Int32.ofInt_neg a).symm
theorem RK_0 {σ : St} {w h : Nat} {U D : Nat → Bool} {wt : Nat → Nat → Int} (hR : RK σ w h U D wt) {z : Int} (hz : Bs w U D wt (w * h) 0 0 = some z) : gi σ 22 0 = iZ z := by
  have := hR 0 (Nat.zero_le _) 0 (by simp [lev]) (by rw [Nat.sub_zero]; show Wr w U D (w * h) 0 0 ≠ 0; intro q; rw [Bs_none.mpr q] at hz; cases hz)
  rw [Nat.sub_zero] at this
  have h2 : gi σ 22 0 = oY (Bs w U D wt (w * h) 0 0) := this
  rw [h2, hz]
  rfl
theorem s_span42 {w h kd : Nat} {U D : Nat → Bool} (hk : kd < 3) {e : Int} (he : e = 1 ∨ e = -1) : ∀ (n x : Nat) (σ : St), x ≤ 192 → 192 - x < n → CG σ w h U D → SK σ w h U D → (∀ j, j < x → gi σ 16 j = iZ (if j % 3 = kd then e else 0)) →
    ∃ σ', f_X5_span_42 n (nI kd) (iZ e) (nI x) σ = some (iZ e * gi σ' 22 0, σ') ∧ RK σ' w h U D (wtS kd e) ∧ eqx (fun p => p = 16 ∨ p = 22) σ σ' := by
  intro n
  induction n with
  | zero => intro x σ h1 h2; omega
  | succ n ih =>
    intro x σ h1 h2 g s hF
    have har := area_le g.2.1 g.2.2.2.1
    rw [f_X5_span_42, show Int32.ofNat (len 16) = nI 192 from rfl]
    by_cases hx : 192 ≤ x
    · have hW : WtC σ 16 w h (wtS kd e) := fun c hc k hk3 => by
        rw [hF (3 * c + k) (by omega)]
        unfold wtS
        rw [show (3 * c + k) % 3 = k by omega]
      obtain ⟨σ', e1, e2, e3⟩ := s_rank (Or.inr rfl) (fun c => wtS_3 hk c) (fun c k => wtS_B he c k) g s hW
      rw [if_pos (nI_le hx (by omega)), bd_at e1]
      exact ⟨σ', rfl, e2, e3.mono (fun p hp => Or.inr hp)⟩
    · rw [if_neg (nI_ge (by omega) (by omega)), show (3 : Int32) = nI 3 from rfl, rmI_at _ (by omega) (by decide) (by decide)]
      unfold f_X5_span_71
      have go : ∀ v : Int, v = (if x % 3 = kd then e else 0) → ∃ σ', (wrI σ 16 (nI x) (iZ v) fun σ1 => f_X5_span_42 n (nI kd) (iZ e) (nI x + 1) σ1) = some (iZ e * gi σ' 22 0, σ') ∧ RK σ' w h U D (wtS kd e) ∧ eqx (fun p => p = 16 ∨ p = 22) σ σ' := by
        intro v hv
        have hex : eqx (fun p => p = 16 ∨ p = 22) σ (si σ 16 x (iZ v)) := eqx.si eqx.rf (Or.inl rfl)
        rw [wrI_at _ _ _ (show x < len 16 by show _ < 192; omega) (by decide), nI_1]
        obtain ⟨σ', e1, e2, e3⟩ := ih (x + 1) (si σ 16 x (iZ v)) (by omega) (by omega) (g.keep hex (by decide)) (s.keep hex (by decide)) (fun j hj => by
          rw [gi_si]
          by_cases q : j = x
          · subst q; rw [if_pos ⟨rfl, rfl⟩, hv]
          · rw [if_neg (by omega)]; exact hF j (by omega))
        exact ⟨σ', e1, e2, eqx.tr hex e3⟩
      by_cases q : x % 3 = kd
      · rw [if_pos (by rw [q])]
        exact go e (by rw [if_pos q])
      · rw [if_neg (fun z => q ((nI_eq (by omega) (by omega)).mp z))]
        exact go 0 (by rw [if_neg q])
/-- the weights of both -/
def WT (σ : St) (wt : Nat → Nat → Int) : Prop := (∀ c k, -99 ≤ wt c k ∧ wt c k ≤ 99) ∧ (∀ c, wt c 3 = 0) ∧ ∀ c, c < 64 → ∀ k, k < 3 → gi σ 15 (3 * c + k) = iZ (wt c k) ∧ gi σ 28 (3 * c + k) = iZ (wt c k)
theorem WT.keep {P : Nat → Prop} {σ τ : St} {wt : Nat → Nat → Int} (h : WT σ wt) (he : eqx P σ τ) (h1 : ¬ P 15) (h2 : ¬ P 28) : WT τ wt := ⟨h.1, h.2.1, fun c hc k hk => ⟨by rw [(he 15 h1 _).1]; exact (h.2.2 c hc k hk).1, by rw [(he 28 h2 _).1]; exact (h.2.2 c hc k hk).2⟩⟩
theorem WT_C {σ : St} {w h : Nat} {wt : Nat → Nat → Int} (hN : w * h ≤ 64) (hT : WT σ wt) : WtC σ 15 w h wt := fun c hc k hk => (hT.2.2 c (by omega) k hk).1
theorem WT_R {σ : St} {w h : Nat} {wt : Nat → Nat → Int} (hN : w * h ≤ 64) (hT : WT σ wt) : WtR (fun j => gi σ 28 j) w h wt 3 1 := by
  refine ⟨hT.1, fun τ hF c hc k hk => ?_⟩
  unfold f_X6_worth f_X6_worth_46
  by_cases h3 : k = 3
  · subst h3
    rw [if_pos (show nI 3 = 3 from rfl), hT.2.1 c]
    rfl
  · rw [if_neg (show ¬ nI k = (3 : Int32) from fun q => h3 ((nI_eq (a := k) (b := 3) (by omega) (by decide)).mp q)), if_pos rfl, show (3 : Int32) = nI 3 from rfl, nI_mul, nI_add, rdI_at _ _ (show 3 * c + k < len 28 by show _ < 192; omega) (by decide), hF]
    show some (gi σ 28 (3 * c + k), τ) = _
    rw [(hT.2.2 c (by omega) k (by omega)).2]
