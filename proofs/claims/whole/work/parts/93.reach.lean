/-! ===== HALF 2: reach of the reference; both answer alike ===== -/
theorem s_reach88 {w h s : Nat} {U D : Nat → Bool} {K0 : Nat → Nat} (hs : s < 4) : ∀ (f i : Nat) (σ : St) (n : Nat) (Kf : Nat → Nat → Nat) (b : Bool), i ≤ n → 2001 - i < f → MG σ w h U D → BF σ w h U D K0 n Kf → 1 ≤ n → Kf 0 = K0 → (b = true → ∀ i', i' < i → ∀ c, nbs w U D (w * h) (Kf i') n Kf c) → (b = false → over w U D (w * h) K0 n Kf) →
    ∃ σ' n' Kf' b', f_X6_reach_88 f (nI s) (bI b) (nI i) σ = f_X6_reach_113 (nI s) (bI b') σ' ∧ eqr s σ σ' ∧ BF σ' w h U D K0 n' Kf' ∧ 1 ≤ n' ∧ Kf' 0 = K0 ∧ (b' = true → ∀ i', i' < n' → ∀ c, nbs w U D (w * h) (Kf' i') n' Kf' c) ∧ (b' = false → over w U D (w * h) K0 n' Kf') := by
  intro f
  induction f with
  | zero => intro i σ n Kf b h1 h2 g hB; have := hB.1; omega
  | succ f ih =>
    intro i σ n Kf b h1 h2 g hB hn1 hK0 hcl hov
    obtain ⟨⟨t, La, Lb, hH, hP⟩, hF, hD⟩ := id hB
    obtain ⟨H1, H2, H3, H4, H5, H6⟩ := id hH
    rw [f_X6_reach_88, H2]
    by_cases hi : n ≤ i
    · have e : i = n := by omega
      rw [if_pos (nI_le hi (by omega))]
      rw [e] at hcl
      exact ⟨σ, n, Kf, b, rfl, eqr.rf, hB, hn1, hK0, hcl, hov⟩
    · have hi' : i < n := by omega
      rw [if_neg (nI_ge hi' (by omega))]
      cases hb : b with
      | false =>
        rw [if_pos bI_f]
        exact ⟨σ, n, Kf, false, rfl, eqr.rf, hB, hn1, hK0, fun q => (by cases q), fun _ => hov hb⟩
      | true =>
        rw [if_neg bIt]
        unfold f_X6_meetAll f_X6_unpack
        have hLi := (hF i hi').1
        obtain ⟨σ1, d1, d2, d3⟩ := s_unpack2 hs (show i < 2001 by omega) (LL_4 hLi) FU 0 σ (Nat.zero_le _) (by have := area_le g.2.1 g.2.2.2.1; unfold FU; omega) g (by rw [(H4 i hi').1]; exact (hP i hi').1) (by rw [(H4 i hi').2]; exact (hP i hi').2) (fun c hc => by omega)
        have d1' : f_X6_unpack_2 FU (nI s) (nI i) (0 : Int32) σ = some ((), σ1) := d1
        rw [bd_at d1']
        have h81 := pp_le g.2.1 g.2.2.2.1
        obtain ⟨σ2, n2, Kf2, b2, e1, e2, e3, e4, e5, e6, e7, e8⟩ := s_meetAll8 hs hLi (hF i hi').2 FU 0 σ1 n Kf (Nat.zero_le _) (by unfold FU; omega) (eqs_MG g d3) d2 (BF_s hB d3) (fun p' hp' => by omega)
        have e1' : f_X6_meetAll_8 FU (nI s) (0 : Int32) σ1 = some (bI b2, σ2) := e1
        rw [bd_at e1', nI_1]
        obtain ⟨σ3, n3, Kf3, b3, q1, q2, q3, q4, q5, q6, q7⟩ := ih (i + 1) σ2 n2 Kf2 b2 (by omega) (by omega) e3 e4 (by omega) (by rw [e6 0 (by omega)]; exact hK0) (fun hb2 i' hi2 c tt hat => by
          by_cases e : i' = i
          · rw [e, e6 i hi'] at hat ⊢
            obtain ⟨p, hp, hpe⟩ := p_of (h := h) (inn_of hat.1).1 g.1
            have := e7 hb2 p hp tt
            rw [hpe] at this
            exact this hat
          · rw [e6 i' (by omega)] at hat ⊢
            obtain ⟨j, j1, j2⟩ := hcl hb i' (by omega) c tt hat
            exact ⟨j, by omega, by rw [e6 j j1]; exact j2⟩) e8
        exact ⟨σ3, n3, Kf3, b3, q1, eqr.tr (eqr.s d3) (eqr.tr e2 q2), q3, q4, q5, q6, q7⟩
theorem s_reach115 {s : Nat} (hs : s < 4) (b : Bool) {F : Nat → Int32} : ∀ (n x : Nat) (σ : St), x ≤ 64 → 64 - x < n → (∀ c, c < 64 → gi σ 39 c = F c) → f_X6_reach_115 n (nI s) (bI b) (nI x) σ = some (if b then gi σ 26 14 else -900005, fill σ 30 (64 * s + x) (64 * s + 64) (fun j => F (j - 64 * s))) := by
  intro n
  induction n with
  | zero => intro x σ h1 h2; omega
  | succ n ih =>
    intro x σ h1 h2 hF
    rw [f_X6_reach_115]
    unfold f_X6_reach_157
    by_cases hx : 64 ≤ x
    · have e : x = 64 := by omega
      rw [if_pos (show (64 : Int32) ≤ nI x from nI_le (a := 64) hx (by omega)), e, fill_end]
      cases b with
      | false => rw [if_pos bI_f]; rfl
      | true => rw [if_neg bIt]; rfl
    · rw [if_neg (show ¬ (64 : Int32) ≤ nI x from nI_ge (a := x) (b := 64) (by omega) (by decide)), rdI_at _ _ (show x < len 39 by show _ < 64; omega) (by decide), hF x (by omega), show (64 : Int32) * nI s + nI x = nI (64 * s + x) by rw [show (64 : Int32) = nI 64 from rfl, nI_mul, nI_add], wrI_at _ _ _ (show 64 * s + x < len 30 by show _ < 256; omega) (by decide), nI_1, ih (x + 1) (si σ 30 (64 * s + x) (F x)) (by omega) (by omega) (fun c hc => by rw [gi_si_ne _ _ _ _ (by omega)]; exact hF c hc), gi_si_ne _ _ _ _ (by omega)]
      have := fill_step σ 30 (64 * s + x) (64 * s + 64) (fun j => F (j - 64 * s)) (by omega)
      rw [show 64 * s + x - 64 * s = x by omega] at this
      rw [show 64 * s + (x + 1) = 64 * s + x + 1 by omega, this]
/-- REACH, as both tell it -/
def Rch (w : Nat) (U D : Nat → Bool) (N : Nat) (K0 : Nat → Nat) (r : Int32) : Prop := (∃ l : List (Nat → Nat), l.Nodup ∧ (∀ K, K ∈ l ↔ Rc w U D N K0 K) ∧ l.length ≤ 2000 ∧ r = nI l.length) ∨ ((∃ l : List (Nat → Nat), l.Nodup ∧ (∀ K, K ∈ l → Rc w U D N K0 K) ∧ l.length = 2001) ∧ r = -900005)
theorem Rch_one {w : Nat} {U D : Nat → Bool} {N : Nat} {K0 : Nat → Nat} {r r' : Int32} (h : Rch w U D N K0 r) (h' : Rch w U D N K0 r') : r = r' := by
  rcases h with ⟨l, a1, a2, a3, a4⟩ | ⟨⟨l, a1, a2, a3⟩, a4⟩
  · rcases h' with ⟨l', b1, b2, b3, b4⟩ | ⟨⟨l', b1, b2, b3⟩, b4⟩
    · have h1 := len_sub a1 (fun K hK => (b2 K).mpr ((a2 K).mp hK))
      have h2 := len_sub b1 (fun K hK => (a2 K).mpr ((b2 K).mp hK))
      rw [a4, b4, show l.length = l'.length by omega]
    · have h1 := len_sub b1 (fun K hK => (a2 K).mpr (b2 K hK))
      omega
  · rcases h' with ⟨l', b1, b2, b3, b4⟩ | ⟨⟨l', b1, b2, b3⟩, b4⟩
    · have h1 := len_sub a1 (fun K hK => (b2 K).mpr (a2 K hK))
      omega
    · rw [a4, b4]
theorem map_nodup {α : Type} {f : Nat → α} : ∀ {n : Nat}, (∀ i j, i < n → j < n → f i = f j → i = j) → ((List.range n).map f).Nodup
  | 0, _ => by simp
  | n + 1, h => by
    rw [List.range_succ, List.map_append, List.nodup_append]
    refine ⟨map_nodup (fun i j hi hj => h i j (by omega) (by omega)), by simp, fun a ha b hb e => ?_⟩
    subst e
    obtain ⟨i, hi, e1⟩ := List.mem_map.mp ha
    obtain ⟨j, hj, e2⟩ := List.mem_map.mp hb
    rw [List.mem_range] at hi
    rw [List.mem_singleton] at hj
    have := h i j (by omega) (by omega) (e1.trans e2.symm)
    omega
theorem BF_Rch {σ : St} {w h n : Nat} {U D : Nat → Bool} {K0 : Nat → Nat} {Kf : Nat → Nat → Nat} {b : Bool} (hB : BF σ w h U D K0 n Kf) (hn : 1 ≤ n) (h0 : Kf 0 = K0) (h1 : b = true → ∀ i', i' < n → ∀ c, nbs w U D (w * h) (Kf i') n Kf c) (h2 : b = false → over w U D (w * h) K0 n Kf) : Rch w U D (w * h) K0 (if b then gi σ 26 14 else -900005) := by
  obtain ⟨⟨t, La, Lb, hH, hP⟩, hF, hD⟩ := hB
  have hnd := map_nodup (f := Kf) (n := n) hD
  have hlen : ((List.range n).map Kf).length = n := by rw [List.length_map, List.length_range]
  have hm : ∀ K, K ∈ (List.range n).map Kf ↔ ∃ i, i < n ∧ Kf i = K := fun K => by
    rw [List.mem_map]
    constructor
    · rintro ⟨i, hi, e⟩; exact ⟨i, List.mem_range.mp hi, e⟩
    · rintro ⟨i, hi, e⟩; exact ⟨i, List.mem_range.mpr hi, e⟩
  cases b with
  | true =>
    have hcl := h1 rfl
    refine Or.inl ⟨(List.range n).map Kf, hnd, fun K => ?_, by rw [hlen]; exact hH.1, by rw [hlen]; exact hH.2.1⟩
    rw [hm]
    constructor
    · rintro ⟨i, hi, e⟩
      rw [← e]
      exact (hF i hi).2
    · intro hR
      have gen : ∀ (k : Nat) (A : Nat → Nat), (∃ i, i < n ∧ Kf i = A) → RcN w U D (w * h) k A K → ∃ i, i < n ∧ Kf i = K := by
        intro k
        induction k with
        | zero =>
          intro A hA hk
          have e : A = K := hk
          rw [← e]
          exact hA
        | succ k ih =>
          intro A hA hk
          obtain ⟨tt, c, q1, q2⟩ := hk
          obtain ⟨i, i1, i2⟩ := hA
          rw [← i2] at q1 q2
          exact ih _ (hcl i i1 c tt q1) q2
      obtain ⟨k, hk⟩ := hR
      exact gen k K0 ⟨0, by omega, h0⟩ hk
  | false =>
    obtain ⟨o1, K, o2, o3⟩ := h2 rfl
    refine Or.inr ⟨⟨K :: (List.range n).map Kf, ?_, fun M hM => ?_, ?_⟩, rfl⟩
    · rw [List.nodup_cons]
      refine ⟨fun q => ?_, hnd⟩
      obtain ⟨i, i1, i2⟩ := (hm K).mp q
      exact o3 i i1 i2
    · rcases List.mem_cons.mp hM with q | q
      · rw [q]; exact o2
      · obtain ⟨i, i1, i2⟩ := (hm M).mp q
        rw [← i2]
        exact (hF i i1).2
    · rw [List.length_cons, hlen, o1]
/-- what reach has changed at its end -/
def eqe (σ τ : St) : Prop := (∀ p k, ¬ (p = 26 ∧ k = 14) → p ≠ 38 → p ≠ 39 → gi τ p k = gi σ p k) ∧ ∀ p k, p ≠ 36 → p ≠ 37 → gl τ p k = gl σ p k
theorem s_reach55 {w h s : Nat} {U D : Nat → Bool} {K0 : Nat → Nat} (hs : s < 4) (hK : LL w U D (w * h) K0) {F : Nat → Int32} : ∀ (n x : Nat) (σ : St), x ≤ 4096 → 4096 - x < n → MG σ w h U D → LM σ s (w * h) K0 → (∀ c, c < 64 → gi σ 39 c = F c ∧ gi σ 30 (64 * s + c) = F c) → (∀ j, j < x → gi σ 38 j = 0) →
    ∃ σ' r, f_X6_reach_55 n (nI s) (nI x) σ = some (r, σ') ∧ Rch w U D (w * h) K0 r ∧ eqe σ σ' := by
  intro n
  induction n with
  | zero => intro x σ h1 h2; omega
  | succ n ih =>
    intro x σ h1 h2 g hM hF h0
    rw [f_X6_reach_55]
    by_cases hx : 4096 ≤ x
    · rw [if_pos (show (4096 : Int32) ≤ nI x from nI_le (a := 4096) hx (by omega)), fI_at]
      have hh0 : eqh σ (si σ 26 14 0) := ⟨fun p k a _ => gi_si_ne _ _ _ _ a, fun _ _ _ _ => rfl⟩
      have hBF : BF (si σ 26 14 0) w h U D K0 0 (fun _ _ => 0) := by
        refine ⟨⟨fun _ => 0, fun _ => 0, fun _ => 0, ⟨by omega, gi_si_same _ _ _ _, fun j hj => ⟨?_, Nat.le_refl _⟩, fun i hi => by omega, ?_, fun i hi => by omega⟩, fun i hi => by omega⟩, fun i hi => by omega, fun i j hi => by omega⟩
        · rw [gi_si_ne _ _ _ _ (by omega), h0 j (by omega)]; rfl
        · exact Nat.le_of_eq (cnt_false (fun i _ => decide_eq_false (fun z => z rfl)))
      rcases s_meet (hh0.MG g) hs (hh0.LM hM) hK Rc.rf hBF with ⟨⟨i, q1, -⟩, -⟩ | ⟨-, q2, -⟩ | ⟨-, -, σ1, q3, q4, q5⟩
      · omega
      · omega
      · rw [bd_at q3]
        have g1 := q5.MG (hh0.MG g)
        obtain ⟨σ2, n2, Kf2, b2, d1, d2, d3, d4, d5, d6, d7⟩ := s_reach88 hs FU 0 σ1 1 _ true (Nat.zero_le _) (by decide) g1 q4 (Nat.le_refl _) (if_pos rfl) (fun _ i' hi' => by omega) (fun q => by cases q)
        have d1' : f_X6_reach_88 FU (nI s) (1 : Int32) (0 : Int32) σ1 = f_X6_reach_113 (nI s) (bI b2) σ2 := d1
        rw [d1']
        unfold f_X6_reach_113
        have hF2 : ∀ c, c < 64 → gi σ2 39 c = F c := fun c hc => by
          rw [d2.1 39 c (by omega) (by omega) (by omega), q5.1 39 c (by omega) (by omega), hh0.1 39 c (by omega) (by omega)]
          exact (hF c hc).1
        have h115 := s_reach115 hs b2 FU 0 σ2 (Nat.zero_le _) (by decide) hF2
        rw [show nI 0 = 0 from rfl] at h115
        refine ⟨_, _, h115, BF_Rch d3 d4 d5 d6 d7, fun p k a1 a2 a3 => ?_, fun p k a1 a2 => ?_⟩
        · rw [gi_fill]
          by_cases z : p = 30 ∧ 64 * s + 0 ≤ k ∧ k < 64 * s + 64
          · rw [if_pos z, z.1, show k = 64 * s + (k - 64 * s) by omega, (hF (k - 64 * s) (by omega)).2, show 64 * s + (k - 64 * s) - 64 * s = k - 64 * s by omega]
          · rw [if_neg z, d2.1 p k a1 a2 (by omega), q5.1 p k a1 a2, hh0.1 p k a1 a2]
        · rw [gl_fill, d2.2 p k a1 a2, q5.2 p k a1 a2, hh0.2 p k a1 a2]
    · rw [if_neg (show ¬ (4096 : Int32) ≤ nI x from nI_ge (a := x) (b := 4096) (by omega) (by decide)), wrI_at _ _ _ (show x < len 38 by show _ < 4096; omega) (by decide), nI_1]
      have hh0 : eqh σ (si σ 38 x 0) := ⟨fun p k _ a => gi_si_ne _ _ _ _ (fun z => a z.1), fun _ _ _ _ => rfl⟩
      obtain ⟨σ', r, d1, d2, d3⟩ := ih (x + 1) (si σ 38 x 0) (by omega) (by omega) (hh0.MG g) (hh0.LM hM) (fun c hc => by rw [gi_si_ne _ _ _ _ (by omega), gi_si_ne _ _ _ _ (by omega)]; exact hF c hc) (fun j hj => by
        rw [gi_si]
        by_cases e : j = x
        · rw [if_pos ⟨rfl, e⟩]
        · rw [if_neg (by omega)]; exact h0 j (by omega))
      exact ⟨σ', r, d1, d2, fun p k a1 a2 a3 => by rw [d3.1 p k a1 a2 a3, hh0.1 p k a1 a2], fun p k a1 a2 => by rw [d3.2 p k a1 a2, hh0.2 p k a1 a2]⟩
theorem s_reach24 {w h s : Nat} {U D : Nat → Bool} {K0 : Nat → Nat} (hs : s < 4) (hK : LL w U D (w * h) K0) : ∀ (n x : Nat) (σ : St), x ≤ 64 → 64 - x < n → MG σ w h U D → LM σ s (w * h) K0 → (∀ c, c < x → gi σ 39 c = gi σ 30 (64 * s + c)) →
    ∃ σ' r, f_X6_reach_24 n (nI s) (nI x) σ = some (r, σ') ∧ Rch w U D (w * h) K0 r ∧ eqe σ σ' := by
  intro n
  induction n with
  | zero => intro x σ h1 h2; omega
  | succ n ih =>
    intro x σ h1 h2 g hM h0
    rw [f_X6_reach_24]
    by_cases hx : 64 ≤ x
    · rw [if_pos (show (64 : Int32) ≤ nI x from nI_le (a := 64) hx (by omega))]
      exact s_reach55 hs hK (F := fun c => gi σ 30 (64 * s + c)) FU 0 σ (Nat.zero_le _) (by decide) g hM (fun c hc => ⟨h0 c (by omega), rfl⟩) (fun j hj => by omega)
    · rw [if_neg (show ¬ (64 : Int32) ≤ nI x from nI_ge (a := x) (b := 64) (by omega) (by decide)), show (64 : Int32) * nI s + nI x = nI (64 * s + x) by rw [show (64 : Int32) = nI 64 from rfl, nI_mul, nI_add], rdI_at _ _ (show 64 * s + x < len 30 by show _ < 256; omega) (by decide), wrI_at _ _ _ (show x < len 39 by show _ < 64; omega) (by decide), nI_1]
      have hex : eqx (fun p => p = 39) σ (si σ 39 x (gi σ 30 (64 * s + x))) := eqx.si eqx.rf rfl
      obtain ⟨σ', r, d1, d2, d3⟩ := ih (x + 1) (si σ 39 x (gi σ 30 (64 * s + x))) (by omega) (by omega) (g.keep hex (by decide) (by decide)) (fun c hc => by rw [gi_si_ne _ _ _ _ (by omega)]; exact hM c hc) (fun c hc => by
        rw [gi_si, gi_si_ne _ _ _ _ (show ¬ (30 = 39 ∧ 64 * s + c = x) by omega)]
        by_cases e : c = x
        · rw [if_pos ⟨rfl, e⟩, e]
        · rw [if_neg (by omega)]; exact h0 c (by omega))
      exact ⟨σ', r, d1, d2, fun p k a1 a2 a3 => by rw [d3.1 p k a1 a2 a3, gi_si_ne _ _ _ _ (fun z => a3 z.1)], fun p k a1 a2 => by rw [d3.2 p k a1 a2]; rfl⟩
/-- the class's answer -/
theorem cf_Rch {w : Nat} {U D : Nat → Bool} {N : Nat} (hw : 1 ≤ w) (hw8 : w ≤ 8) (hN : N ≤ 64) {K B : Nat → Nat} {n : Nat} (hU : UpN w U D N false n K B) (hB : NoP w U D N false B) : Rch w U D N K (if cf w U D N B ≤ 2000 then nI (cf w U D N B) else -900005) := by
  have hm : ∀ M, M ∈ sub w U D N 512 B ↔ Rc w U D N K M := fun M => by
    rw [sub_all hw hw8 hN hB]
    exact ⟨fun h => Rc.tr (UpN_Rc hU) h, fun h => Rc.tr (Rc.bk hw (UpN_Rc hU)) h⟩
  have hnd := sub_nodup (U := U) (D := D) hw hw8 hN 512 B
  unfold cf
  by_cases h : (sub w U D N 512 B).length ≤ 2000
  · rw [if_pos h, if_pos h]
    exact Or.inl ⟨_, hnd, hm, h, rfl⟩
  · rw [if_neg h, if_neg (by decide)]
    refine Or.inr ⟨⟨(sub w U D N 512 B).take 2001, hnd.sublist (List.take_sublist _ _), fun M hM => (hm M).mp (List.mem_of_mem_take hM), ?_⟩, rfl⟩
    rw [List.length_take]
    omega
