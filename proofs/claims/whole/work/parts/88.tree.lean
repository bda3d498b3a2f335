/-! ===== HALF 2: what TURNS lead to, as a tree ===== -/
theorem len_sub {α : Type} : ∀ {l r : List α}, l.Nodup → (∀ a, a ∈ l → a ∈ r) → l.length ≤ r.length
  | [], r, _, _ => Nat.zero_le _
  | a :: l, r, hn, h => by
    rw [List.nodup_cons] at hn
    obtain ⟨s, t, e⟩ := List.append_of_mem (h a (by simp))
    subst e
    have ih := len_sub (l := l) (r := s ++ t) hn.2 (fun b hb => by
      have h1 := h b (by simp [hb])
      have hne : b ≠ a := fun z => hn.1 (by rw [← z]; exact hb)
      simp only [List.mem_append, List.mem_cons] at h1 ⊢
      rcases h1 with q | q | q
      · exact Or.inl q
      · exact absurd q hne
      · exact Or.inr q)
    simp only [List.length_append, List.length_cons] at ih ⊢
    omega
/-- TURNS lead from one to the other -/
def RcN (w : Nat) (U D : Nat → Bool) (N : Nat) : Nat → (Nat → Nat) → (Nat → Nat) → Prop
  | 0, K, M => K = M
  | n + 1, K, M => ∃ t c, atP w U D N t K c ∧ RcN w U D N n (tu w t K c) M
def Rc (w : Nat) (U D : Nat → Bool) (N : Nat) (K M : Nat → Nat) : Prop := ∃ n, RcN w U D N n K M
section RC
variable {w : Nat} {U D : Nat → Bool} {N : Nat}
theorem Rc.rf {K : Nat → Nat} : Rc w U D N K K := ⟨0, rfl⟩
theorem RcN_app : ∀ {n m : Nat} {K M L : Nat → Nat}, RcN w U D N n K M → RcN w U D N m M L → RcN w U D N (n + m) K L
  | 0, m, K, M, L, h, h2 => by
    have e : K = M := h
    subst e
    rw [Nat.zero_add]
    exact h2
  | n + 1, m, K, M, L, h, h2 => by
    obtain ⟨t, c0, h0, h1⟩ := h
    rw [show n + 1 + m = (n + m) + 1 by omega]
    exact ⟨t, c0, h0, RcN_app h1 h2⟩
theorem Rc.tr {K M L : Nat → Nat} (h1 : Rc w U D N K M) (h2 : Rc w U D N M L) : Rc w U D N K L := by
  obtain ⟨n, h1⟩ := h1
  obtain ⟨m, h2⟩ := h2
  exact ⟨n + m, RcN_app h1 h2⟩
theorem Rc.one {K : Nat → Nat} {t : Bool} {c : Nat} (h : atP w U D N t K c) : Rc w U D N K (tu w t K c) := ⟨1, t, c, h, rfl⟩
theorem Rc.bk (hw : 1 ≤ w) {K M : Nat → Nat} (h : Rc w U D N K M) : Rc w U D N M K := by
  obtain ⟨n, h⟩ := h
  induction n generalizing K with
  | zero =>
    have e : K = M := h
    subst e
    exact Rc.rf
  | succ n ih =>
    obtain ⟨t, c, h0, h1⟩ := h
    obtain ⟨t1, t2⟩ := tu_tu hw h0
    have h3 := Rc.one t1
    rw [t2] at h3
    exact Rc.tr (ih h1) h3
theorem UpN_Rc {t : Bool} : ∀ {n : Nat} {K M : Nat → Nat}, UpN w U D N t n K M → Rc w U D N K M
  | 0, K, M, h => by
    have e : K = M := h
    subst e
    exact Rc.rf
  | n + 1, K, M, h => by
    obtain ⟨c0, h0, h1⟩ := h
    exact Rc.tr (Rc.one h0) (UpN_Rc h1)
theorem Rc_LL (hw : 1 ≤ w) {K M : Nat → Nat} (h : Rc w U D N K M) (hL : LL w U D N K) : LL w U D N M := by
  obtain ⟨n, h⟩ := h
  induction n generalizing K with
  | zero =>
    have e : K = M := h
    subst e
    exact hL
  | succ n ih =>
    obtain ⟨t, c, h0, h1⟩ := h
    exact ih (tu_LL hw h0 hL) h1
/-- they have the same BOTTOM -/
theorem Rc_bot (hw : 1 ≤ w) (hw8 : w ≤ 8) (hN : N ≤ 64) {K M B : Nat → Nat} {n : Nat} (h : Rc w U D N K M) (hB : UpN w U D N false n K B) (hn : NoP w U D N false B) : ∃ m, UpN w U D N false m M B := by
  obtain ⟨k, h⟩ := h
  induction k generalizing K n with
  | zero =>
    have e : K = M := h
    subst e
    exact ⟨n, hB⟩
  | succ k ih =>
    obtain ⟨t, c, h0, h1⟩ := h
    cases t with
    | false =>
      obtain ⟨m, -, e2⟩ := UpN_first hw hB hn h0
      exact ih e2 h1
    | true =>
      obtain ⟨t1, t2⟩ := tu_tu hw h0
      have t2' : tu w false (tu w true K c) c = K := t2
      refine ih (n := n + 1) ⟨c, t1, ?_⟩ h1
      rw [t2']
      exact hB
end RC
def atB (w : Nat) (U D : Nat → Bool) (N : Nat) (t : Bool) (K : Nat → Nat) (c : Nat) : Bool := innB w U D N c && (decide (K c = sA t) && (decide (K (c - 1) = sB t) && decide (K (c - w) = sC t)))
theorem atB_iff {w : Nat} {U D : Nat → Bool} {N : Nat} {t : Bool} {K : Nat → Nat} {c : Nat} : atB w U D N t K c = true ↔ atP w U D N t K c := by
  unfold atB atP
  simp only [Bool.and_eq_true, decide_eq_true_eq]
/-- p, LOW, would be the first HIGH point once it is turned -/
def chB (w : Nat) (U D : Nat → Bool) (N : Nat) (K : Nat → Nat) (p : Nat) : Bool := atB w U D N true K p && (List.range p).all (fun q => !atB w U D N false (tu w true K p) q)
theorem chB_iff {w : Nat} {U D : Nat → Bool} {N : Nat} {K : Nat → Nat} {p : Nat} : chB w U D N K p = true ↔ atP w U D N true K p ∧ ∀ q, q < p → ¬ atP w U D N false (tu w true K p) q := by
  unfold chB
  rw [Bool.and_eq_true, atB_iff, List.all_eq_true]
  refine and_congr_right (fun _ => ⟨fun h q hq hat => ?_, fun h q hq => ?_⟩)
  · have := h q (List.mem_range.mpr hq)
    rw [atB_iff.mpr hat] at this
    cases this
  · cases z : atB w U D N false (tu w true K p) q with
    | false => rfl
    | true => exact absurd (atB_iff.mp z) (h q (List.mem_range.mp hq))
def bl {α : Type} (g : Nat → List α) : Nat → Nat → List α
  | 0, _ => []
  | k + 1, j => g j ++ bl g k (j + 1)
theorem bl_mem {α : Type} {g : Nat → List α} {a : α} : ∀ {k j : Nat}, a ∈ bl g k j ↔ ∃ p, j ≤ p ∧ p < j + k ∧ a ∈ g p
  | 0, j => by
    constructor
    · intro h; cases h
    · rintro ⟨p, h1, h2, -⟩; omega
  | k + 1, j => by
    show a ∈ g j ++ bl g k (j + 1) ↔ _
    rw [List.mem_append, bl_mem]
    constructor
    · rintro (h | ⟨p, h1, h2, h3⟩)
      · exact ⟨j, by omega, by omega, h⟩
      · exact ⟨p, by omega, by omega, h3⟩
    · rintro ⟨p, h1, h2, h3⟩
      by_cases e : p = j
      · subst e; exact Or.inl h3
      · exact Or.inr ⟨p, by omega, by omega, h3⟩
theorem bl_nodup {α : Type} {g : Nat → List α} (h1 : ∀ p, (g p).Nodup) (h2 : ∀ p q a, a ∈ g p → a ∈ g q → p = q) : ∀ k j, (bl g k j).Nodup
  | 0, _ => List.nodup_nil
  | k + 1, j => by
    show (g j ++ bl g k (j + 1)).Nodup
    rw [List.nodup_append]
    refine ⟨h1 j, bl_nodup h1 h2 k (j + 1), fun a ha b hb e => ?_⟩
    subst e
    obtain ⟨p, h3, h4, h5⟩ := bl_mem.mp hb
    have := h2 j p a ha h5
    omega
/-- the tree from K on, to the depth n -/
def sub (w : Nat) (U D : Nat → Bool) (N : Nat) : Nat → (Nat → Nat) → List (Nat → Nat)
  | 0, K => [K]
  | n + 1, K => K :: bl (fun p => if chB w U D N K p = true then sub w U D N n (tu w true K p) else []) 64 0
def kd' (w : Nat) (U D : Nat → Bool) (N : Nat) (n : Nat) (K : Nat → Nat) (j : Nat) : List (Nat → Nat) := match n with
  | 0 => []
  | m + 1 => bl (fun p => if chB w U D N K p = true then sub w U D N m (tu w true K p) else []) (64 - j) j
theorem sub_kd (w : Nat) (U D : Nat → Bool) (N : Nat) (n : Nat) (K : Nat → Nat) : sub w U D N n K = K :: kd' w U D N n K 0 := by
  cases n <;> rfl
theorem kd_64 (w : Nat) (U D : Nat → Bool) (N : Nat) (n : Nat) (K : Nat → Nat) : kd' w U D N n K 64 = [] := by
  cases n <;> rfl
theorem kd_s (w : Nat) (U D : Nat → Bool) (N : Nat) (m : Nat) (K : Nat → Nat) {j : Nat} (hj : j < 64) : kd' w U D N (m + 1) K j = (if chB w U D N K j = true then sub w U D N m (tu w true K j) else []) ++ kd' w U D N (m + 1) K (j + 1) := by
  show bl _ (64 - j) j = _ ++ bl _ (64 - (j + 1)) (j + 1)
  rw [show 64 - j = (64 - (j + 1)) + 1 by omega]
  rfl
/-- M is d turns below K in the tree -/
def anc (w : Nat) (U D : Nat → Bool) (N : Nat) : Nat → (Nat → Nat) → (Nat → Nat) → Prop
  | 0, K, M => K = M
  | d + 1, K, M => ∃ p, chB w U D N K p = true ∧ anc w U D N d (tu w true K p) M
section AN
variable {w : Nat} {U D : Nat → Bool} {N : Nat}
theorem anc_UpN : ∀ {d : Nat} {K M : Nat → Nat}, anc w U D N d K M → UpN w U D N true d K M
  | 0, K, M, h => h
  | d + 1, K, M, h => by
    obtain ⟨p, h1, h2⟩ := h
    exact ⟨p, (chB_iff.mp h1).1, anc_UpN h2⟩
theorem anc_snoc : ∀ {d : Nat} {K M : Nat → Nat} {p : Nat}, anc w U D N d K M → chB w U D N M p = true → anc w U D N (d + 1) K (tu w true M p)
  | 0, K, M, p, h, hp => by
    have e : K = M := h
    subst e
    exact ⟨p, hp, rfl⟩
  | d + 1, K, M, p, h, hp => by
    obtain ⟨p0, h1, h2⟩ := h
    exact ⟨p0, h1, anc_snoc h2 hp⟩
theorem sub_mem (hN : N ≤ 64) : ∀ {n : Nat} {K M : Nat → Nat}, M ∈ sub w U D N n K ↔ ∃ d, d ≤ n ∧ anc w U D N d K M
  | 0, K, M => by
    show M ∈ [K] ↔ _
    rw [List.mem_singleton]
    constructor
    · intro e; exact ⟨0, Nat.le_refl _, e.symm⟩
    · rintro ⟨d, hd, h⟩
      have : d = 0 := by omega
      subst this
      exact (show K = M from h).symm
  | n + 1, K, M => by
    show M ∈ K :: _ ↔ _
    rw [List.mem_cons, bl_mem]
    constructor
    · rintro (e | ⟨p, h1, h2, h3⟩)
      · exact ⟨0, Nat.zero_le _, e.symm⟩
      · by_cases hc : chB w U D N K p = true
        · rw [if_pos hc] at h3
          obtain ⟨d, hd, ha⟩ := (sub_mem hN).mp h3
          exact ⟨d + 1, by omega, p, hc, ha⟩
        · rw [if_neg hc] at h3
          cases h3
    · rintro ⟨d, hd, h⟩
      cases d with
      | zero => exact Or.inl (show K = M from h).symm
      | succ d =>
        obtain ⟨p, hc, ha⟩ := h
        have hp : p < 64 := by
          have := (inn_of (chB_iff.mp hc).1.1).1
          omega
        refine Or.inr ⟨p, Nat.zero_le _, by omega, ?_⟩
        rw [if_pos hc]
        exact (sub_mem hN).mpr ⟨d, by omega, ha⟩
/-- the one above is told by the one below -/
theorem anc_one (hw : 1 ≤ w) : ∀ {d : Nat} {K K' M : Nat → Nat}, anc w U D N d K M → anc w U D N d K' M → K = K'
  | 0, K, K', M, h, h' => (show K = M from h).trans (show K' = M from h').symm
  | d + 1, K, K', M, h, h' => by
    obtain ⟨p, h1, h2⟩ := h
    obtain ⟨p', h1', h2'⟩ := h'
    have e := anc_one hw h2 h2'
    obtain ⟨a1, a2⟩ := chB_iff.mp h1
    obtain ⟨a1', a2'⟩ := chB_iff.mp h1'
    obtain ⟨t1, t2⟩ := tu_tu hw a1
    obtain ⟨t1', t2'⟩ := tu_tu hw a1'
    have hp : p = p' := by
      rcases Nat.lt_trichotomy p p' with q | q | q
      · have := a2' p q
        rw [← e] at this
        exact absurd t1 this
      · exact q
      · have := a2 p' q
        rw [e] at this
        exact absurd t1' this
    subst hp
    rw [← t2, e, t2']
theorem sub_nodup (hw : 1 ≤ w) (hw8 : w ≤ 8) (hN : N ≤ 64) : ∀ (n : Nat) (K : Nat → Nat), (sub w U D N n K).Nodup
  | 0, K => by
    show [K].Nodup
    simp
  | n + 1, K => by
    show (K :: _).Nodup
    rw [List.nodup_cons]
    constructor
    · intro h
      obtain ⟨p, -, -, h3⟩ := bl_mem.mp h
      by_cases hc : chB w U D N K p = true
      · rw [if_pos hc] at h3
        obtain ⟨d, hd, ha⟩ := (sub_mem hN).mp h3
        have h1 := UpN_mea hw hw8 hN (anc_UpN (show anc w U D N (d + 1) K K from ⟨p, hc, ha⟩))
        omega
      · rw [if_neg hc] at h3
        cases h3
    · refine bl_nodup (fun p => ?_) (fun p q M hp hq => ?_) 64 0
      · split
        · exact sub_nodup hw hw8 hN n _
        · exact List.nodup_nil
      · by_cases hc : chB w U D N K p = true
        · by_cases hc' : chB w U D N K q = true
          · rw [if_pos hc] at hp
            rw [if_pos hc'] at hq
            obtain ⟨d, -, ha⟩ := (sub_mem hN).mp hp
            obtain ⟨d', -, ha'⟩ := (sub_mem hN).mp hq
            have h1 := UpN_mea hw hw8 hN (anc_UpN (show anc w U D N (d + 1) K M from ⟨p, hc, ha⟩))
            have h2 := UpN_mea hw hw8 hN (anc_UpN (show anc w U D N (d' + 1) K M from ⟨q, hc', ha'⟩))
            have hd : d = d' := by omega
            subst hd
            have e := anc_one hw ha ha'
            obtain ⟨a1, a2⟩ := chB_iff.mp hc
            obtain ⟨a1', a2'⟩ := chB_iff.mp hc'
            obtain ⟨t1, -⟩ := tu_tu hw a1
            obtain ⟨t1', -⟩ := tu_tu hw a1'
            rcases Nat.lt_trichotomy p q with z | z | z
            · have := a2' p z
              rw [← e] at this
              exact absurd t1 this
            · exact z
            · have := a2 q z
              rw [e] at this
              exact absurd t1' this
          · rw [if_neg hc'] at hq
            cases hq
        · rw [if_neg hc] at hp
          cases hp
/-- the tree from the BOTTOM holds all that TURNS lead to -/
theorem anc_all (hw : 1 ≤ w) (hw8 : w ≤ 8) (hN : N ≤ 64) {B : Nat → Nat} : ∀ (k : Nat) (M : Nat → Nat), mea w N false M ≤ k → (∃ m, UpN w U D N false m M B) → NoP w U D N false B → ∃ d, anc w U D N d B M
  | k, M, hk, hU, hB => by
    by_cases h : NoP w U D N false M
    · obtain ⟨m, hm⟩ := hU
      have := UpN_same hw hm hB (show UpN w U D N false 0 M M from rfl) h
      exact ⟨0, this.2⟩
    · have hex : ∃ c, atP w U D N false M c := by
        apply Classical.byContradiction
        intro q
        exact h (fun c hc => q ⟨c, hc⟩)
      obtain ⟨p, hp, hmin⟩ := pk_least (fun c => atP w U D N false M c) hex
      have hm := UpN_mea hw hw8 hN (show UpN w U D N false 1 M (tu w false M p) from ⟨p, hp, rfl⟩)
      obtain ⟨m, hm'⟩ := hU
      obtain ⟨m2, -, e2⟩ := UpN_first hw hm' hB hp
      obtain ⟨t1, t2⟩ := tu_tu hw hp
      cases k with
      | zero => omega
      | succ k =>
        obtain ⟨d, hd⟩ := anc_all hw hw8 hN k (tu w false M p) (by omega) ⟨m2, e2⟩ hB
        have t1' : atP w U D N true (tu w false M p) p := t1
        have t2' : tu w true (tu w false M p) p = M := t2
        have := anc_snoc hd (chB_iff.mpr ⟨t1', fun q hq => by rw [t2']; exact hmin q hq⟩)
        rw [t2'] at this
        exact ⟨d + 1, this⟩
end AN
/-- all that TURNS lead to from the BOTTOM B -/
theorem sub_all {w : Nat} {U D : Nat → Bool} {N : Nat} (hw : 1 ≤ w) (hw8 : w ≤ 8) (hN : N ≤ 64) {B : Nat → Nat} (hB : NoP w U D N false B) (M : Nat → Nat) : M ∈ sub w U D N 512 B ↔ Rc w U D N B M := by
  rw [sub_mem hN]
  constructor
  · rintro ⟨d, -, h⟩
    exact UpN_Rc (anc_UpN h)
  · intro h
    obtain ⟨m, hm⟩ := Rc_bot hw hw8 hN h (show UpN w U D N false 0 B B from rfl) hB
    obtain ⟨d, hd⟩ := anc_all hw hw8 hN 512 M (mea_le hw8 hN M) ⟨m, hm⟩ hB
    have h1 := UpN_mea hw hw8 hN (anc_UpN hd)
    have h2 := mea_le (t := true) hw8 hN B
    exact ⟨d, by omega, hd⟩
