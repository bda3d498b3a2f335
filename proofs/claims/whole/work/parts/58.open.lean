/-! ===== HALF 2: the class's steps and its nodes ===== -/
/-- the class's ground -/
def CG (σ : St) (w h : Nat) (U D : Nat → Bool) : Prop := 1 ≤ w ∧ w ≤ 8 ∧ 1 ≤ h ∧ h ≤ 8 ∧ gi σ 1 0 = nI w ∧ gi σ 1 1 = nI h ∧ gi σ 1 2 = nI (w * h) ∧ (∀ c, c < 64 → tb (gl σ 1 3) c = U c) ∧ (∀ c, c < 64 → tb (gl σ 1 4) c = D c) ∧ ∀ c, c < 64 → tb (gl σ 1 5) c = eastB w h c
theorem CG.keep {P : Nat → Prop} {σ τ : St} {w h : Nat} {U D : Nat → Bool} (h0 : CG σ w h U D) (he : eqx P σ τ) (h1 : ¬ P 1) : CG τ w h U D := by
  obtain ⟨a1, a2, a3, a4, a5, a6, a7, a8, a9, a10⟩ := h0
  refine ⟨a1, a2, a3, a4, ?_, ?_, ?_, ?_, ?_, ?_⟩
  · rw [(he 1 h1 0).1]; exact a5
  · rw [(he 1 h1 1).1]; exact a6
  · rw [(he 1 h1 2).1]; exact a7
  · rw [(he 1 h1 3).2]; exact a8
  · rw [(he 1 h1 4).2]; exact a9
  · rw [(he 1 h1 5).2]; exact a10
theorem rd_bit (x : Int64) {k : Nat} (hk : k < 64) : (lushr x (nI k) &&& 1) = if tb x k then 1 else 0 := by
  apply tb_ext
  intro i _
  rw [tb_and, tb_lushr _ hk, tb_1]
  by_cases h0 : i = 0
  · subst h0
    rw [Nat.add_zero]
    cases tb x k
    · simp [tb_0]
    · simp [tb_1]
  · cases tb x k
    · simp [tb_0, h0]
    · simp [tb_1, h0]
theorem rd_bI (x : Int64) {k : Nat} (hk : k < 64) : (lushr x (nI k) &&& 1).toInt32 = bI (tb x k) := by
  rw [rd_bit x hk]
  cases tb x k <;> decide
def oG (o : Option Nat) : Int32 := match o with
  | none => -1
  | some m => nI m
theorem mk_shl : ∀ p, p < 256 → ∀ b : Bool, (jshl (nI p) 1 ||| bI b) = nI (2 * p + b.toNat) := by decide +kernel
theorem mk_xor : ∀ j, j < 8 → ∀ m, m < 256 → m.testBit j = true → (nI m ^^^ nI (2 ^ j)) = nI (m - 2 ^ j) ∧ (m - 2 ^ j).testBit j = false := by decide +kernel
theorem mk_x0 : ∀ j, j < 8 → ∀ m, m < 256 → 1 ≤ j ∧ m.testBit 0 = true → (nI m ^^^ 1) = nI (m - 1) ∧ (m - 1).testBit j = m.testBit j := by decide +kernel
theorem mk_a1 : ∀ m, m < 256 → ((nI m &&& 1) = 0 ↔ m.testBit 0 = false) := by decide +kernel
theorem mk_a0 : ∀ m, m < 256 → (nI m &&& 0) = 0 := by decide +kernel
theorem s_open96 {w p : Nat} (hw1 : 1 ≤ w) (hw : w ≤ 8) (hp : p < 256) (b : Bool) (σ : St) : f_X3_openAfter_96 (nI (2 ^ (w - 1))) (nI p) (bI b) σ = some (oG (if p.testBit (w - 1) = false then some (2 * p + b.toNat) else none), σ) := by
  unfold f_X3_openAfter_96 f_X3_openAfter_115
  cases ht : p.testBit (w - 1) with
  | false =>
    rw [if_pos ((mk_and (w - 1) (by omega) p hp).mpr ht), mk_shl p hp b, if_pos rfl]
    rfl
  | true =>
    rw [if_neg (fun z => by rw [(mk_and (w - 1) (by omega) p hp).mp z] at ht; cases ht), if_neg (by simp)]
    rfl
theorem s_openAfter {σ : St} {w h : Nat} {U D : Nat → Bool} (g : CG σ w h U D) {c m k : Nat} (hc : c < w * h) (hm : m < 2 ^ w) (hk : k < 3) : f_X3_openAfter (nI c) (nI m) (nI k) σ = some (oG (Tk w U D c m k), σ) := by
  obtain ⟨hw1, hw8, hh1, hh8, e0, e1, e2, eU, eD, eE⟩ := g
  have har := area_le hw8 hh8
  have h256 := pow_256 hw8
  have hm8 : m < 256 := by omega
  have hc64 : c < 64 := by omega
  have hU := tb_read (gl σ 1 3) hc64
  rw [eU c hc64] at hU
  have hDb := rd_bI (gl σ 1 4) hc64
  rw [eD c hc64] at hDb
  have hEb := rd_bI (gl σ 1 5) hc64
  rw [eE c hc64] at hEb
  unfold f_X3_openAfter
  rw [e0, sh_last w (by omega) hw1, hDb, hEb]
  cases hUc : U c with
  | false =>
    have hT : Tk w U D c m k = if k = 0 then Tr w U D c m 3 else none := by unfold Tk; simp [hUc]
    rw [if_pos (hU.mpr hUc), hT]
    by_cases h0 : k = 0
    · subst h0
      rw [if_pos (show nI 0 = 0 from rfl), s_open96 hw1 hw8 hm8, if_pos rfl]
      unfold Tr
      simp [hUc]
    · rw [if_neg (nI_ne0 (by omega) (by omega)), if_neg h0]
      rfl
  | true =>
    have hT : Tk w U D c m k = Tr w U D c m k := by unfold Tk; simp [hUc]
    rw [if_neg (fun z => by rw [hU.mp z] at hUc; cases hUc), hT]
    by_cases h0 : k = 0
    · subst h0
      rw [if_pos (show nI 0 = 0 from rfl)]
      cases hDc : D c with
      | false =>
        rw [if_pos bIf]
        unfold Tr
        simp [hUc, hDc]
        rfl
      | true =>
        rw [if_neg bIt, show (0 : Int32) = bI false from rfl, s_open96 hw1 hw8 hm8]
        unfold Tr
        simp [hUc, hDc]
    · rw [if_neg (nI_ne0 (by omega) (by omega))]
      by_cases h2 : k = 2
      · subst h2
        rw [if_pos (show nI 2 = 2 from rfl)]
        unfold f_X3_openAfter_79
        cases ht : m.testBit (w - 1) with
        | false =>
          rw [if_pos ((mk_and (w - 1) (by omega) m hm8).mpr ht)]
          unfold Tr
          simp [hUc, ht]
          rfl
        | true =>
          obtain ⟨q1, q2⟩ := mk_xor (w - 1) (by omega) m hm8 ht
          rw [if_neg (fun z => by rw [(mk_and (w - 1) (by omega) m hm8).mp z] at ht; cases ht), q1, s_open96 hw1 hw8 (Nat.lt_of_le_of_lt (Nat.sub_le _ _) hm8), if_pos q2]
          unfold Tr
          simp [hUc, ht]
      · have h1 : k = 1 := by omega
        subst h1
        rw [if_neg (show ¬ nI 1 = 2 by decide)]
        unfold f_X3_openAfter_79
        cases hE : eastB w h c with
        | false =>
          have hcw : c % w = 0 := by
            unfold eastB at hE
            simp [hc] at hE
            exact hE
          rw [if_pos (show (nI m &&& bI false) = 0 from mk_a0 m hm8), Tr_no1 hcw]
          rfl
        | true =>
          have hcw : c % w ≠ 0 := by
            unfold eastB at hE
            simp [hc] at hE
            exact hE
          have hw2 : 2 ≤ w := by
            rcases Nat.lt_or_ge w 2 with q | q
            · have : w = 1 := by omega
              subst this
              omega
            · exact q
          cases ho : m.testBit 0 with
          | false =>
            rw [if_pos (show (nI m &&& bI true) = 0 from (mk_a1 m hm8).mpr ho)]
            unfold Tr
            simp [hUc, ho]
            rfl
          | true =>
            obtain ⟨q1, q2⟩ := mk_x0 (w - 1) (by omega) m hm8 ⟨by omega, ho⟩
            rw [if_neg (show ¬ (nI m &&& bI true) = 0 from fun z => by rw [(mk_a1 m hm8).mp z] at ho; cases ho), show (nI m ^^^ bI true) = nI (m - 1) from q1, s_open96 hw1 hw8 (by omega), q2]
            unfold Tr
            simp [hUc, ho, hcw]
/-- the level that is being made: its sets, the table of them, how many nodes -/
def RT (σ : St) (base : Nat) (l : List Nat) : Prop := (∀ m, m < 256 → gi σ 23 m = if m ∈ l then nI (base + ix m l) else -1) ∧ gi σ 2 7 = nI (base + l.length) ∧ ∀ i, i < l.length → gi σ 18 (base + i) = nI (l.getD i 0)
theorem s_nodeFor_none (σ : St) : f_X3_nodeFor (-1) σ = some (-1, σ) := by
  unfold f_X3_nodeFor f_X3_nodeFor_13
  rw [if_pos (by decide)]
theorem neg1_nI {n : Nat} (h : n < 2 ^ 31) : nI n ≠ -1 := by
  intro e
  have h1 := congrArg Int32.toInt e
  rw [nI_toInt h] at h1
  have h2 : (-1 : Int32).toInt = -1 := by decide
  rw [h2] at h1
  omega
theorem s_nodeFor {σ : St} {base m : Nat} {l : List Nat} (hm : m < 256) (hb : m ∉ l → base + l.length < 4550) (hb2 : base + l.length < 5000) (hR : RT σ base l) :
    ∃ σ', f_X3_nodeFor (nI m) σ = some (nI (base + ix m (addL l (some m))), σ') ∧ RT σ' base (addL l (some m)) ∧ σ'.2 = σ.2 ∧ eqx (fun p => p = 2 ∨ p = 18 ∨ p = 23) σ σ' ∧ ∀ i, i < base + l.length → gi σ' 18 i = gi σ 18 i := by
  obtain ⟨r1, r2, r3⟩ := id hR
  unfold f_X3_nodeFor
  rw [if_neg (nI_pos (by omega)), if_pos (show nI m < Int32.ofNat (len 23) from nI_lt (b := 256) hm (by decide)), rdI_at _ _ (show m < len 23 from hm) (by decide), r1 m hm]
  by_cases hml : m ∈ l
  · have hix := ix_lt hml
    rw [if_pos hml, if_neg (neg1_nI (by omega))]
    unfold f_X3_nodeFor_65
    rw [rdI_at _ _ (show m < len 23 from hm) (by decide), r1 m hm, if_pos hml]
    have e : addL l (some m) = l := by simp [addL, hml]
    rw [e]
    exact ⟨σ, rfl, hR, rfl, eqx.rf, fun _ _ => rfl⟩
  · have hlt := hb hml
    rw [if_neg hml, if_pos rfl, r2, if_neg (show ¬ (4550 : Int32) ≤ nI (base + l.length) from nI_ge (b := 4550) hlt (by decide)), wrI_at _ _ _ (show m < len 23 from hm) (by decide)]
    have e7 : gi (si σ 23 m (nI (base + l.length))) 2 7 = nI (base + l.length) := by rw [gi_si_ne _ _ _ _ (by omega)]; exact r2
    rw [e7, wrI_at _ _ _ (show base + l.length < len 18 from hlt) (by decide), fI_at]
    have e8 : gi (si (si σ 23 m (nI (base + l.length))) 18 (base + l.length) (nI m)) 2 7 = nI (base + l.length) := by rw [gi_si_ne _ _ _ _ (by omega)]; exact e7
    rw [e8, nI_1]
    generalize hτ : si (si (si σ 23 m (nI (base + l.length))) 18 (base + l.length) (nI m)) 2 7 (nI (base + l.length + 1)) = τ
    have hg : ∀ q j, gi τ q j = if q = 2 ∧ j = 7 then nI (base + l.length + 1) else if q = 18 ∧ j = base + l.length then nI m else if q = 23 ∧ j = m then nI (base + l.length) else gi σ q j := fun q j => by rw [← hτ]; rfl
    have h2 : τ.2 = σ.2 := by rw [← hτ]; rfl
    have e : addL l (some m) = l ++ [m] := by simp [addL, hml]
    unfold f_X3_nodeFor_65
    have hg23 : gi τ 23 m = nI (base + l.length) := by rw [hg]; simp
    rw [rdI_at _ _ (show m < len 23 from hm) (by decide), hg23, e, ix_new hml]
    refine ⟨τ, rfl, ⟨fun a ha => ?_, ?_, fun i hi => ?_⟩, h2, fun p hp k => ⟨?_, ?_⟩, fun i hi => ?_⟩
    · by_cases ham : a = m
      · subst ham
        rw [hg23, if_pos (by simp), ix_new hml]
      · rw [hg]
        simp only [ham, and_false, if_false]
        rw [if_neg (by omega), if_neg (by omega), r1 a ha]
        by_cases hal : a ∈ l
        · rw [if_pos hal, if_pos (by simp [hal]), ix_app _ hal]
        · rw [if_neg hal, if_neg (by simp [hal, ham])]
    · rw [hg]
      simp
      rfl
    · rw [hg]
      by_cases hil : i = l.length
      · subst hil
        simp
      · have hi' : i < l.length := by
          simp at hi
          omega
        rw [if_neg (by omega), if_neg (by omega), if_neg (by omega), r3 i hi']
        congr 1
        simp [List.getD, List.getElem?_append_left hi']
    · rw [hg, if_neg (fun z => hp (Or.inl z.1)), if_neg (fun z => hp (Or.inr (Or.inl z.1))), if_neg (fun z => hp (Or.inr (Or.inr z.1)))]
    · unfold gl
      rw [h2]
    · rw [hg, if_neg (by omega), if_neg (by omega), if_neg (by omega)]
