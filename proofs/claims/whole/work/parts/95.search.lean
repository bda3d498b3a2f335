/-! ===== HALF 2: search of the class ===== -/
def mk (w : Nat) (K : Nat → Nat) (u : Nat) : Option Nat := if K u = 0 then some u else if K u = 1 then some (u - 1) else if K u = 2 then some (u - w) else none
/-- LOZENGES laid, by the KINDS of the UP; 3: bare, or OUT -/
def KW (w : Nat) (U D : Nat → Bool) (N : Nat) (K : Nat → Nat) : Prop := (∀ u, K u < 4 ∧ (K u = 1 → 1 ≤ u) ∧ (K u = 2 → w ≤ u)) ∧ MT w U D N (mk w K)
def LJ (σ : St) (K : Nat → Nat) : Prop := ∀ c, c < 64 → ∀ k, k < 3 → tb (gl σ 13 (k + 1)) c = decide (K c = k)
theorem mk_none {w : Nat} {K : Nat → Nat} {u : Nat} (h : K u < 4) : mk w K u = none ↔ K u = 3 := by
  unfold mk
  rcases (show K u = 0 ∨ K u = 1 ∨ K u = 2 ∨ K u = 3 by omega) with e | e | e | e <;> rw [e] <;> simp
theorem mk_some {w : Nat} {U D : Nat → Bool} {N : Nat} {K : Nat → Nat} (hV : KW w U D N K) {u d : Nat} : mk w K u = some d ↔ (K u = 0 ∧ u = d) ∨ (K u = 1 ∧ u = d + 1) ∨ (K u = 2 ∧ u = d + w) := by
  obtain ⟨l1, l2, l3⟩ := hV.1 u
  unfold mk
  rcases (show K u = 0 ∨ K u = 1 ∨ K u = 2 ∨ K u = 3 by omega) with e | e | e | e
  · rw [if_pos e, e]; simp
  · have := l2 e
    rw [if_neg (by omega), if_pos e, e]
    simp
    omega
  · have := l3 e
    rw [if_neg (by omega), if_neg (by omega), if_pos e, e]
    simp
    omega
  · rw [if_neg (by omega), if_neg (by omega), if_neg (by omega), e]; simp
theorem KW_64 {w : Nat} {U D : Nat → Bool} {N : Nat} {K : Nat → Nat} (hV : KW w U D N K) {u : Nat} (h : N ≤ u) : K u = 3 := by
  apply Classical.byContradiction
  intro q
  have h4 := (hV.1 u).1
  cases hm : mk w K u with
  | none => exact q ((mk_none h4).mp hm)
  | some d => have := (hV.2.1 u d hm).1; omega
/-- beyond the ground all is OUT -/
def ZB (U D : Nat → Bool) (N : Nat) : Prop := ∀ c, N ≤ c → U c = false ∧ D c = false
section SEA
variable {σ : St} {w h : Nat} {U D : Nat → Bool} {K : Nat → Nat}
theorem LJ_at (hL : LJ σ K) {c : Nat} (hc : c < 64) : tb (gl σ 13 1) c = decide (K c = 0) ∧ tb (gl σ 13 2) c = decide (K c = 1) ∧ tb (gl σ 13 3) c = decide (K c = 2) := ⟨hL c hc 0 (by decide), hL c hc 1 (by decide), hL c hc 2 (by decide)⟩
theorem LJ_big (hL : LJ σ K) (hV : KW w U D (w * h) K) (har : w * h ≤ 64) (c : Nat) : tb (gl σ 13 1) c = decide (K c = 0) ∧ tb (gl σ 13 2) c = decide (K c = 1) ∧ tb (gl σ 13 3) c = decide (K c = 2) := by
  rcases Nat.lt_or_ge c 64 with q | q
  · exact LJ_at hL q
  · have := KW_64 hV (show w * h ≤ c by omega)
    rw [tb_big q, tb_big q, tb_big q, this]
    decide
/-- all that is joined -/
theorem tb_joined (hL : LJ σ K) (hV : KW w U D (w * h) K) {c : Nat} (hc : c < 64) : tb ((gl σ 13 1 ||| gl σ 13 2) ||| gl σ 13 3) c = decide (K c ≠ 3) := by
  obtain ⟨a1, a2, a3⟩ := LJ_at hL hc
  have := (hV.1 c).1
  rw [tb_or, tb_or, a1, a2, a3]
  rcases (show K c = 0 ∨ K c = 1 ∨ K c = 2 ∨ K c = 3 by omega) with e | e | e | e <;> rw [e] <;> decide
theorem tb_mated (hL : LJ σ K) (hV : KW w U D (w * h) K) (har : w * h ≤ 64) (hw8 : w ≤ 8) {d : Nat} (hd : d < 64) : tb ((gl σ 13 1 ||| lushr (gl σ 13 2) 1) ||| lushr (gl σ 13 3) (nI w)) d = true ↔ ∃ u, mk w K u = some d := by
  rw [tb_or, tb_or, show (1 : Int32) = nI 1 from rfl, tb_lushr _ (by decide), tb_lushr _ (by omega), (LJ_big hL hV har d).1, (LJ_big hL hV har (1 + d)).2.1, (LJ_big hL hV har (w + d)).2.2]
  simp only [Bool.or_eq_true, decide_eq_true_eq]
  constructor
  · rintro ((q | q) | q)
    · exact ⟨d, (mk_some hV).mpr (Or.inl ⟨q, rfl⟩)⟩
    · exact ⟨1 + d, (mk_some hV).mpr (Or.inr (Or.inl ⟨q, by omega⟩))⟩
    · exact ⟨w + d, (mk_some hV).mpr (Or.inr (Or.inr ⟨q, by omega⟩))⟩
  · rintro ⟨u, hu⟩
    rcases (mk_some hV).mp hu with ⟨q, e⟩ | ⟨q, e⟩ | ⟨q, e⟩
    · rw [e] at q; exact Or.inl (Or.inl q)
    · rw [e, Nat.add_comm] at q; exact Or.inl (Or.inr q)
    · rw [e, Nat.add_comm] at q; exact Or.inr q
def bdV (σ : St) : Int64 := (gl σ 1 4) &&& ((((gl σ 13 1) ||| (lushr (gl σ 13 2) (1 : Int32))) ||| (lushr (gl σ 13 3) (gi σ 1 0))) ^^^ (-1 : Int64))
def buV (σ : St) : Int64 := (gl σ 1 3) &&& ((((gl σ 13 1) ||| (gl σ 13 2)) ||| (gl σ 13 3)) ^^^ (-1 : Int64))
theorem tb_bd (g : CG σ w h U D) (hL : LJ σ K) (hV : KW w U D (w * h) K) {d : Nat} (hd : d < 64) : tb (bdV σ) d = true ↔ D d = true ∧ ∀ u, mk w K u ≠ some d := by
  have har := area_le g.2.1 g.2.2.2.1
  have hm := tb_mated hL hV har g.2.1 hd
  unfold bdV
  rw [g.2.2.2.2.1, tb_and, tb_not _ hd, g.2.2.2.2.2.2.2.2.1 d hd, Bool.and_eq_true]
  refine and_congr_right (fun _ => ?_)
  constructor
  · intro q u hu
    rw [hm.mpr ⟨u, hu⟩] at q
    cases q
  · intro q
    cases z : tb ((gl σ 13 1 ||| lushr (gl σ 13 2) 1) ||| lushr (gl σ 13 3) (nI w)) d with
    | false => rfl
    | true => obtain ⟨u, hu⟩ := hm.mp z; exact absurd hu (q u)
theorem tb_bu (g : CG σ w h U D) (hL : LJ σ K) (hV : KW w U D (w * h) K) {u : Nat} (hu : u < 64) : tb (buV σ) u = true ↔ U u = true ∧ mk w K u = none := by
  unfold buV
  rw [tb_and, tb_not _ hu, g.2.2.2.2.2.2.2.1 u hu, tb_joined hL hV hu, Bool.and_eq_true, mk_none (hV.1 u).1]
  simp
def dbV (σ : St) (X : Int64) : Int64 := (gl σ 1 4) &&& ((X ||| (lushr (X &&& (gl σ 1 5)) (1 : Int32))) ||| (lushr X (gi σ 1 0)))
theorem s_downsBeside (X : Int64) (σ : St) : f_X0_downsBeside X σ = some (dbV σ X, σ) := rfl
theorem tb_db (g : CG σ w h U D) (hB : ZB U D (w * h)) {X : Int64} (hX : ∀ u, u < 64 → tb X u = true → u < w * h ∧ U u = true) {d : Nat} (hd : d < 64) : tb (dbV σ X) d = true ↔ ∃ u, tb X u = true ∧ Ad w U D (w * h) u d := by
  have har := area_le g.2.1 g.2.2.2.1
  have hw8 := g.2.1
  have hXl : ∀ u, tb X u = true → u < 64 := fun u q => by
    rcases Nat.lt_or_ge u 64 with z | z
    · exact z
    · rw [tb_big z] at q; cases q
  unfold dbV
  rw [g.2.2.2.2.1, tb_and, tb_or, tb_or, show (1 : Int32) = nI 1 from rfl, tb_lushr _ (by decide), tb_lushr _ (by omega), tb_and, g.2.2.2.2.2.2.2.2.1 d hd]
  simp only [Bool.and_eq_true, Bool.or_eq_true]
  have dN : D d = true → d < w * h := fun q => by
    rcases Nat.lt_or_ge d (w * h) with z | z
    · exact z
    · rw [(hB d z).2] at q; cases q
  constructor
  · rintro ⟨hD, (q | ⟨q, r⟩) | q⟩
    · have := hX d hd q
      exact ⟨d, q, this.1, this.2, dN hD, hD, Or.inl rfl⟩
    · have hl := hXl _ q
      have := hX _ hl q
      rw [g.2.2.2.2.2.2.2.2.2 _ hl] at r
      unfold eastB at r
      simp only [Bool.and_eq_true, decide_eq_true_eq] at r
      exact ⟨1 + d, q, this.1, this.2, dN hD, hD, Or.inr (Or.inl ⟨r.2, by omega⟩)⟩
    · have hl := hXl _ q
      have := hX _ hl q
      exact ⟨w + d, q, this.1, this.2, dN hD, hD, Or.inr (Or.inr ⟨by omega, by omega⟩)⟩
  · rintro ⟨u, hu, a1, a2, a3, a4, a5⟩
    refine ⟨a4, ?_⟩
    rcases a5 with e | ⟨e1, e2⟩ | ⟨e1, e2⟩
    · rw [e]; exact Or.inl (Or.inl hu)
    · rw [show u = 1 + d by omega] at hu e1 a1
      refine Or.inl (Or.inr ⟨hu, ?_⟩)
      rw [g.2.2.2.2.2.2.2.2.2 _ (hXl _ hu)]
      unfold eastB
      rw [decide_eq_true a1, decide_eq_true e1]
      rfl
    · rw [show u = w + d by omega] at hu
      exact Or.inr hu
def mtV (σ : St) (Y : Int64) : Int64 := ((((gl σ 13 1) &&& Y) ||| ((gl σ 13 2) &&& (lshl Y (1 : Int32)))) ||| ((gl σ 13 3) &&& (lshl Y (gi σ 1 0))))
theorem s_mates (Y : Int64) (σ : St) : f_X0_mates Y σ = some (mtV σ Y, σ) := rfl
theorem tb_mt (g : CG σ w h U D) (hL : LJ σ K) (hV : KW w U D (w * h) K) {Y : Int64} {u : Nat} (hu : u < 64) : tb (mtV σ Y) u = true ↔ ∃ d, mk w K u = some d ∧ tb Y d = true := by
  have hw8 := g.2.1
  obtain ⟨a1, a2, a3⟩ := LJ_at hL hu
  obtain ⟨l1, l2, l3⟩ := hV.1 u
  unfold mtV
  rw [g.2.2.2.2.1, tb_or, tb_or, tb_and, tb_and, tb_and, show (1 : Int32) = nI 1 from rfl, tb_lshl _ (by decide), tb_lshl _ (by omega), a1, a2, a3]
  simp only [Bool.and_eq_true, Bool.or_eq_true, decide_eq_true_eq]
  constructor
  · rintro ((⟨q, r⟩ | ⟨q, -, r1, r2⟩) | ⟨q, -, r1, r2⟩)
    · exact ⟨u, (mk_some hV).mpr (Or.inl ⟨q, rfl⟩), r⟩
    · exact ⟨u - 1, (mk_some hV).mpr (Or.inr (Or.inl ⟨q, by omega⟩)), r2⟩
    · exact ⟨u - w, (mk_some hV).mpr (Or.inr (Or.inr ⟨q, by omega⟩)), r2⟩
  · rintro ⟨d, hd, hY⟩
    rcases (mk_some hV).mp hd with ⟨q, e⟩ | ⟨q, e⟩ | ⟨q, e⟩
    · rw [← e] at hY; exact Or.inl (Or.inl ⟨q, hY⟩)
    · exact Or.inl (Or.inr ⟨q, hu, by omega, by rw [show u - 1 = d by omega]; exact hY⟩)
    · exact Or.inr ⟨q, hu, by omega, by rw [show u - w = d by omega]; exact hY⟩
end SEA
/-- the layers of a search -/
def SI (σ : St) (w h : Nat) (U D : Nat → Bool) (K : Nat → Nat) (come : Int64) (deep : Nat) : Prop := (∀ u, tb come u = true ↔ ∃ i, i ≤ deep ∧ tb (gl σ 25 i) u = true) ∧ (∀ u, u < 64 → (tb (gl σ 25 0) u = true ↔ U u = true ∧ mk w K u = none)) ∧ (∀ i, i < deep → ∀ u, tb (gl σ 25 (i + 1)) u = true → ∃ d v, tb (gl σ 25 i) v = true ∧ Ad w U D (w * h) v d ∧ mk w K u = some d) ∧ (∀ i, i < deep → ∀ v d, tb (gl σ 25 i) v = true → Ad w U D (w * h) v d → ∃ u, mk w K u = some d ∧ tb come u = true) ∧ (∀ i j, i < j → j ≤ deep → ∀ u, tb (gl σ 25 i) u = true → tb (gl σ 25 j) u = true → False) ∧ ∀ i, i < deep → gl σ 25 i ≠ 0
theorem tb_lt {X : Int64} {u : Nat} (q : tb X u = true) : u < 64 := by
  rcases Nat.lt_or_ge u 64 with z | z
  · exact z
  · rw [tb_big z] at q; cases q
theorem SI_up {σ : St} {w h : Nat} {U D : Nat → Bool} {K : Nat → Nat} {come : Int64} {deep : Nat} (hB : ZB U D (w * h)) (hV : KW w U D (w * h) K) (hS : SI σ w h U D K come deep) : ∀ i, i ≤ deep → ∀ u, tb (gl σ 25 i) u = true → u < w * h ∧ U u = true := by
  intro i hi u hu
  cases i with
  | zero =>
    have := ((hS.2.1 u (tb_lt hu)).mp hu).1
    refine ⟨?_, this⟩
    rcases Nat.lt_or_ge u (w * h) with z | z
    · exact z
    · rw [(hB u z).1] at this; cases this
  | succ i =>
    obtain ⟨d, v, -, -, h3⟩ := hS.2.2.1 i (by omega) u hu
    have := hV.2.1 u d h3
    exact ⟨this.1, this.2.1⟩
/-- no more than 64 layers -/
theorem SI_64 {σ : St} {w h : Nat} {U D : Nat → Bool} {K : Nat → Nat} {come : Int64} {deep : Nat} (hS : SI σ w h U D K come deep) (h0 : gl σ 25 deep ≠ 0) : deep < 64 := by
  have hne : ∀ i, i ≤ deep → gl σ 25 i ≠ 0 := fun i hi => by
    by_cases e : i = deep
    · rw [e]; exact h0
    · exact hS.2.2.2.2.2 i (by omega)
  have wit : ∀ i, ∃ u, i ≤ deep → u < 64 ∧ tb (gl σ 25 i) u = true := fun i => by
    by_cases hi : i ≤ deep
    · obtain ⟨k, k1, k2, -⟩ := low_bit (hne i hi)
      exact ⟨k, fun _ => ⟨k1, k2⟩⟩
    · exact ⟨0, fun q => absurd q hi⟩
  have hf : ∃ f : Nat → Nat, ∀ i, i ≤ deep → f i < 64 ∧ tb (gl σ 25 i) (f i) = true := ⟨fun i => (wit i).choose, fun i hi => (wit i).choose_spec hi⟩
  obtain ⟨f, hf⟩ := hf
  have hnd := map_nodup (f := f) (n := deep + 1) (fun i j hi hj e => by
    have h1 := (hf i (by omega)).2
    have h2 := (hf j (by omega)).2
    rcases Nat.lt_trichotomy i j with q | q | q
    · rw [← e] at h2; exact (hS.2.2.2.2.1 i j q (by omega) _ h1 h2).elim
    · exact q
    · rw [e] at h1; exact (hS.2.2.2.2.1 j i q (by omega) _ h2 h1).elim)
  have := len_sub hnd (r := List.range 64) (fun a ha => by
    obtain ⟨i, hi, e⟩ := List.mem_map.mp ha
    rw [← e]
    exact List.mem_range.mpr (hf i (by have := List.mem_range.mp hi; omega)).1)
  rw [List.length_map, List.length_range, List.length_range] at this
  omega
/-- a search that ends without a bare DOWN -/
theorem SI_end {σ : St} {w h : Nat} {U D : Nat → Bool} {K : Nat → Nat} {come : Int64} {deep : Nat} (har : w * h ≤ 64) (hB : ZB U D (w * h)) (hV : KW w U D (w * h) K) (hS : SI σ w h U D K come deep) (h0 : gl σ 25 deep = 0) : ZC w U D (w * h) (mk w K) (fun u => tb come u = true) ∧ ZM w U D (w * h) (mk w K) (fun u => tb come u = true) := by
  refine ⟨⟨fun u hu => ?_, fun u hu h1 h2 => ?_, fun u d hu had => ?_⟩, fun S s1 s2 u hu => ?_⟩
  · obtain ⟨i, hi, h1⟩ := (hS.1 u).mp hu
    exact SI_up hB hV hS i hi u h1
  · exact (hS.1 u).mpr ⟨0, Nat.zero_le _, (hS.2.1 u (by omega)).mpr ⟨h1, h2⟩⟩
  · obtain ⟨i, hi, h1⟩ := (hS.1 u).mp hu
    have hne : i ≠ deep := fun e => by rw [e, h0, tb_0] at h1; cases h1
    exact hS.2.2.2.1 i (by omega) u d h1 had
  · obtain ⟨i, hi, h1⟩ := (hS.1 u).mp hu
    have gen : ∀ i, i ≤ deep → ∀ u, tb (gl σ 25 i) u = true → S u := by
      intro i
      induction i with
      | zero =>
        intro _ u hu
        have := (hS.2.1 u (tb_lt hu)).mp hu
        exact s1 u (SI_up hB hV hS 0 (Nat.zero_le _) u hu).1 this.1 this.2
      | succ i ih =>
        intro hi u hu
        obtain ⟨d, v, q1, q2, q3⟩ := hS.2.2.1 i (by omega) u hu
        exact s2 v d u (ih (by omega) v q1) q2 q3
    exact gen i hi u h1
theorem s_search85 {w h : Nat} {U D : Nat → Bool} {K : Nat → Nat} (hB : ZB U D (w * h)) (hV : KW w U D (w * h) K) : ∀ (n deep : Nat) (σ : St) (come bd' : Int64), deep ≤ 64 → 64 - deep < n → CG σ w h U D → LJ σ K → (∀ d, d < 64 → (tb bd' d = true ↔ D d = true ∧ ∀ u, mk w K u ≠ some d)) → SI σ w h U D K come deep →
    (∃ σ' j, j < 64 ∧ f_X0_search_85 n bd' come (nI deep) σ = some (nI j, σ') ∧ eqx (fun p => p = 25) σ σ' ∧ (∃ come', SI σ' w h U D K come' j) ∧ gl σ' 25 (j + 1) ≠ 0 ∧ ∀ d, tb (gl σ' 25 (j + 1)) d = true → (∀ u, mk w K u ≠ some d) ∧ ∃ u, tb (gl σ' 25 j) u = true ∧ Ad w U D (w * h) u d) ∨ (∃ σ', f_X0_search_85 n bd' come (nI deep) σ = some (-1, σ') ∧ eqx (fun p => p = 25 ∨ p = 3) σ σ' ∧ σ'.1 = σ.1 ∧ ZC w U D (w * h) (mk w K) (fun u => tb (gl σ' 3 2) u = true) ∧ ZM w U D (w * h) (mk w K) (fun u => tb (gl σ' 3 2) u = true)) := by
  intro n
  induction n with
  | zero => intro deep σ come bd' h1 h2; omega
  | succ n ih =>
    intro deep σ come bd' h1 h2 g hL hbd hS
    have har := area_le g.2.1 g.2.2.2.1
    rw [f_X0_search_85]
    have fin : gl σ 25 deep = 0 → ∃ σ', f_X0_search_185 come σ = some (-1, σ') ∧ eqx (fun p => p = 25 ∨ p = 3) σ σ' ∧ σ'.1 = σ.1 ∧ ZC w U D (w * h) (mk w K) (fun u => tb (gl σ' 3 2) u = true) ∧ ZM w U D (w * h) (mk w K) (fun u => tb (gl σ' 3 2) u = true) := by
      intro h0
      have hE := SI_end har hB hV hS h0
      unfold f_X0_search_185
      rw [fL_at]
      refine ⟨_, rfl, eqx.sl eqx.rf (Or.inr rfl), rfl, ?_⟩
      rw [gl_sl_same]
      exact hE
    by_cases h64 : 64 ≤ deep
    · rw [if_pos (show (64 : Int32) ≤ nI deep from nI_le (a := 64) h64 (by omega))]
      refine Or.inr (fin ?_)
      apply Classical.byContradiction
      intro q
      have := SI_64 hS q
      omega
    · rw [if_neg (show ¬ (64 : Int32) ≤ nI deep from nI_ge (a := deep) (b := 64) (by omega) (by decide)), rdL_at _ _ (show deep < len 25 by show _ < 65; omega) (by decide)]
      by_cases h0 : gl σ 25 deep = 0
      · rw [if_pos h0]
        exact Or.inr (fin h0)
      · rw [if_neg h0, rdL_at _ _ (show deep < len 25 by show _ < 65; omega) (by decide), bd_at (s_downsBeside _ σ)]
        have hdb := fun d (hd : d < 64) => tb_db g hB (fun u _ hu => SI_up hB hV hS deep (Nat.le_refl _) u hu) hd
        by_cases hq : dbV σ (gl σ 25 deep) &&& bd' = 0
        · rw [if_pos hq, bd_at (s_mates _ σ), show nI deep + (1 : Int32) = nI (deep + 1) from nI_add _ 1, wrL_at _ _ _ (show deep + 1 < len 25 by show _ < 65; omega) (by decide), rdL_at _ _ (show deep + 1 < len 25 by show _ < 65; omega) (by decide), gl_sl_same]
          have hex : eqx (fun p => p = 25) σ (sl σ 25 (deep + 1) (mtV σ (dbV σ (gl σ 25 deep)) &&& (come ^^^ -1))) := eqx.sl eqx.rf rfl
          generalize hX : mtV σ (dbV σ (gl σ 25 deep)) &&& (come ^^^ -1) = X at *
          have tX : ∀ u, tb X u = true ↔ (∃ d, mk w K u = some d ∧ tb (dbV σ (gl σ 25 deep)) d = true) ∧ tb come u = false ∧ u < 64 := fun u => by
            rcases Nat.lt_or_ge u 64 with z | z
            · rw [← hX, tb_and, tb_not _ z, Bool.and_eq_true, tb_mt g hL hV z]
              simp [z]
            · rw [tb_big z]
              exact ⟨fun q => (by cases q), fun q => by omega⟩
          have old : ∀ i, i ≤ deep → gl (sl σ 25 (deep + 1) X) 25 i = gl σ 25 i := fun i hi => gl_sl_ne _ _ _ _ (by omega)
          have new : gl (sl σ 25 (deep + 1) X) 25 (deep + 1) = X := gl_sl_same _ _ _ _
          have hS' : SI (sl σ 25 (deep + 1) X) w h U D K (come ||| X) (deep + 1) := by
            obtain ⟨s1, s2, s3, s4, s5, s6⟩ := hS
            refine ⟨fun u => ?_, fun u hu => ?_, fun i hi u hu => ?_, fun i hi v d hv had => ?_, fun i j hij hj u hu hu' => ?_, fun i hi => ?_⟩
            · rw [tb_or, Bool.or_eq_true, s1]
              constructor
              · rintro (⟨i, i1, i2⟩ | q)
                · exact ⟨i, by omega, by rw [old i i1]; exact i2⟩
                · exact ⟨deep + 1, Nat.le_refl _, by rw [new]; exact q⟩
              · rintro ⟨i, i1, i2⟩
                by_cases e : i = deep + 1
                · rw [e, new] at i2; exact Or.inr i2
                · rw [old i (by omega)] at i2; exact Or.inl ⟨i, by omega, i2⟩
            · rw [old 0 (Nat.zero_le _)]; exact s2 u hu
            · by_cases e : i = deep
              · rw [e, new] at hu
                rw [e, old deep (Nat.le_refl _)]
                obtain ⟨⟨d, q1, q2⟩, -, -⟩ := (tX u).mp hu
                obtain ⟨v, q3, q4⟩ := (hdb d (tb_lt q2)).mp q2
                exact ⟨d, v, q3, q4, q1⟩
              · rw [old (i + 1) (by omega)] at hu
                rw [old i (by omega)]
                exact s3 i (by omega) u hu
            · rw [old i (by omega)] at hv
              by_cases e : i = deep
              · rw [e] at hv
                have hdl : d < 64 := by have := had.2.2.1; omega
                have hdd := (hdb d hdl).mpr ⟨v, hv, had⟩
                have hnb : ¬ tb bd' d = true := fun q => by
                  have : tb (dbV σ (gl σ 25 deep) &&& bd') d = true := by rw [tb_and, hdd, q]; rfl
                  rw [hq, tb_0] at this
                  cases this
                have hmt : ∃ u, mk w K u = some d := by
                  apply Classical.byContradiction
                  intro q
                  exact hnb ((hbd d hdl).mpr ⟨had.2.2.2.1, fun u hu => q ⟨u, hu⟩⟩)
                obtain ⟨u, hu⟩ := hmt
                refine ⟨u, hu, ?_⟩
                rw [tb_or, Bool.or_eq_true]
                cases z : tb come u with
                | true => exact Or.inl rfl
                | false => exact Or.inr ((tX u).mpr ⟨⟨d, hu, hdd⟩, z, by have := (hV.2.1 u d hu).1; omega⟩)
              · obtain ⟨u, q1, q2⟩ := s4 i (by omega) v d hv had
                exact ⟨u, q1, by rw [tb_or, q2]; rfl⟩
            · by_cases e : j = deep + 1
              · rw [e, new] at hu'
                rw [old i (by omega)] at hu
                have := ((tX u).mp hu').2.1
                rw [(s1 u).mpr ⟨i, by omega, hu⟩] at this
                cases this
              · rw [old i (by omega)] at hu
                rw [old j (by omega)] at hu'
                exact s5 i j hij (by omega) u hu hu'
            · rw [old i (by omega)]
              by_cases e : i = deep
              · rw [e]; exact h0
              · exact s6 i (by omega)
          rcases ih (deep + 1) (sl σ 25 (deep + 1) X) (come ||| X) bd' (by omega) (by omega) (g.keep hex (by decide)) (fun c hc k hk => by rw [gl_sl_ne _ _ _ _ (by omega)]; exact hL c hc k hk) hbd hS' with ⟨σ', j, q1, q2, q3, q4⟩ | ⟨σ', q1, q2, q3, q4⟩
          · exact Or.inl ⟨σ', j, q1, q2, eqx.tr hex q3, q4⟩
          · exact Or.inr ⟨σ', q1, eqx.tr (hex.mono (fun p hp => Or.inl hp)) q2, q3, q4⟩
        · rw [if_neg hq, show nI deep + (1 : Int32) = nI (deep + 1) from nI_add _ 1, wrL_at _ _ _ (show deep + 1 < len 25 by show _ < 65; omega) (by decide)]
          have hex : eqx (fun p => p = 25) σ (sl σ 25 (deep + 1) (dbV σ (gl σ 25 deep) &&& bd')) := eqx.sl eqx.rf rfl
          have old : ∀ i, i ≤ deep → gl (sl σ 25 (deep + 1) (dbV σ (gl σ 25 deep) &&& bd')) 25 i = gl σ 25 i := fun i hi => gl_sl_ne _ _ _ _ (by omega)
          refine Or.inl ⟨_, deep, by omega, rfl, hex, ⟨come, ?_⟩, by rw [gl_sl_same]; exact hq, fun d hd => ?_⟩
          · obtain ⟨s1, s2, s3, s4, s5, s6⟩ := hS
            refine ⟨fun u => ?_, fun u hu => ?_, fun i hi u hu => ?_, fun i hi v d hv had => ?_, fun i j hij hj u hu hu' => ?_, fun i hi => ?_⟩
            · rw [s1 u]
              constructor
              · rintro ⟨i, i1, i2⟩; exact ⟨i, i1, by rw [old i i1]; exact i2⟩
              · rintro ⟨i, i1, i2⟩; rw [old i i1] at i2; exact ⟨i, i1, i2⟩
            · rw [old 0 (Nat.zero_le _)]; exact s2 u hu
            · rw [old (i + 1) (by omega)] at hu
              rw [old i (by omega)]
              exact s3 i hi u hu
            · rw [old i (by omega)] at hv
              exact s4 i hi v d hv had
            · rw [old i (by omega)] at hu
              rw [old j (by omega)] at hu'
              exact s5 i j hij hj u hu hu'
            · rw [old i (by omega)]; exact s6 i hi
          · rw [gl_sl_same, tb_and, Bool.and_eq_true] at hd
            rw [old deep (Nat.le_refl _)]
            exact ⟨((hbd d (tb_lt hd.1)).mp hd.2).2, (hdb d (tb_lt hd.1)).mp hd.1⟩
