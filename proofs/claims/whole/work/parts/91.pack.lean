/-! ===== HALF 2: packed, unpack of the reference ===== -/
theorem tb_lshr (x : Int64) {k i : Nat} (h : k + i < 64) : tb (lshr x (nI k)) i = tb x (k + i) := by
  unfold tb lshr
  rw [Int64.toBitVec_shiftRight]
  show ((x.toBitVec).sshiftRight' _).getLsbD i = _
  rw [BitVec.sshiftRight_eq', sh_l k (by omega), BitVec.getLsbD_sshiftRight]
  rw [decide_eq_false (show ¬ 64 ≤ i by omega), if_pos (show k + i < 64 from h)]
  rfl
theorem tb_lN : ∀ k, k < 4 → ∀ j, j < 64 → tb (lN k) j = k.testBit j := by decide +kernel
theorem tb_3 : ∀ i, i < 64 → tb 3 i = decide (i < 2) := by decide +kernel
theorem bits_4 : ∀ k, k < 4 → (k.testBit 0).toNat + 2 * (k.testBit 1).toNat = k ∧ ∀ j, j < 64 → 2 ≤ j → k.testBit j = false := by decide +kernel
/-- the KIND packed in place c, from fr on -/
def pv (N : Nat) (K : Nat → Nat) (fr c : Nat) : Nat := if fr + c < N then K (fr + c) else 0
def PKv (v : Int64) (N : Nat) (K : Nat → Nat) (fr : Nat) : Prop := ∀ i, i < 64 → tb v i = (pv N K fr (i / 2)).testBit (i % 2)
theorem pv_4 {N : Nat} {K : Nat → Nat} (hK : ∀ c, c < N → K c < 4) (fr c : Nat) : pv N K fr c < 4 := by
  unfold pv
  split
  · next h => exact hK _ h
  · decide
theorem s_packed5 {σ : St} {w h s : Nat} {U D : Nat → Bool} {K : Nat → Nat} (g : MG σ w h U D) (hs : s < 4) (hM : LM σ s (w * h) K) (hK : ∀ c, c < w * h → K c < 4) {fr : Nat} (hfr : fr ≤ 32) : ∀ (n x : Nat) (v : Int64), x ≤ 32 → 32 - x < n → (∀ i, i < 64 → tb v i = (decide (i < 2 * x) && (pv (w * h) K fr (i / 2)).testBit (i % 2))) →
    ∃ v', f_X6_packed_5 n (nI s) (nI fr) v (nI x) σ = some (v', σ) ∧ PKv v' (w * h) K fr := by
  have har := area_le g.2.1 g.2.2.2.1
  intro n
  induction n with
  | zero => intro x v h1 h2; omega
  | succ n ih =>
    intro x v h1 h2 hv
    rw [f_X6_packed_5]
    by_cases hx : 32 ≤ x
    · rw [if_pos (show (32 : Int32) ≤ nI x from nI_le (a := 32) hx (by omega))]
      refine ⟨v, rfl, fun i hi => ?_⟩
      rw [hv i hi, decide_eq_true (show i < 2 * x by omega), Bool.true_and]
    · rw [if_neg (show ¬ (32 : Int32) ≤ nI x from nI_ge (a := x) (b := 32) (by omega) (by decide)), bd_at (s_cells g), nI_add]
      unfold f_X6_packed_41
      have go : ∃ v', f_X6_packed_5 n (nI s) (nI fr) (v ||| lshl ((nI (pv (w * h) K fr x)).toInt64) (2 * nI x)) (nI x + 1) σ = some (v', σ) ∧ PKv v' (w * h) K fr := by
        have h4 := pv_4 hK fr x
        rw [nI_1, nI_l (show pv (w * h) K fr x < 2 ^ 31 by omega), show (2 : Int32) = nI 2 from rfl, nI_mul]
        refine ih (x + 1) _ (by omega) (by omega) (fun i hi => ?_)
        rw [tb_or, hv i hi, tb_lshl _ (by omega), decide_eq_true hi, Bool.true_and]
        by_cases q1 : i < 2 * x
        · rw [decide_eq_true q1, decide_eq_false (show ¬ 2 * x ≤ i by omega), decide_eq_true (show i < 2 * (x + 1) by omega), Bool.false_and, Bool.or_false]
        · rw [decide_eq_false q1, decide_eq_true (show 2 * x ≤ i by omega), Bool.false_and, Bool.false_or, Bool.true_and, tb_lN _ h4 _ (by omega)]
          by_cases q2 : i < 2 * (x + 1)
          · rw [decide_eq_true q2, Bool.true_and, show i / 2 = x by omega, show i - 2 * x = i % 2 by omega]
          · rw [decide_eq_false q2, Bool.false_and]
            exact (bits_4 _ h4).2 _ (by omega) (by omega)
      by_cases hc : w * h ≤ fr + x
      · rw [if_pos (nI_le hc (by omega))]
        rw [show pv (w * h) K fr x = 0 from if_neg (by omega)] at go
        exact go
      · rw [if_neg (nI_ge (by omega) (by omega)), show (64 : Int32) * nI s + nI fr + nI x = nI (64 * s + (fr + x)) by rw [show (64 : Int32) = nI 64 from rfl, nI_mul, nI_add, nI_add, Nat.add_assoc], rdI_at _ _ (show 64 * s + (fr + x) < len 30 by show _ < 256; omega) (by decide), hM (fr + x) (by omega)]
        rw [show pv (w * h) K fr x = K (fr + x) from if_pos (by omega)] at go
        exact go
theorem s_packed {σ : St} {w h s : Nat} {U D : Nat → Bool} {K : Nat → Nat} (g : MG σ w h U D) (hs : s < 4) (hM : LM σ s (w * h) K) (hK : ∀ c, c < w * h → K c < 4) {fr : Nat} (hfr : fr ≤ 32) : ∃ v', f_X6_packed (nI s) (nI fr) σ = some (v', σ) ∧ PKv v' (w * h) K fr := by
  unfold f_X6_packed
  exact s_packed5 g hs hM hK hfr FU 0 0 (Nat.zero_le _) (by decide) (fun i hi => by rw [tb_0, decide_eq_false (by omega), Bool.false_and])
theorem PKv_same {v : Int64} {v' : Int64} {N : Nat} {K : Nat → Nat} {fr : Nat} (h : PKv v N K fr) (h' : PKv v' N K fr) : v = v' := tb_ext (fun i hi => by rw [h i hi, h' i hi])
theorem and3 (y : Int64) : (y &&& 3) = lN ((tb y 0).toNat + 2 * (tb y 1).toNat) := by
  apply tb_ext
  intro i hi
  have h4 : (tb y 0).toNat + 2 * (tb y 1).toNat < 4 := by cases tb y 0 <;> cases tb y 1 <;> decide
  rw [tb_and, tb_3 i hi, tb_lN _ h4 i hi]
  by_cases h0 : i = 0
  · subst h0; cases tb y 0 <;> cases tb y 1 <;> rfl
  · by_cases h1 : i = 1
    · subst h1; cases tb y 0 <;> cases tb y 1 <;> rfl
    · rw [decide_eq_false (show ¬ i < 2 by omega), Bool.and_false, (bits_4 _ h4).2 i hi (by omega)]
/-- a packed KIND told back -/
theorem unp {v : Int64} {N : Nat} {K : Nat → Nat} {fr c : Nat} (h : PKv v N K fr) (hc : c < 32) (hK : ∀ c, c < N → K c < 4) : ((lshr v (nI (2 * c))) &&& 3).toInt32 = nI (pv N K fr c) := by
  have h4 := pv_4 hK fr c
  rw [and3, tb_lshr _ (by omega), tb_lshr _ (by omega), h _ (by omega), h _ (by omega), show (2 * c + 0) / 2 = c by omega, show (2 * c + 0) % 2 = 0 by omega, show (2 * c + 1) / 2 = c by omega, show (2 * c + 1) % 2 = 1 by omega, (bits_4 _ h4).1, lN_i]
/-- two packings alike: the KINDS alike -/
theorem PKv_inj {a b : Int64} {N : Nat} {K M : Nat → Nat} (hN : N ≤ 64) (hK : ∀ c, c < N → K c < 4) (hM : ∀ c, c < N → M c < 4) (k0 : PKv a N K 0) (k1 : PKv b N K 32) (m0 : PKv a N M 0) (m1 : PKv b N M 32) : ∀ c, c < N → K c = M c := by
  have gen : ∀ fr v c, c < 32 → PKv v N K fr → PKv v N M fr → pv N K fr c = pv N M fr c := by
    intro fr v c hc p1 p2
    have e := (unp p1 hc hK).symm.trans (unp p2 hc hM)
    have h1 := pv_4 hK fr c
    have h2 := pv_4 hM fr c
    exact (nI_eq (by omega) (by omega)).mp e
  intro c hc
  by_cases q : c < 32
  · have := gen 0 a c q k0 m0
    unfold pv at this
    rw [Nat.zero_add, if_pos hc, if_pos hc] at this
    exact this
  · have := gen 32 b (c - 32) (by omega) k1 m1
    unfold pv at this
    rw [show 32 + (c - 32) = c by omega, if_pos hc, if_pos hc] at this
    exact this
theorem s_unpack2 {w h s i : Nat} {U D : Nat → Bool} {K : Nat → Nat} (hs : s < 4) (hi : i < 2001) (hK : ∀ c, c < w * h → K c < 4) : ∀ (n c : Nat) (σ : St), c ≤ w * h → w * h - c < n → MG σ w h U D → PKv (gl σ 36 i) (w * h) K 0 → PKv (gl σ 37 i) (w * h) K 32 → LM σ s c K →
    ∃ σ', f_X6_unpack_2 n (nI s) (nI i) (nI c) σ = some ((), σ') ∧ LM σ' s (w * h) K ∧ eqs s σ σ' := by
  intro n
  induction n with
  | zero => intro c σ h1 h2; omega
  | succ n ih =>
    intro c σ h1 h2 g p0 p1 hL
    have har := area_le g.2.1 g.2.2.2.1
    rw [f_X6_unpack_2, bd_at (s_cells g)]
    by_cases hc : w * h ≤ c
    · have e : c = w * h := by omega
      rw [if_pos (nI_le hc (by omega))]
      rw [e] at hL
      exact ⟨σ, rfl, hL, eqs.rf⟩
    · have hc' : c < w * h := by omega
      rw [if_neg (nI_ge hc' (by omega))]
      have go : ∃ σ', (wrI σ 30 (((64 : Int32) * nI s) + nI c) (nI (K c)) fun σ1 => f_X6_unpack_2 n (nI s) (nI i) (nI c + 1) σ1) = some ((), σ') ∧ LM σ' s (w * h) K ∧ eqs s σ σ' := by
        rw [show (64 : Int32) * nI s + nI c = nI (64 * s + c) by rw [show (64 : Int32) = nI 64 from rfl, nI_mul, nI_add], wrI_at _ _ _ (show 64 * s + c < len 30 by show _ < 256; omega) (by decide), nI_1]
        have hes : eqs s σ (si σ 30 (64 * s + c) (nI (K c))) := eqs.si eqs.rf (by omega)
        obtain ⟨σ', d1, d2, d3⟩ := ih (c + 1) (si σ 30 (64 * s + c) (nI (K c))) (by omega) (by omega) (eqs_MG g hes) p0 p1 (fun c' hc2 => by
          by_cases e : c' = c
          · subst e; rw [gi_si_same]
          · rw [gi_si_ne _ _ _ _ (by omega)]; exact hL c' (by omega))
        exact ⟨σ', d1, d2, eqs.tr hes d3⟩
      unfold f_X6_unpack_42
      by_cases h32 : 32 ≤ c
      · rw [if_pos (show (32 : Int32) ≤ nI c from nI_le (a := 32) h32 (by omega)), rdL_at _ _ (show i < len 37 from hi) (by decide), show nI c - (32 : Int32) = nI (c - 32) from nI_sub (b := 32) h32, show (2 : Int32) = nI 2 from rfl, nI_mul, unp p1 (by omega) hK, show pv (w * h) K 32 (c - 32) = K c by unfold pv; rw [show 32 + (c - 32) = c by omega, if_pos hc']]
        exact go
      · rw [if_neg (show ¬ (32 : Int32) ≤ nI c from nI_ge (a := c) (b := 32) (by omega) (by decide)), rdL_at _ _ (show i < len 36 from hi) (by decide), show (2 : Int32) = nI 2 from rfl, nI_mul, unp p0 (by omega) hK, show pv (w * h) K 0 c = K c by unfold pv; rw [Nat.zero_add, if_pos hc']]
        exact go
/-! ===== the table ===== -/
def mixV (a b : Int64) : Int64 := (((((a * (31 : Int64)) + (b * (17 : Int64))) + (lshr a (29 : Int32))) + (lshr b (23 : Int32))) + (lshr a (11 : Int32)))
def hsh (a b : Int64) : Nat := un (mixV a b) % 4096
theorem lN_un (x : Int64) : lN (un x) = x := by
  apply Int64.toBitVec_inj.mp
  show BitVec.ofNat 64 x.toBitVec.toNat = x.toBitVec
  simp
theorem hsh_eq (y : Int64) : (y &&& (4095 : Int64)).toInt32 = nI (un y % 4096) := by
  rw [← lN_un (y &&& 4095), un_and, show un 4095 = 2 ^ 12 - 1 from rfl, Nat.and_two_pow_sub_one_eq_mod, lN_i]
def HT (σ : St) (n : Nat) (t : Nat → Nat) (La Lb : Nat → Int64) : Prop := n ≤ 2000 ∧ gi σ 26 14 = nI n ∧ (∀ j, j < 4096 → gi σ 38 j = nI (t j) ∧ t j ≤ n) ∧ (∀ i, i < n → gl σ 36 i = La i ∧ gl σ 37 i = Lb i) ∧ cnt (fun j => decide (t j ≠ 0)) 4096 ≤ n ∧ ∀ i, i < n → ∃ d, d < 4096 ∧ t ((hsh (La i) (Lb i) + d) % 4096) = i + 1 ∧ ∀ d', d' < d → t ((hsh (La i) (Lb i) + d') % 4096) ≠ 0
theorem cnt_all {f : Nat → Bool} : ∀ {n : Nat}, (∀ i, i < n → f i = true) → cnt f n = n
  | 0, _ => rfl
  | n + 1, h => by
    show cnt f n + (if f n = true then 1 else 0) = n + 1
    rw [cnt_all (fun i hi => h i (by omega)), h n (by omega)]
    rfl
def upN (f : Nat → Nat) (a v p : Nat) : Nat := if p = a then v else f p
def upL (f : Nat → Int64) (a : Nat) (v : Int64) (p : Nat) : Int64 := if p = a then v else f p
/-- what meet changes -/
def eqh (σ τ : St) : Prop := (∀ p k, ¬ (p = 26 ∧ k = 14) → p ≠ 38 → gi τ p k = gi σ p k) ∧ ∀ p k, p ≠ 36 → p ≠ 37 → gl τ p k = gl σ p k
theorem s_meet55 {σ : St} {n : Nat} {t : Nat → Nat} {La Lb : Nat → Int64} (hH : HT σ n t La Lb) (a b : Int64) : ∀ (f d : Nat), d ≤ 4096 → 4096 - d < f → (∀ d', d' < d → t ((hsh a b + d') % 4096) ≠ 0 ∧ ∀ i, t ((hsh a b + d') % 4096) = i + 1 → ¬ (La i = a ∧ Lb i = b)) →
    ((∃ i, i < n ∧ La i = a ∧ Lb i = b) ∧ f_X6_meet_55 f a b (nI ((hsh a b + d) % 4096)) σ = some (1, σ)) ∨ ((∀ i, i < n → ¬ (La i = a ∧ Lb i = b)) ∧ n = 2000 ∧ f_X6_meet_55 f a b (nI ((hsh a b + d) % 4096)) σ = some (0, σ)) ∨ ((∀ i, i < n → ¬ (La i = a ∧ Lb i = b)) ∧ n < 2000 ∧ ∃ σ' t', f_X6_meet_55 f a b (nI ((hsh a b + d) % 4096)) σ = some (1, σ') ∧ HT σ' (n + 1) t' (upL La n a) (upL Lb n b) ∧ eqh σ σ') := by
  obtain ⟨H1, H2, H3, H4, H5, H6⟩ := id hH
  intro f
  induction f with
  | zero => intro d h1 h2; omega
  | succ f ih =>
    intro d h1 h2 hd
    have hd4 : d < 4096 := by
      apply Classical.byContradiction
      intro q
      have e : d = 4096 := by omega
      subst e
      have hall : cnt (fun j => decide (t j ≠ 0)) 4096 = 4096 := cnt_all (fun j hj => by
        have := (hd ((j + 4096 - hsh a b % 4096) % 4096) (Nat.mod_lt _ (by decide))).1
        have ej : (hsh a b + (j + 4096 - hsh a b % 4096) % 4096) % 4096 = j := by omega
        rw [ej] at this
        exact decide_eq_true this)
      omega
    have hjlt : (hsh a b + d) % 4096 < 4096 := Nat.mod_lt _ (by decide)
    rw [f_X6_meet_55, rdI_at _ _ (show (hsh a b + d) % 4096 < len 38 from hjlt) (by decide), (H3 _ hjlt).1]
    have ht := (H3 _ hjlt).2
    by_cases h0 : t ((hsh a b + d) % 4096) = 0
    · have hno : ∀ i, i < n → ¬ (La i = a ∧ Lb i = b) := fun i hi z => by
        obtain ⟨di, d1, d2, d3⟩ := H6 i hi
        rw [z.1, z.2] at d2 d3
        rcases Nat.lt_trichotomy di d with q | q | q
        · exact (hd di q).2 i d2 z
        · rw [q, h0] at d2; cases d2
        · exact d3 d q h0
      rw [h0, if_pos (show nI 0 = 0 from rfl), H2]
      by_cases hn : n = 2000
      · rw [if_pos (by rw [hn]; rfl)]
        exact Or.inr (Or.inl ⟨hno, hn, rfl⟩)
      · rw [if_neg (show ¬ nI n = (2000 : Int32) from fun z => hn ((nI_eq (b := 2000) (by omega) (by decide)).mp z))]
        refine Or.inr (Or.inr ⟨hno, by omega, ?_⟩)
        rw [wrL_at _ _ _ (show n < len 36 by show n < 2001; omega) (by decide), gi_sl, H2, wrL_at _ _ _ (show n < len 37 by show n < 2001; omega) (by decide), fI_at, gi_sl, gi_sl, H2, nI_1, gi_si_same, wrI_at _ _ _ (show (hsh a b + d) % 4096 < len 38 from hjlt) (by decide)]
        generalize hj : (hsh a b + d) % 4096 = j at *
        refine ⟨_, upN t j (n + 1), rfl, ⟨by omega, ?_, fun j' hj' => ?_, fun i hi => ?_, ?_, fun i hi => ?_⟩, ?_, ?_⟩
        · rw [gi_si_ne _ _ _ _ (by omega), gi_si_same]
        · unfold upN
          rw [gi_si]
          by_cases e : j' = j
          · rw [if_pos ⟨rfl, e⟩, if_pos e]
            exact ⟨rfl, Nat.le_refl _⟩
          · rw [if_neg (fun z => e z.2), if_neg e, gi_si_ne _ _ _ _ (by omega)]
            exact ⟨(H3 j' hj').1, by have := (H3 j' hj').2; omega⟩
        · unfold upL
          rw [gl_si, gl_si, gl_si, gl_si, gl_sl, gl_sl, gl_sl, gl_sl]
          by_cases e : i = n
          · subst e; simp
          · have := H4 i (by omega)
            simp [e, this]
        · have e1 : cnt (fun j => decide (t j ≠ 0)) 4096 = cnt (upB (fun i => decide (upN t j (n + 1) i ≠ 0)) j false) 4096 := cnt_congr (fun i hi => by
            unfold upB upN
            by_cases e : i = j
            · rw [if_pos e, e, h0]; rfl
            · rw [if_neg e]
              show _ = decide ((if i = j then n + 1 else t i) ≠ 0)
              rw [if_neg e])
          have e2 := cnt_upd (f := fun i => decide (upN t j (n + 1) i ≠ 0)) (n := 4096) hjlt (by unfold upN; rw [if_pos rfl]; exact decide_eq_true (by omega))
          omega
        · by_cases e : i = n
          · refine ⟨d, hd4, ?_, fun d' hd' => ?_⟩
            · unfold upL upN
              rw [if_pos e, if_pos e, hj, if_pos rfl, e]
            · unfold upL upN
              rw [if_pos e, if_pos e]
              split
              · omega
              · exact (hd d' hd').1
          · obtain ⟨di, d1, d2, d3⟩ := H6 i (by omega)
            refine ⟨di, d1, ?_, fun d' hd' => ?_⟩
            · unfold upL upN
              rw [if_neg e, if_neg e, if_neg (fun z => by rw [z, h0] at d2; cases d2)]
              exact d2
            · unfold upL upN
              rw [if_neg e, if_neg e]
              split
              · omega
              · exact d3 d' hd'
        · intro p k h3 h4
          rw [gi_si_ne _ _ _ _ (fun z => h4 z.1), gi_si_ne _ _ _ _ h3]
          rfl
        · intro p k h3 h4
          rw [gl_si, gl_si, gl_sl_ne _ _ _ _ (fun z => h4 z.1), gl_sl_ne _ _ _ _ (fun z => h3 z.1)]
    · obtain ⟨i, hi⟩ : ∃ i, t ((hsh a b + d) % 4096) = i + 1 := ⟨t ((hsh a b + d) % 4096) - 1, by omega⟩
      have hin : i < n := by omega
      rw [if_neg (nI_ne0 (by omega) (by omega)), rdI_at _ _ (show (hsh a b + d) % 4096 < len 38 from hjlt) (by decide), (H3 _ hjlt).1, hi, nI_pred, rdL_at _ _ (show i < len 36 by show i < 2001; omega) (by decide), (H4 i hin).1]
      have next : ¬ (La i = a ∧ Lb i = b) → ((∃ i, i < n ∧ La i = a ∧ Lb i = b) ∧ f_X6_meet_103 (f_X6_meet_55 f) a b (nI ((hsh a b + d) % 4096)) σ = some (1, σ)) ∨ ((∀ i, i < n → ¬ (La i = a ∧ Lb i = b)) ∧ n = 2000 ∧ f_X6_meet_103 (f_X6_meet_55 f) a b (nI ((hsh a b + d) % 4096)) σ = some (0, σ)) ∨ ((∀ i, i < n → ¬ (La i = a ∧ Lb i = b)) ∧ n < 2000 ∧ ∃ σ' t', f_X6_meet_103 (f_X6_meet_55 f) a b (nI ((hsh a b + d) % 4096)) σ = some (1, σ') ∧ HT σ' (n + 1) t' (upL La n a) (upL Lb n b) ∧ eqh σ σ') := by
        intro hne
        unfold f_X6_meet_103
        rw [show (1 : Int32) = nI 1 from rfl, nI_add, show (4096 : Int32) = nI 4096 from rfl, rmI_at _ (by omega) (by decide) (by decide), show ((hsh a b + d) % 4096 + 1) % 4096 = (hsh a b + (d + 1)) % 4096 by omega]
        refine ih (d + 1) (by omega) (by omega) (fun d' hd' => ?_)
        by_cases e : d' = d
        · rw [e]
          refine ⟨h0, fun i' hi' => ?_⟩
          rw [hi] at hi'
          have : i' = i := by omega
          rw [this]
          exact hne
        · exact hd d' (by omega)
      by_cases ea : La i = a
      · rw [if_pos ea, rdL_at _ _ (show i < len 37 by show i < 2001; omega) (by decide), (H4 i hin).2]
        by_cases eb : Lb i = b
        · rw [if_pos eb]
          exact Or.inl ⟨⟨i, hin, ea, eb⟩, rfl⟩
        · rw [if_neg eb]
          exact next (fun z => eb z.2)
      · rw [if_neg ea]
        exact next (fun z => ea z.1)
