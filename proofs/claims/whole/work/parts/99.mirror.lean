/-! ===== HALF 2: mirrors ===== -/
def trc (w c : Nat) : Nat := c % w * w + c / w
def sw12 (k : Nat) : Nat := if k = 1 then 2 else if k = 2 then 1 else k
/-- the MIRROR's KINDS -/
def mrK (w : Nat) (K : Nat → Nat) (c : Nat) : Nat := if c < w * w then sw12 (K (trc w c)) else 3
def sym (w : Nat) (F : Nat → Bool) : Prop := ∀ c, c < w * w → F (trc w c) = F c
theorem trc_xy {w x y : Nat} (hx : x < w) : trc w (y * w + x) = x * w + y := by
  unfold trc
  rw [row_mod hx, show (y * w + x) / w = y by rw [Nat.mul_comm, Nat.mul_add_div (by omega), Nat.div_eq_of_lt hx, Nat.add_zero]]
theorem xy_of {w c : Nat} (hc : c < w * w) : ∃ x y, x < w ∧ y < w ∧ c = y * w + x := by
  have hw : 0 < w := by
    rcases Nat.eq_zero_or_pos w with z | z
    · rw [z] at hc; omega
    · exact z
  exact ⟨c % w, c / w, Nat.mod_lt c hw, Nat.div_lt_of_lt_mul hc, by rw [Nat.mul_comm]; exact (Nat.div_add_mod c w).symm⟩
theorem sw_0 (k : Nat) : sw12 k = 0 ↔ k = 0 := by
  unfold sw12
  by_cases h1 : k = 1
  · rw [if_pos h1]; omega
  · rw [if_neg h1]
    by_cases h2 : k = 2
    · rw [if_pos h2]; omega
    · rw [if_neg h2]
theorem sw_1 (k : Nat) : sw12 k = 1 ↔ k = 2 := by
  unfold sw12
  by_cases h1 : k = 1
  · rw [if_pos h1]; omega
  · rw [if_neg h1]
    by_cases h2 : k = 2
    · rw [if_pos h2]; omega
    · rw [if_neg h2]; omega
theorem sw_2 (k : Nat) : sw12 k = 2 ↔ k = 1 := by
  unfold sw12
  by_cases h1 : k = 1
  · rw [if_pos h1]; omega
  · rw [if_neg h1]
    by_cases h2 : k = 2
    · rw [if_pos h2]; omega
    · rw [if_neg h2]; omega
theorem sw_3 (k : Nat) : sw12 k = 3 ↔ k = 3 := by
  unfold sw12
  by_cases h1 : k = 1
  · rw [if_pos h1]; omega
  · rw [if_neg h1]
    by_cases h2 : k = 2
    · rw [if_pos h2]; omega
    · rw [if_neg h2]
theorem sw_lt {k : Nat} (h : k < 4) : sw12 k < 4 := by
  unfold sw12
  split
  · decide
  · split
    · decide
    · exact h
theorem mr_xy {w : Nat} {K : Nat → Nat} {x y : Nat} (hx : x < w) (hy : y < w) : mrK w K (y * w + x) = sw12 (K (x * w + y)) := by
  unfold mrK
  rw [if_pos (cell_lt hx hy), trc_xy hx]
theorem b1_iff {p q : Prop} [Decidable p] [Decidable q] (h : p ↔ q) : b1 p = b1 q := by
  by_cases hp : p
  · rw [b1_t hp, b1_t (h.mp hp)]
  · rw [b1_f hp, b1_f (fun z => hp (h.mpr z))]
theorem mr_LL {w : Nat} {U D : Nat → Bool} {K : Nat → Nat} (hw : 1 ≤ w) (hU : sym w U) (hD : sym w D) (hL : LL w U D (w * w) K) : LL w U D (w * w) (mrK w K) := by
  refine ⟨fun c hc => ?_, fun c hc => if_neg (by omega), fun d hd => ?_⟩
  · obtain ⟨x, y, hx, hy, e⟩ := xy_of hc
    have hlt := cell_lt hy hx
    have l := hL.1 _ hlt
    have hu := hU c hc
    rw [e, trc_xy hx] at hu
    rw [e, mr_xy hx hy]
    refine ⟨sw_lt l.1, by rw [sw_3, l.2.1, hu], fun q => ?_, fun q => ?_⟩
    · have := l.2.2.2 ((sw_1 _).mp q)
      rw [row_mod hx]
      intro z
      rw [z, Nat.zero_mul] at this
      omega
    · have := l.2.2.1 ((sw_2 _).mp q)
      rw [row_mod hy] at this
      have : 1 * w ≤ y * w := Nat.mul_le_mul_right w (by omega)
      omega
  · obtain ⟨x, y, hx, hy, e⟩ := xy_of hd
    have hlt := cell_lt hy hx
    have hc := hL.2.2 _ hlt
    have hdd := hD d hd
    rw [e, trc_xy hx] at hdd
    rw [e, ← hdd, ← hc]
    have t0 : b1 (mrK w K (y * w + x) = 0) = b1 (K (x * w + y) = 0) := b1_iff (by rw [mr_xy hx hy, sw_0])
    have t1 : b1 (mrK w K (y * w + x + 1) = 1) = b1 (K (x * w + y + w) = 2) := by
      have ex : x * w + y + w = (x + 1) * w + y := by rw [Nat.add_mul]; omega
      rw [ex]
      by_cases hx1 : x + 1 < w
      · refine b1_iff ?_
        rw [show y * w + x + 1 = y * w + (x + 1) by omega, mr_xy hx1 hy, sw_1]
      · have hxw : x + 1 = w := by omega
        have k3 : K ((x + 1) * w + y) = 3 := hL.2.1 _ (by rw [hxw]; omega)
        rw [k3, b1_f (show ¬ mrK w K (y * w + x + 1) = 1 from ?_), b1_f (by decide)]
        intro q
        have ey : y * w + x + 1 = (y + 1) * w + 0 := by rw [Nat.add_mul]; omega
        rw [ey] at q
        by_cases hy1 : y + 1 < w
        · rw [mr_xy (by omega) hy1, sw_1, Nat.zero_mul, Nat.zero_add] at q
          have := (hL.1 (y + 1) (by have := Nat.mul_le_mul_right w hw; omega)).2.2.2 q
          omega
        · have : y + 1 = w := by omega
          rw [this] at q
          unfold mrK at q
          rw [if_neg (by omega)] at q
          cases q
    have t2 : b1 (mrK w K (y * w + x + w) = 2) = b1 (K (x * w + y + 1) = 1) := by
      have ey : y * w + x + w = (y + 1) * w + x := by rw [Nat.add_mul]; omega
      rw [ey]
      by_cases hy1 : y + 1 < w
      · refine b1_iff ?_
        rw [mr_xy hx hy1, sw_2, show x * w + (y + 1) = x * w + y + 1 by omega]
      · have hyw : y + 1 = w := by omega
        rw [b1_f (show ¬ mrK w K ((y + 1) * w + x) = 2 from ?_), b1_f ?_]
        · intro q
          have e2 : x * w + y + 1 = (x + 1) * w := by rw [Nat.add_mul]; omega
          rw [e2] at q
          rcases Nat.lt_or_ge ((x + 1) * w) (w * w) with z | z
          · have := (hL.1 _ z).2.2.1 q
            rw [Nat.mul_mod_left] at this
            exact this rfl
          · rw [hL.2.1 _ z] at q; cases q
        · intro q
          unfold mrK at q
          rw [if_neg (by rw [hyw]; omega)] at q
          cases q
    rw [t0, t1, t2]
    omega
/-! across of the class -/
theorem s_across17 {σ : St} {w y : Nat} {X : Int64} (hw1 : 1 ≤ w) (hw8 : w ≤ 8) (ew : gi σ 1 0 = nI w) (eh : gi σ 1 1 = nI w) (hy : y < w) (k5 : Int64 → Int64 → Int32 → St → Option (Int64 × St)) : ∀ (n x : Nat) (t : Int64), x ≤ w → w - x < n → (∀ i, i < 64 → tb t i = (decide (i < w * w ∧ (i % w < y ∨ (i % w = y ∧ i / w < x))) && tb X (trc w i))) →
    ∃ t', f_X1_across_17 k5 n X t (nI y) (nI x) σ = k5 X t' (nI (y + 1)) σ ∧ ∀ i, i < 64 → tb t' i = (decide (i < w * w ∧ i % w < y + 1) && tb X (trc w i)) := by
  have har := area_le hw8 hw8
  intro n
  induction n with
  | zero => intro x t h1 h2; omega
  | succ n ih =>
    intro x t h1 h2 ht
    rw [f_X1_across_17, ew]
    by_cases hx : w ≤ x
    · have e : x = w := by omega
      rw [if_pos (nI_le hx (by omega)), nI_1]
      refine ⟨t, rfl, fun i hi => ?_⟩
      rw [ht i hi]
      by_cases hiN : i < w * w
      · have : i / w < w := Nat.div_lt_of_lt_mul hiN
        congr 1
        exact decide_eq_decide.mpr (by omega)
      · rw [decide_eq_false (fun z => hiN z.1), decide_eq_false (fun z => hiN z.1)]
    · have hx' : x < w := by omega
      have hlt := cell_lt hx' hy
      have hlt2 := cell_lt hy hx'
      rw [if_neg (nI_ge hx' (by omega)), bd_at (s_pointBit ew eh hx' hy hw8 hw8)]
      unfold f_X1_across_52
      have next : ∀ t2 : Int64, (∀ i, i < 64 → tb t2 i = (tb t i || (decide (i = x * w + y) && tb X (y * w + x)))) → ∃ t', f_X1_across_17 k5 n X t2 (nI y) (nI x + 1) σ = k5 X t' (nI (y + 1)) σ ∧ ∀ i, i < 64 → tb t' i = (decide (i < w * w ∧ i % w < y + 1) && tb X (trc w i)) := by
        intro t2 ht2
        rw [nI_1]
        refine ih (x + 1) t2 (by omega) (by omega) (fun i hi => ?_)
        rw [ht2 i hi, ht i hi]
        by_cases e : i = x * w + y
        · have em : i % w = y := by rw [e]; exact row_mod hy
          have ed : i / w = x := by rw [e, Nat.mul_comm, Nat.mul_add_div (by omega), Nat.div_eq_of_lt hy, Nat.add_zero]
          have et : trc w i = y * w + x := by rw [e]; exact trc_xy hy
          rw [et, em, ed, decide_eq_true e, decide_eq_false (show ¬ (i < w * w ∧ (y < y ∨ (y = y ∧ x < x))) by omega), decide_eq_true (show i < w * w ∧ (y < y ∨ (y = y ∧ x < x + 1)) from ⟨by omega, Or.inr ⟨rfl, by omega⟩⟩)]
          simp
        · rw [decide_eq_false e, Bool.false_and, Bool.or_false]
          congr 1
          refine decide_eq_decide.mpr ⟨fun z => ⟨z.1, by omega⟩, fun z => ⟨z.1, ?_⟩⟩
          rcases z.2 with q | q
          · exact Or.inl q
          · refine Or.inr ⟨q.1, ?_⟩
            rcases Nat.lt_or_ge (i / w) x with r | r
            · exact r
            · exfalso
              have hd := Nat.div_add_mod i w
              have ed : i / w = x := by omega
              rw [ed, q.1, Nat.mul_comm] at hd
              omega
      by_cases hb : tb X (y * w + x) = true
      · rw [if_neg (fun z => by rw [(and_bit (by omega)).mp z] at hb; cases hb), bd_at (s_pointBit ew eh hy hx' hw8 hw8)]
        exact next _ (fun i hi => by rw [tb_or, tb_bit (by omega), hb, Bool.and_true])
      · have hb' : tb X (y * w + x) = false := by
          cases z : tb X (y * w + x) with
          | false => rfl
          | true => exact absurd z hb
        rw [if_pos ((and_bit (by omega)).mpr hb')]
        exact next t (fun i hi => by rw [hb', Bool.and_false, Bool.or_false])
theorem s_across5 {σ : St} {w : Nat} {X : Int64} (hw1 : 1 ≤ w) (hw8 : w ≤ 8) (ew : gi σ 1 0 = nI w) (eh : gi σ 1 1 = nI w) : ∀ (n y : Nat) (t : Int64), y ≤ w → w - y < n → (∀ i, i < 64 → tb t i = (decide (i < w * w ∧ i % w < y) && tb X (trc w i))) →
    ∃ t', f_X1_across_5 n X t (nI y) σ = some (t', σ) ∧ ∀ i, i < 64 → tb t' i = (decide (i < w * w) && tb X (trc w i)) := by
  intro n
  induction n with
  | zero => intro y t h1 h2; omega
  | succ n ih =>
    intro y t h1 h2 ht
    rw [f_X1_across_5, eh]
    by_cases hy : w ≤ y
    · rw [if_pos (nI_le hy (by omega))]
      refine ⟨t, rfl, fun i hi => ?_⟩
      rw [ht i hi]
      have := Nat.mod_lt i (show 0 < w by omega)
      congr 1
      exact decide_eq_decide.mpr (by omega)
    · rw [if_neg (nI_ge (by omega) (by omega))]
      obtain ⟨t2, e1, e2⟩ := s_across17 (X := X) hw1 hw8 ew eh (show y < w by omega) (f_X1_across_5 n) FU 0 t (Nat.zero_le _) (by unfold FU; omega) (fun i hi => by
        rw [ht i hi]
        congr 1
        refine decide_eq_decide.mpr ⟨fun z => ⟨z.1, Or.inl z.2⟩, fun z => ⟨z.1, ?_⟩⟩
        rcases z.2 with q | q
        · exact q
        · exact absurd q.2 (Nat.not_lt_zero _))
      rw [show nI 0 = 0 from rfl] at e1
      rw [e1]
      exact ih (y + 1) t2 (by omega) (by omega) e2
theorem s_across {σ : St} {w : Nat} (X : Int64) (hw1 : 1 ≤ w) (hw8 : w ≤ 8) (ew : gi σ 1 0 = nI w) (eh : gi σ 1 1 = nI w) : ∃ t', f_X1_across X σ = some (t', σ) ∧ ∀ i, i < 64 → tb t' i = (decide (i < w * w) && tb X (trc w i)) := by
  unfold f_X1_across
  exact s_across5 hw1 hw8 ew eh FU 0 0 (Nat.zero_le _) (by unfold FU; omega) (fun i hi => by rw [tb_0, decide_eq_false (by omega), Bool.false_and])
theorem s_isSymmetric {σ : St} {w h : Nat} {U D : Nat → Bool} (g : CG σ w h U D) (hB : ZB U D (w * h)) : (w = h ∧ sym w U ∧ sym w D → f_X1_isSymmetric σ = some (1, σ)) ∧ (¬ (w = h ∧ sym w U ∧ sym w D) → f_X1_isSymmetric σ = some (0, σ)) := by
  obtain ⟨g1, g2, g3, g4, g5, g6, g7, g8, g9, g10⟩ := id g
  unfold f_X1_isSymmetric f_X1_isSymmetric_47 f_X1_isSymmetric_48
  rw [g5, g6]
  by_cases hwh : w = h
  · subst hwh
    have har := area_le g2 g2
    rw [if_pos rfl]
    have same : ∀ (F : Nat → Bool) (X t : Int64), (∀ c, c < 64 → tb X c = F c) → (∀ c, w * w ≤ c → F c = false) → (∀ i, i < 64 → tb t i = (decide (i < w * w) && tb X (trc w i))) → (t = X ↔ sym w F) := by
      intro F X t hX hF ht
      have tl : ∀ c, c < w * w → trc w c < w * w := fun c hc => by
        obtain ⟨x, y, hx, hy, e⟩ := xy_of hc
        rw [e, trc_xy hx]
        exact cell_lt hy hx
      constructor
      · intro e c hc
        have := ht c (by omega)
        rw [e, hX c (by omega), decide_eq_true hc, Bool.true_and, hX _ (by have := tl c hc; omega)] at this
        exact this.symm
      · intro hs
        apply tb_ext
        intro i hi
        rw [ht i hi, hX i hi]
        rcases Nat.lt_or_ge i (w * w) with z | z
        · rw [decide_eq_true z, Bool.true_and, hX _ (by have := tl i z; omega)]
          exact hs i z
        · rw [decide_eq_false (by omega), Bool.false_and, hF i z]
    obtain ⟨t1, a1, a2⟩ := s_across (gl σ 1 3) g1 g2 g5 g6
    have q1 := same U (gl σ 1 3) t1 g8 (fun c hc => (hB c hc).1) a2
    rw [bd_at a1]
    obtain ⟨t2, b1', b2'⟩ := s_across (gl σ 1 4) g1 g2 g5 g6
    have q2 := same D (gl σ 1 4) t2 g9 (fun c hc => (hB c hc).2) b2'
    constructor
    · rintro ⟨-, h1, h2⟩
      rw [if_pos (q1.mpr h1), bd_at b1', if_pos (q2.mpr h2), gz_1]
    · intro hn
      by_cases h1 : sym w U
      · rw [if_pos (q1.mpr h1), bd_at b1', if_neg (fun z => hn ⟨rfl, h1, q2.mp z⟩), gz_0]
      · rw [if_neg (fun z => h1 (q1.mp z)), gz_0]
  · rw [if_neg (fun z => hwh ((nI_eq (by omega) (by omega)).mp z))]
    exact ⟨fun q => absurd q.1 hwh, fun _ => gz_0 _⟩
/-! mirror of the reference -/
theorem s_mir159 {w s : Nat} {U D : Nat → Bool} {K : Nat → Nat} (hs : s < 4) (hK : ∀ c, c < w * w → K c < 4) : ∀ (n c : Nat) (σ : St), c ≤ w * w → w * w - c < n → MG σ w w U D → (∀ i, i < w * w → gi σ 39 i = nI (K i)) → LM σ s c (mrK w K) →
    ∃ σ', f_X6_mirror_159 n (nI s) (nI (cnt (fun c => decide (mrK w K c ≠ K c)) c)) (nI c) σ = some (nI (cnt (fun c => decide (mrK w K c ≠ K c)) (w * w)), σ') ∧ LM σ' s (w * w) (mrK w K) ∧ eqs s σ σ' := by
  intro n
  induction n with
  | zero => intro c σ h1 h2; omega
  | succ n ih =>
    intro c σ h1 h2 g hk hM
    obtain ⟨hw1, hw8, hh1, hh8, e0, e1, eT⟩ := id g
    have har := area_le hw8 hh8
    rw [f_X6_mirror_159, bd_at (s_cells g)]
    by_cases hc : w * w ≤ c
    · have e : c = w * w := by omega
      rw [if_pos (nI_le hc (by omega))]
      rw [e] at hM ⊢
      exact ⟨σ, rfl, hM, eqs.rf⟩
    · have hc' : c < w * w := by omega
      obtain ⟨x, y, hx, hy, e⟩ := xy_of hc'
      have htl : trc w c < w * w := by rw [e, trc_xy hx]; exact cell_lt hy hx
      have hk4 := hK _ htl
      have hmr : mrK w K c = sw12 (K (trc w c)) := if_pos hc'
      rw [if_neg (nI_ge hc' (by omega)), e0, rmI_at _ (by omega) (by omega) (by omega), dvI_at _ (by omega) (by omega) (by omega), nI_mul, nI_add, rdI_at _ _ (show c % w * w + c / w < len 39 by show trc w c < 64; omega) (by decide), show gi σ 39 (c % w * w + c / w) = nI (K (trc w c)) from hk _ htl]
      unfold f_X6_mirror_228 f_X6_mirror_257
      have ei : (64 : Int32) * nI s + nI c = nI (64 * s + c) := by rw [show (64 : Int32) = nI 64 from rfl, nI_mul, nI_add]
      rw [ei]
      have go : ∀ v : Nat, v = mrK w K c → ∃ σ', (wrI σ 30 (nI (64 * s + c)) (nI v) fun σ1 => rdI σ1 30 (nI (64 * s + c)) fun v2 => rdI σ1 39 (nI c) fun v3 => if v2 = v3 then f_X6_mirror_159 n (nI s) (nI (cnt (fun c => decide (mrK w K c ≠ K c)) c) + 0) (nI c + 1) σ1 else f_X6_mirror_159 n (nI s) (nI (cnt (fun c => decide (mrK w K c ≠ K c)) c) + 1) (nI c + 1) σ1) = some (nI (cnt (fun c => decide (mrK w K c ≠ K c)) (w * w)), σ') ∧ LM σ' s (w * w) (mrK w K) ∧ eqs s σ σ' := by
        intro v hv
        have hv4 : v < 4 := by rw [hv, hmr]; exact sw_lt hk4
        have hes : eqs s σ (si σ 30 (64 * s + c) (nI v)) := eqs.si eqs.rf (by omega)
        rw [wrI_at _ _ _ (show 64 * s + c < len 30 by show _ < 256; omega) (by decide), rdI_at _ _ (show 64 * s + c < len 30 by show _ < 256; omega) (by decide), gi_si_same, rdI_at _ _ (show c < len 39 by show _ < 64; omega) (by decide), gi_si_ne _ _ _ _ (by omega), hk c hc', nI_1, nI_1, show nI (cnt (fun c => decide (mrK w K c ≠ K c)) c) + 0 = nI (cnt (fun c => decide (mrK w K c ≠ K c)) c + 0) from nI_add _ 0]
        obtain ⟨σ', d1, d2, d3⟩ := ih (c + 1) (si σ 30 (64 * s + c) (nI v)) (by omega) (by omega) (eqs_MG g hes) (fun i hi => by rw [gi_si_ne _ _ _ _ (by omega)]; exact hk i hi) (fun i hi => by
          by_cases z : i = c
          · rw [z, gi_si_same, hv]
          · rw [gi_si_ne _ _ _ _ (by omega)]; exact hM i (by omega))
        have hs1 : cnt (fun c => decide (mrK w K c ≠ K c)) (c + 1) = cnt (fun c => decide (mrK w K c ≠ K c)) c + (if decide (mrK w K c ≠ K c) = true then 1 else 0) := rfl
        rw [hs1] at d1
        have hkc := hK c hc'
        by_cases q : v = K c
        · rw [if_pos (by rw [q])]
          rw [decide_eq_false (fun z => z (by rw [← hv]; exact q)), if_neg (show ¬ false = true by decide)] at d1
          exact ⟨σ', d1, d2, eqs.tr hes d3⟩
        · rw [if_neg (fun z => q ((nI_eq (by omega) (by omega)).mp z))]
          rw [decide_eq_true (show mrK w K c ≠ K c by rw [← hv]; exact q), if_pos rfl] at d1
          exact ⟨σ', d1, d2, eqs.tr hes d3⟩
      unfold sw12 at hmr
      by_cases k1 : K (trc w c) = 1
      · rw [if_pos (show nI (K (trc w c)) = 1 by rw [k1]; rfl)]
        exact go 2 (by rw [hmr, if_pos k1])
      · rw [if_neg (show ¬ nI (K (trc w c)) = (1 : Int32) from fun z => k1 ((nI_eq (b := 1) (by omega) (by decide)).mp z))]
        by_cases k2 : K (trc w c) = 2
        · rw [if_pos (show nI (K (trc w c)) = 2 by rw [k2]; rfl)]
          exact go 1 (by rw [hmr, if_neg k1, if_pos k2])
        · rw [if_neg (show ¬ nI (K (trc w c)) = (2 : Int32) from fun z => k2 ((nI_eq (b := 2) (by omega) (by decide)).mp z))]
          exact go (K (trc w c)) (by rw [hmr, if_neg k1, if_neg k2])
def eqm (s : Nat) (σ τ : St) : Prop := τ.2 = σ.2 ∧ ∀ p j, ¬ (p = 30 ∧ 64 * s ≤ j ∧ j < 64 * s + 64) → p ≠ 39 → gi τ p j = gi σ p j
theorem s_mir122 {w s : Nat} {U D : Nat → Bool} {K : Nat → Nat} (hs : s < 4) (hK : ∀ c, c < w * w → K c < 4) : ∀ (n c : Nat) (σ : St), c ≤ w * w → w * w - c < n → MG σ w w U D → (∀ i, i < c → gi σ 39 i = nI (K i)) → LM σ s (w * w) K →
    ∃ σ', f_X6_mirror_122 n (nI s) (0 : Int32) (nI c) σ = some (nI (cnt (fun c => decide (mrK w K c ≠ K c)) (w * w)), σ') ∧ LM σ' s (w * w) (mrK w K) ∧ eqm s σ σ' := by
  intro n
  induction n with
  | zero => intro c σ h1 h2; omega
  | succ n ih =>
    intro c σ h1 h2 g hk hM
    have har := area_le g.2.1 g.2.2.2.1
    rw [f_X6_mirror_122, bd_at (s_cells g)]
    by_cases hc : w * w ≤ c
    · rw [if_pos (nI_le hc (by omega))]
      obtain ⟨σ', d1, d2, d3⟩ := s_mir159 hs hK FU 0 σ (Nat.zero_le _) (by unfold FU; omega) g (fun i hi => hk i (by omega)) (fun i hi => by omega)
      exact ⟨σ', d1, d2, d3.1, fun p j hp _ => d3.2 p j hp⟩
    · rw [if_neg (nI_ge (by omega) (by omega)), show (64 : Int32) * nI s + nI c = nI (64 * s + c) by rw [show (64 : Int32) = nI 64 from rfl, nI_mul, nI_add], rdI_at _ _ (show 64 * s + c < len 30 by show _ < 256; omega) (by decide), hM c (by omega), wrI_at _ _ _ (show c < len 39 by show _ < 64; omega) (by decide), nI_1]
      have hex : eqx (fun p => p = 39) σ (si σ 39 c (nI (K c))) := eqx.si eqx.rf rfl
      obtain ⟨σ', d1, d2, d3⟩ := ih (c + 1) (si σ 39 c (nI (K c))) (by omega) (by omega) (g.keep hex (by decide) (by decide)) (fun i hi => by
        rw [gi_si]
        by_cases e : i = c
        · rw [if_pos ⟨rfl, e⟩, e]
        · rw [if_neg (by omega)]; exact hk i (by omega)) (fun i hi => by rw [gi_si_ne _ _ _ _ (by omega)]; exact hM i hi)
      exact ⟨σ', d1, d2, d3.1, fun p j hp h39 => by rw [d3.2 p j hp h39, gi_si_ne _ _ _ _ (fun z => h39 z.1)]⟩
theorem s_mir38n {σ : St} {w h s : Nat} {U D : Nat → Bool} (g : MG σ w h U D) (n c : Nat) (hc : c ≤ w * h) : f_X6_mirror_38 (n + 1) (nI s) (0 : Int32) (nI c) σ = some (-900003, σ) := by
  have har := area_le g.2.1 g.2.2.2.1
  rw [f_X6_mirror_38, bd_at (s_cells g)]
  unfold f_X6_mirror_110
  split <;> rfl
theorem s_mir38 {σ : St} {w s : Nat} {U D : Nat → Bool} (g : MG σ w w U D) : ∀ (n c : Nat), c ≤ w * w → w * w - c + 1 < n → (∀ i, i < c → U (trc w i) = U i ∧ D (trc w i) = D i) →
    (sym w U ∧ sym w D → f_X6_mirror_38 n (nI s) (1 : Int32) (nI c) σ = f_X6_mirror_110 (nI s) 1 σ) ∧ (¬ (sym w U ∧ sym w D) → f_X6_mirror_38 n (nI s) (1 : Int32) (nI c) σ = some (-900003, σ)) := by
  obtain ⟨hw1, hw8, hh1, hh8, e0, e1, eT⟩ := id g
  have har := area_le hw8 hh8
  intro n
  induction n with
  | zero => intro c h1 h2; omega
  | succ n ih =>
    intro c h1 h2 hp
    rw [f_X6_mirror_38, bd_at (s_cells g)]
    by_cases hc : w * w ≤ c
    · rw [if_pos (nI_le hc (by omega))]
      refine ⟨fun _ => rfl, fun q => ?_⟩
      exact absurd ⟨fun i hi => (hp i (by omega)).1, fun i hi => (hp i (by omega)).2⟩ q
    · have hc' : c < w * w := by omega
      obtain ⟨x, y, hx, hy, e⟩ := xy_of hc'
      have htl : trc w c < w * w := by rw [e, trc_xy hx]; exact cell_lt hy hx
      have htr : c % w * w + c / w = trc w c := rfl
      rw [if_neg (nI_ge hc' (by omega)), if_neg (by decide), e0, rmI_at _ (by omega) (by omega) (by omega), dvI_at _ (by omega) (by omega) (by omega), bd_at (s_isUp g hc'), nI_mul, nI_add, htr, bd_at (s_isUp g htl)]
      unfold f_X6_mirror_102 f_X6_mirror_103
      obtain ⟨n, rfl⟩ : ∃ n', n = n' + 1 := ⟨n - 1, by omega⟩
      by_cases hu : U c = U (trc w c)
      · rw [if_pos (by rw [hu]), bd_at (s_isDown g hc'), bd_at (s_isDown g htl)]
        by_cases hd : D c = D (trc w c)
        · rw [if_pos (by rw [hd]), nI_1]
          refine ih (c + 1) (by omega) (by omega) (fun i hi => ?_)
          by_cases z : i = c
          · rw [z]; exact ⟨hu.symm, hd.symm⟩
          · exact hp i (by omega)
        · rw [if_neg (fun z => hd (bI_inj.mp z)), nI_1, s_mir38n g n (c + 1) (by omega)]
          exact ⟨fun q => absurd (q.2 c hc').symm hd, fun _ => rfl⟩
      · rw [if_neg (fun z => hu (bI_inj.mp z)), nI_1, s_mir38n g n (c + 1) (by omega)]
        exact ⟨fun q => absurd (q.1 c hc').symm hu, fun _ => rfl⟩
/-- the class's mirror, as KINDS -/
theorem mr_LC {σ τ : St} {w p q : Nat} {U : Nat → Bool} {K : Nat → Nat} (hw1 : 1 ≤ w) (har : w * w ≤ 64) (hU : sym w U) (hL : LC σ p (w * w) U K) (h0 : ∀ i, i < 64 → tb (gl τ q 1) i = (decide (i < w * w) && tb (gl σ p 1) (trc w i))) (h1 : ∀ i, i < 64 → tb (gl τ q 2) i = (decide (i < w * w) && tb (gl σ p 3) (trc w i))) (h2 : ∀ i, i < 64 → tb (gl τ q 3) i = (decide (i < w * w) && tb (gl σ p 2) (trc w i))) : LC τ q (w * w) U (mrK w K) := by
  intro c hc k hk
  by_cases hcN : c < w * w
  · obtain ⟨x, y, hx, hy, e⟩ := xy_of hcN
    have htl : trc w c < w * w := by rw [e, trc_xy hx]; exact cell_lt hy hx
    have hmr : mrK w K c = sw12 (K (trc w c)) := if_pos hcN
    have hu := hU c hcN
    rw [hmr]
    rcases (show k = 0 ∨ k = 1 ∨ k = 2 by omega) with z | z | z <;> subst z
    · rw [show 0 + 1 = 1 from rfl, h0 c hc, decide_eq_true hcN, Bool.true_and, show tb (gl σ p 1) (trc w c) = decide (trc w c < w * w ∧ U (trc w c) = true ∧ K (trc w c) = 0) from hL _ (by omega) 0 (by decide), hu]
      exact decide_eq_decide.mpr (by rw [sw_0]; exact ⟨fun z => ⟨hcN, z.2⟩, fun z => ⟨htl, z.2⟩⟩)
    · rw [show 1 + 1 = 2 from rfl, h1 c hc, decide_eq_true hcN, Bool.true_and, show tb (gl σ p 3) (trc w c) = decide (trc w c < w * w ∧ U (trc w c) = true ∧ K (trc w c) = 2) from hL _ (by omega) 2 (by decide), hu]
      exact decide_eq_decide.mpr (by rw [sw_1]; exact ⟨fun z => ⟨hcN, z.2⟩, fun z => ⟨htl, z.2⟩⟩)
    · rw [show 2 + 1 = 3 from rfl, h2 c hc, decide_eq_true hcN, Bool.true_and, show tb (gl σ p 2) (trc w c) = decide (trc w c < w * w ∧ U (trc w c) = true ∧ K (trc w c) = 1) from hL _ (by omega) 1 (by decide), hu]
      exact decide_eq_decide.mpr (by rw [sw_2]; exact ⟨fun z => ⟨hcN, z.2⟩, fun z => ⟨htl, z.2⟩⟩)
  · rw [decide_eq_false (fun z => hcN z.1)]
    rcases (show k = 0 ∨ k = 1 ∨ k = 2 by omega) with z | z | z <;> subst z
    · rw [show 0 + 1 = 1 from rfl, h0 c hc, decide_eq_false hcN, Bool.false_and]
    · rw [show 1 + 1 = 2 from rfl, h1 c hc, decide_eq_false hcN, Bool.false_and]
    · rw [show 2 + 1 = 3 from rfl, h2 c hc, decide_eq_false hcN, Bool.false_and]
theorem cnt_diff {f g : Nat → Bool} : ∀ {n : Nat}, (∀ i, i < n → g i = true → f i = true) → cnt f n = cnt g n + cnt (fun i => f i && !g i) n
  | 0, _ => rfl
  | n + 1, h => by
    have ih := cnt_diff (f := f) (g := g) (n := n) (fun i hi => h i (by omega))
    show cnt f n + (if f n = true then 1 else 0) = cnt g n + (if g n = true then 1 else 0) + (cnt (fun i => f i && !g i) n + (if (f n && !g n) = true then 1 else 0))
    have := h n (by omega)
    cases hf : f n <;> cases hg : g n
    · simp; omega
    · rw [hf, hg] at this; exact absurd (this rfl) (by decide)
    · simp; omega
    · simp; omega
