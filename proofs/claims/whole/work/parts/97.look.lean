/-! ===== HALF 2: look, join of the reference ===== -/
/-- the DOWN by a KIND -/
def dkO (w : Nat) (D : Nat → Bool) (c k : Nat) : Option Nat := if k = 0 then (if D c = true then some c else none) else if k = 1 then (if c % w ≠ 0 ∧ D (c - 1) = true then some (c - 1) else none) else (if w ≤ c ∧ D (c - w) = true then some (c - w) else none)
theorem dkO_Ad {w h : Nat} {U D : Nat → Bool} {c k d : Nat} (hw : 1 ≤ w) (hc : c < w * h) (hU : U c = true) (hd : dkO w D c k = some d) : Ad w U D (w * h) c d := by
  unfold dkO at hd
  split at hd
  · split at hd
    · next q => rw [← Option.some.inj hd]; exact ⟨hc, hU, hc, q, Or.inl rfl⟩
    · cases hd
  · split at hd
    · split at hd
      · next q =>
        have h1 : 1 ≤ c := by
          rcases Nat.eq_zero_or_pos c with z | z
          · have := q.1; rw [z, Nat.zero_mod] at this; exact absurd rfl this
          · exact z
        rw [← Option.some.inj hd]
        exact ⟨hc, hU, by omega, q.2, Or.inr (Or.inl ⟨q.1, by omega⟩)⟩
      · cases hd
    · split at hd
      · next q => rw [← Option.some.inj hd]; exact ⟨hc, hU, by omega, q.2, Or.inr (Or.inr ⟨q.1, by omega⟩)⟩
      · cases hd
theorem Ad_dkO {w N : Nat} {U D : Nat → Bool} {c d : Nat} (h : Ad w U D N c d) : ∃ k, k < 3 ∧ dkO w D c k = some d := by
  obtain ⟨-, -, -, a4, a5⟩ := h
  rcases a5 with e | ⟨e1, e2⟩ | ⟨e1, e2⟩
  · refine ⟨0, by decide, ?_⟩
    unfold dkO
    rw [if_pos rfl, ← e, if_pos a4]
  · refine ⟨1, by decide, ?_⟩
    unfold dkO
    rw [if_neg (by decide), if_pos rfl, show c - 1 = d by omega, if_pos ⟨e1, a4⟩]
  · refine ⟨2, by decide, ?_⟩
    unfold dkO
    rw [if_neg (by decide), if_neg (by decide), show c - w = d by omega, if_pos ⟨e1, a4⟩]
theorem s_downOf {σ : St} {w h : Nat} {U D : Nat → Bool} (g : MG σ w h U D) {c k : Nat} (hc : c < w * h) (hk : k < 3) : f_X6_downOf (nI c) (nI k) σ = some (oI (dkO w D c k), σ) := by
  obtain ⟨hw1, hw8, hh1, hh8, e0, e1, eT⟩ := id g
  have har := area_le hw8 hh8
  have hx := Nat.mod_lt c (show 0 < w by omega)
  have hy : c / w < h := Nat.div_lt_of_lt_mul hc
  have hce : c / w * w + c % w = c := by rw [Nat.mul_comm]; exact Nat.div_add_mod c w
  have s0 : ∀ n : Nat, nI n - (0 : Int32) = nI n := fun n => nI_sub (b := 0) (Nat.zero_le _)
  have B := fun (x y : Nat) (hx : x < 100) (hy : y < 100) => s_isThere g hx hy false
  rw [bI_f] at B
  have thb : ∀ x y, x < w → y < h → thB w h (if false = true then U else D) x y = D (y * w + x) := fun x y h1 h2 => by
    unfold thB
    rw [decide_eq_true ⟨h1, h2⟩]
    rfl
  unfold f_X6_downOf f_X6_downOf_16 f_X6_downOf_34 f_X6_downOf_62 dkO
  rw [e0, rmI_at _ (by omega) (by omega) (by omega)]
  rcases (show k = 0 ∨ k = 1 ∨ k = 2 by omega) with e | e | e <;> subst e
  · rw [if_neg (show ¬ nI 0 = 1 by decide), dvI_at _ (by omega) (by omega) (by omega), if_neg (show ¬ nI 0 = 2 by decide), s0, s0, bd_at (B _ _ (by omega) (by omega)), thb _ _ hx hy, hce, if_pos rfl, e0, nI_mul, nI_add, hce]
    cases hD : D c with
    | false => rw [if_pos bI_f, if_neg (by decide)]; rfl
    | true => rw [if_neg bIt, if_pos rfl]; rfl
  · rw [if_pos (show nI 1 = 1 by decide), dvI_at _ (by omega) (by omega) (by omega), if_neg (show ¬ nI 1 = 2 by decide), s0, if_neg (by decide), if_pos rfl]
    by_cases h0 : c % w = 0
    · rw [h0, bd_at (s_isThere_x g _ _), if_pos rfl, if_neg (fun z => z.1 rfl)]
      rfl
    · rw [show nI (c % w) - 1 = nI (c % w - 1) from nI_sub (b := 1) (by omega), bd_at (B _ _ (by omega) (by omega)), thb _ _ (by omega) hy, show c / w * w + (c % w - 1) = c - 1 by omega, e0, nI_mul, nI_add, show c / w * w + (c % w - 1) = c - 1 by omega]
      cases hD : D (c - 1) with
      | false => rw [if_pos bI_f, if_neg (fun z => by cases z.2)]; rfl
      | true => rw [if_neg bIt, if_pos ⟨h0, rfl⟩]; rfl
  · rw [if_neg (show ¬ nI 2 = 1 by decide), dvI_at _ (by omega) (by omega) (by omega), if_pos (show nI 2 = 2 by decide), s0, if_neg (by decide), if_neg (by decide)]
    by_cases h0 : w ≤ c
    · have hy1 : 1 ≤ c / w := (Nat.le_div_iff_mul_le (by omega)).mpr (by omega)
      have ey : c / w * w = (c / w - 1) * w + w := by
        have : c / w = (c / w - 1) + 1 := by omega
        rw [show c / w * w = ((c / w - 1) + 1) * w by rw [← this], Nat.add_mul, Nat.one_mul]
      rw [show nI (c / w) - 1 = nI (c / w - 1) from nI_sub (b := 1) hy1, bd_at (B _ _ (by omega) (by omega)), thb _ _ hx (by omega), show (c / w - 1) * w + c % w = c - w by omega, e0, nI_mul, nI_add, show (c / w - 1) * w + c % w = c - w by omega]
      cases hD : D (c - w) with
      | false => rw [if_pos bI_f, if_neg (fun z => by cases z.2)]; rfl
      | true => rw [if_neg bIt, if_pos ⟨h0, rfl⟩]; rfl
    · rw [show c / w = 0 from Nat.div_eq_of_lt (by omega), bd_at (s_isThere_y g _ _), if_pos rfl, if_neg (fun z => h0 z.1)]
      rfl
/-- the reference's joining, but for the DOWN ho -/
def RMx (σ : St) (mu : Nat → Option Nat) (ho : Nat → Prop) : Prop := (∀ u, u < 64 → gi σ 40 u = oI (mu u)) ∧ ∀ d, d < 64 → ¬ ho d → (∀ u, mu u = some d → gi σ 41 d = nI u) ∧ ((∀ u, mu u ≠ some d) → gi σ 41 d = -900009)
def RMr (σ : St) (mu : Nat → Option Nat) : Prop := RMx σ mu (fun _ => False)
/-- the queue, those met, and how they were come to -/
def LQ (σ : St) (w h : Nat) (U D : Nat → Bool) (mu : Nat → Option Nat) (Q : Nat → Nat) (n : Nat) (mt : Nat → Bool) (n0 : Nat) : Prop := (∀ j, j < n → gi σ 43 j = nI (Q j) ∧ Q j < w * h ∧ U (Q j) = true) ∧ (∀ u, u < 64 → gi σ 42 u = bI (mt u)) ∧ (∀ u, u < 64 → (mt u = true ↔ ∃ j, j < n ∧ Q j = u)) ∧ (∀ i j, i < n → j < n → Q i = Q j → i = j) ∧ ∀ j, n0 ≤ j → j < n → ∃ j' k' d, j' < j ∧ k' < 3 ∧ dkO w D (Q j') k' = some d ∧ mu (Q j) = some d ∧ gi σ 44 (Q j) = nI (4 * Q j' + k')
theorem LQ_n {σ : St} {w h : Nat} {U D : Nat → Bool} {mu : Nat → Option Nat} {Q : Nat → Nat} {n : Nat} {mt : Nat → Bool} {n0 : Nat} (hq : LQ σ w h U D mu Q n mt n0) : n ≤ w * h := by
  have hnd := map_nodup (f := Q) (n := n) hq.2.2.2.1
  have := len_sub hnd (r := List.range (w * h)) (fun a ha => by
    obtain ⟨i, hi, e⟩ := List.mem_map.mp ha
    rw [← e]
    exact List.mem_range.mpr (hq.1 i (List.mem_range.mp hi)).2.1)
  rw [List.length_map, List.length_range, List.length_range] at this
  exact this
def PQ : Nat → Prop := fun p => p = 42 ∨ p = 43 ∨ p = 44
/-- closed under the steps of a search -/
def Clo (w : Nat) (U D : Nat → Bool) (N : Nat) (mu : Nat → Option Nat) (S : Nat → Prop) : Prop := ∀ u d u', S u → Ad w U D N u d → mu u' = some d → S u'
def Dn (w : Nat) (D : Nat → Bool) (mu : Nat → Option Nat) (u k : Nat) (mt : Nat → Bool) : Prop := ∀ k', k' < k → ∀ d, dkO w D u k' = some d → ∃ u', mu u' = some d ∧ mt u' = true
theorem RMx.keep {σ τ : St} {P : Nat → Prop} {mu : Nat → Option Nat} {ho : Nat → Prop} (h : RMx σ mu ho) (he : eqx P σ τ) (h1 : ¬ P 40) (h2 : ¬ P 41) : RMx τ mu ho := ⟨fun u hu => by rw [(he 40 h1 u).1]; exact h.1 u hu, fun d hd hh => ⟨fun u hm => by rw [(he 41 h2 d).1]; exact (h.2 d hd hh).1 u hm, fun hn => by rw [(he 41 h2 d).1]; exact (h.2 d hd hh).2 hn⟩⟩
/-- how a search goes on -/
def LR (σ σ' : St) (w h : Nat) (U D : Nat → Bool) (mu : Nat → Option Nat) (n0 : Nat) (Q Q' : Nat → Nat) (n n' : Nat) (mt mt' : Nat → Bool) : Prop := LQ σ' w h U D mu Q' n' mt' n0 ∧ n ≤ n' ∧ (∀ j, j < n → Q' j = Q j ∧ gi σ' 44 (Q j) = gi σ 44 (Q j)) ∧ (∀ u, mt u = true → mt' u = true) ∧ eqx PQ σ σ' ∧ ∀ S : Nat → Prop, Clo w U D (w * h) mu S → (∀ j, j < n → S (Q j)) → ∀ j, j < n' → S (Q' j)
theorem LR.rf {σ : St} {w h : Nat} {U D : Nat → Bool} {mu : Nat → Option Nat} {n0 : Nat} {Q : Nat → Nat} {n : Nat} {mt : Nat → Bool} (hq : LQ σ w h U D mu Q n mt n0) : LR σ σ w h U D mu n0 Q Q n n mt mt := ⟨hq, Nat.le_refl _, fun _ _ => ⟨rfl, rfl⟩, fun _ z => z, eqx.rf, fun _ _ z => z⟩
theorem LR.tr {σ σ1 σ2 : St} {w h : Nat} {U D : Nat → Bool} {mu : Nat → Option Nat} {n0 : Nat} {Q Q1 Q2 : Nat → Nat} {n n1 n2 : Nat} {mt mt1 mt2 : Nat → Bool} (h1 : LR σ σ1 w h U D mu n0 Q Q1 n n1 mt mt1) (h2 : LR σ1 σ2 w h U D mu n0 Q1 Q2 n1 n2 mt1 mt2) : LR σ σ2 w h U D mu n0 Q Q2 n n2 mt mt2 := by
  obtain ⟨a1, a2, a3, a4, a5, a6⟩ := h1
  obtain ⟨b1, b2, b3, b4, b5, b6⟩ := h2
  exact ⟨b1, by omega, fun j hj => ⟨by rw [(b3 j (by omega)).1, (a3 j hj).1], by
    have h1 := (b3 j (by omega)).2
    rw [(a3 j hj).1] at h1
    rw [h1]
    exact (a3 j hj).2⟩, fun u z => b4 u (a4 u z), eqx.tr a5 b5, fun S c z => b6 S c (a6 S c z)⟩
theorem Dn.up {w : Nat} {D : Nat → Bool} {mu : Nat → Option Nat} {u k : Nat} {mt mt' : Nat → Bool} (h : Dn w D mu u k mt) (hm : ∀ u, mt u = true → mt' u = true) : Dn w D mu u k mt' := fun k' hk' d hd => by
  obtain ⟨u', q1, q2⟩ := h k' hk' d hd
  exact ⟨u', q1, hm u' q2⟩
theorem s_look12 {w h n0 : Nat} {U D : Nat → Bool} {mu : Nat → Option Nat} (hM : MT w U D (w * h) mu) (k4 : Int32 → Int32 → St → Option (Int32 × St)) {i : Nat} : ∀ (f k : Nat) (σ : St) (Q : Nat → Nat) (n : Nat) (mt : Nat → Bool), k ≤ 3 → 3 - k < f → MG σ w h U D → RMr σ mu → i < n → n0 ≤ n → LQ σ w h U D mu Q n mt n0 → Dn w D mu (Q i) k mt →
    ∃ σ' Q' n' mt', LR σ σ' w h U D mu n0 Q Q' n n' mt mt' ∧ ((∃ k' d, k' < 3 ∧ dkO w D (Q i) k' = some d ∧ (∀ u, mu u ≠ some d) ∧ f_X6_look_12 k4 f (nI n) (nI i) (nI k) σ = some (nI (4 * Q i + k'), σ')) ∨ (Dn w D mu (Q i) 3 mt' ∧ f_X6_look_12 k4 f (nI n) (nI i) (nI k) σ = k4 (nI n') (nI (i + 1)) σ')) := by
  intro f
  induction f with
  | zero => intro k σ Q n mt h1 h2; omega
  | succ f ih =>
    intro k σ Q n mt h1 h2 g hR hi hn0 hq hD
    have har := area_le g.2.1 g.2.2.2.1
    have hnN := LQ_n hq
    rw [f_X6_look_12]
    by_cases hk : 3 ≤ k
    · have e : k = 3 := by omega
      rw [if_pos (show (3 : Int32) ≤ nI k from nI_le (a := 3) hk (by omega)), nI_1]
      rw [e] at hD
      exact ⟨σ, Q, n, mt, LR.rf hq, Or.inr ⟨hD, rfl⟩⟩
    · have hk3 : k < 3 := by omega
      obtain ⟨qi1, qi2, qi3⟩ := hq.1 i hi
      rw [if_neg (show ¬ (3 : Int32) ≤ nI k from nI_ge (a := k) (b := 3) (by omega) (by decide)), rdI_at _ _ (show i < len 43 by show _ < 64; omega) (by decide), qi1, bd_at (s_downOf g qi2 hk3)]
      unfold f_X6_look_63 f_X6_look_137
      cases hdk : dkO w D (Q i) k with
      | none =>
        rw [if_pos (show oI none = -900009 from rfl), if_pos (show oI none = -900009 from rfl), nI_1]
        refine ih (k + 1) σ Q n mt (by omega) (by omega) g hR hi hn0 hq (fun k' hk' d hd => ?_)
        by_cases e : k' = k
        · rw [e, hdk] at hd; cases hd
        · exact hD k' (by omega) d hd
      | some d =>
        have had := dkO_Ad g.1 qi2 qi3 hdk
        have hdl : d < 64 := by have := had.2.2.1; omega
        obtain ⟨r1, r2⟩ := hR.2 d hdl (fun z => z)
        rw [if_neg (show ¬ oI (some d) = -900009 from nI_none (by omega)), oI_some, rdI_at _ _ (show d < len 41 from hdl) (by decide)]
        by_cases hfree : ∀ u, mu u ≠ some d
        · rw [r2 hfree, if_pos rfl, rdI_at _ _ (show i < len 43 by show _ < 64; omega) (by decide), qi1, show (4 : Int32) = nI 4 from rfl, nI_mul, nI_add]
          exact ⟨σ, Q, n, mt, LR.rf hq, Or.inl ⟨k, d, hk3, hdk, hfree, rfl⟩⟩
        · obtain ⟨u, hu⟩ : ∃ u, mu u = some d := by
            apply Classical.byContradiction
            intro z
            exact hfree (fun u hu => z ⟨u, hu⟩)
          have hua := hM.1 u d hu
          have hul : u < 64 := by have := hua.1; omega
          rw [r1 u hu, if_neg (nI_none (by omega)), if_neg (nI_none (by omega)), rdI_at _ _ (show d < len 41 from hdl) (by decide), r1 u hu, rdI_at _ _ (show u < len 42 from hul) (by decide), hq.2.1 u hul]
          cases hmt : mt u with
          | true =>
            rw [if_neg bIt, nI_1]
            refine ih (k + 1) σ Q n mt (by omega) (by omega) g hR hi hn0 hq (fun k' hk' d' hd' => ?_)
            by_cases e : k' = k
            · rw [e, hdk] at hd'
              rw [← Option.some.inj hd']
              exact ⟨u, hu, hmt⟩
            · exact hD k' (by omega) d' hd'
          | false =>
            have hnew : ∀ j, j < n → Q j ≠ u := fun j hj z => by
              have := (hq.2.2.1 u hul).mpr ⟨j, hj, z⟩
              rw [hmt] at this
              cases this
            have hn64 : n < w * h := by
              have hnd := map_nodup (f := fun j => if j = n then u else Q j) (n := n + 1) (fun a b ha hb z => by
                by_cases ea : a = n
                · by_cases eb : b = n
                  · omega
                  · simp only [if_pos ea, if_neg eb] at z
                    exact absurd z.symm (hnew b (by omega))
                · by_cases eb : b = n
                  · simp only [if_neg ea, if_pos eb] at z
                    exact absurd z (hnew a (by omega))
                  · simp only [if_neg ea, if_neg eb] at z
                    exact hq.2.2.2.1 a b (by omega) (by omega) z)
              have := len_sub hnd (r := List.range (w * h)) (fun a ha => by
                obtain ⟨j, hj, e⟩ := List.mem_map.mp ha
                rw [← e]
                by_cases ej : j = n
                · simp only [if_pos ej]; exact List.mem_range.mpr hua.1
                · simp only [if_neg ej]
                  exact List.mem_range.mpr (hq.1 j (by have := List.mem_range.mp hj; omega)).2.1)
              rw [List.length_map, List.length_range, List.length_range] at this
              omega
            rw [if_pos bI_f, rdI_at _ _ (show d < len 41 from hdl) (by decide), r1 u hu, wrZ_at _ _ _ (show u < len 42 from hul) (by decide), zn_1]
            rw [rdI_at _ _ (show d < len 41 from hdl) (by decide), gi_si_ne _ _ _ _ (by omega), r1 u hu, rdI_at _ _ (show i < len 43 by show _ < 64; omega) (by decide), gi_si_ne _ _ _ _ (by omega), qi1, show (4 : Int32) = nI 4 from rfl, nI_mul, nI_add, wrI_at _ _ _ (show u < len 44 from hul) (by decide)]
            rw [rdI_at _ _ (show d < len 41 from hdl) (by decide), gi_si_ne _ _ _ _ (by omega), gi_si_ne _ _ _ _ (by omega), r1 u hu, wrI_at _ _ _ (show n < len 43 by show _ < 64; omega) (by decide), nI_1, nI_1]
            have hex : eqx PQ σ (si (si (si σ 42 u 1) 44 u (nI (4 * Q i + k))) 43 n (nI u)) := eqx.si (eqx.si (eqx.si eqx.rf (Or.inl rfl)) (Or.inr (Or.inr rfl))) (Or.inr (Or.inl rfl))
            have hQ' : ∀ j, j < n → (fun j => if j = n then u else Q j) j = Q j := fun j hj => if_neg (by omega)
            have hq' : LQ (si (si (si σ 42 u 1) 44 u (nI (4 * Q i + k))) 43 n (nI u)) w h U D mu (fun j => if j = n then u else Q j) (n + 1) (upB mt u true) n0 := by
              obtain ⟨q1, q2, q3, q4, q5⟩ := hq
              refine ⟨fun j hj => ?_, fun v hv => ?_, fun v hv => ?_, fun a b ha hb z => ?_, fun j hj0 hj => ?_⟩
              · rw [gi_si]
                by_cases e : j = n
                · rw [if_pos ⟨rfl, e⟩]
                  simp only [if_pos e]
                  exact ⟨trivial, hua.1, hua.2.1⟩
                · rw [if_neg (by omega), gi_si_ne _ _ _ _ (by omega), gi_si_ne _ _ _ _ (by omega)]
                  simp only [if_neg e]
                  exact q1 j (by omega)
              · unfold upB
                rw [gi_si_ne _ _ _ _ (by omega), gi_si_ne _ _ _ _ (by omega), gi_si]
                by_cases e : v = u
                · rw [if_pos ⟨rfl, e⟩, if_pos e]; rfl
                · rw [if_neg (by omega), if_neg e]; exact q2 v hv
              · unfold upB
                by_cases e : v = u
                · rw [if_pos e]
                  exact ⟨fun _ => ⟨n, by omega, by simp only [if_true]; exact e.symm⟩, fun _ => rfl⟩
                · rw [if_neg e, q3 v hv]
                  constructor
                  · rintro ⟨j, j1, j2⟩; exact ⟨j, by omega, by simp only [if_neg (show ¬ j = n by omega)]; exact j2⟩
                  · rintro ⟨j, j1, j2⟩
                    by_cases ej : j = n
                    · simp only [if_pos ej] at j2; exact absurd j2.symm e
                    · simp only [if_neg ej] at j2; exact ⟨j, by omega, j2⟩
              · by_cases ea : a = n
                · by_cases eb : b = n
                  · omega
                  · simp only [if_pos ea, if_neg eb] at z
                    exact absurd z.symm (hnew b (by omega))
                · by_cases eb : b = n
                  · simp only [if_neg ea, if_pos eb] at z
                    exact absurd z (hnew a (by omega))
                  · simp only [if_neg ea, if_neg eb] at z
                    exact q4 a b (by omega) (by omega) z
              · by_cases e : j = n
                · refine ⟨i, k, d, by omega, hk3, ?_, ?_, ?_⟩
                  · simp only [if_neg (show ¬ i = n by omega)]; exact hdk
                  · simp only [if_pos e]; exact hu
                  · simp only [if_pos e, if_neg (show ¬ i = n by omega)]
                    rw [gi_si_ne _ _ _ _ (by omega), gi_si_same]
                · obtain ⟨j', k', d', p1, p2, p3, p4, p5⟩ := q5 j hj0 (by omega)
                  refine ⟨j', k', d', p1, p2, ?_, ?_, ?_⟩
                  · simp only [if_neg (show ¬ j' = n by omega)]; exact p3
                  · simp only [if_neg e]; exact p4
                  · simp only [if_neg e, if_neg (show ¬ j' = n by omega)]
                    rw [gi_si_ne _ _ _ _ (by omega), gi_si_ne _ _ _ _ (fun z => hnew j (by omega) z.2), gi_si_ne _ _ _ _ (by omega)]
                    exact p5
            have hLR : LR σ (si (si (si σ 42 u 1) 44 u (nI (4 * Q i + k))) 43 n (nI u)) w h U D mu n0 Q (fun j => if j = n then u else Q j) n (n + 1) mt (upB mt u true) := by
              refine ⟨hq', by omega, fun j hj => ⟨hQ' j hj, by rw [gi_si_ne _ _ _ _ (by omega), gi_si_ne _ _ _ _ (fun z => hnew j hj z.2), gi_si_ne _ _ _ _ (by omega)]⟩, fun v hv => ?_, hex, fun S hS hz j hj => ?_⟩
              · unfold upB
                split
                · rfl
                · exact hv
              · by_cases e : j = n
                · simp only [if_pos e]
                  exact hS (Q i) d u (hz i hi) had hu
                · simp only [if_neg e]; exact hz j (by omega)
            obtain ⟨σ', Q', n', mt', c1, c2⟩ := ih (k + 1) _ (fun j => if j = n then u else Q j) (n + 1) (upB mt u true) (by omega) (by omega) (g.keep hex (by unfold PQ; omega) (by unfold PQ; omega)) (RMx.keep hR hex (by unfold PQ; omega) (by unfold PQ; omega)) (by omega) (by omega) hq' (fun k' hk' d' hd' => by
              rw [if_neg (show ¬ i = n by omega)] at hd'
              by_cases e : k' = k
              · rw [e, hdk] at hd'
                rw [← Option.some.inj hd']
                exact ⟨u, hu, if_pos rfl⟩
              · obtain ⟨u', p1, p2⟩ := hD k' (by omega) d' hd'
                refine ⟨u', p1, ?_⟩
                unfold upB
                split
                · rfl
                · exact p2)
            rw [if_neg (show ¬ i = n by omega)] at c2
            exact ⟨σ', Q', n', mt', LR.tr hLR c1, c2⟩
theorem s_look4 {w h n0 : Nat} {U D : Nat → Bool} {mu : Nat → Option Nat} (hM : MT w U D (w * h) mu) : ∀ (f i : Nat) (σ : St) (Q : Nat → Nat) (n : Nat) (mt : Nat → Bool), i ≤ n → 65 - i < f → MG σ w h U D → RMr σ mu → n0 ≤ n → LQ σ w h U D mu Q n mt n0 → (∀ j, j < i → Dn w D mu (Q j) 3 mt) →
    ∃ σ' Q' n' mt', LR σ σ' w h U D mu n0 Q Q' n n' mt mt' ∧ ((∃ j k' d, j < n' ∧ k' < 3 ∧ dkO w D (Q' j) k' = some d ∧ (∀ u, mu u ≠ some d) ∧ f_X6_look_4 f (nI n) (nI i) σ = some (nI (4 * Q' j + k'), σ')) ∨ ((∀ j, j < n' → Dn w D mu (Q' j) 3 mt') ∧ f_X6_look_4 f (nI n) (nI i) σ = some (-900009, σ'))) := by
  intro f
  induction f with
  | zero => intro i σ Q n mt h1 h2 g hR hn0 hq; have := LQ_n hq; have := area_le g.2.1 g.2.2.2.1; omega
  | succ f ih =>
    intro i σ Q n mt h1 h2 g hR hn0 hq hD
    have har := area_le g.2.1 g.2.2.2.1
    have hnN := LQ_n hq
    rw [f_X6_look_4]
    by_cases hi : n ≤ i
    · have e : i = n := by omega
      rw [if_pos (nI_le hi (by omega))]
      rw [e] at hD
      exact ⟨σ, Q, n, mt, LR.rf hq, Or.inr ⟨hD, rfl⟩⟩
    · rw [if_neg (nI_ge (by omega) (by omega))]
      obtain ⟨σ1, Q1, n1, mt1, c1, c2⟩ := s_look12 hM (f_X6_look_4 f) (i := i) FU 0 σ Q n mt (by omega) (by decide) g hR (by omega) hn0 hq (fun k' hk' => by omega)
      rw [show nI 0 = 0 from rfl] at c2
      obtain ⟨b1', b2', b3', b4', b5', b6'⟩ := id c1
      rcases c2 with ⟨k', d, p1, p2, p3, p4⟩ | ⟨p1, p2⟩
      · exact ⟨σ1, Q1, n1, mt1, c1, Or.inl ⟨i, k', d, by omega, p1, by rw [(b3' i (by omega)).1]; exact p2, p3, by rw [(b3' i (by omega)).1]; exact p4⟩⟩
      · rw [p2]
        obtain ⟨σ2, Q2, n2, mt2, d1, d2⟩ := ih (i + 1) σ1 Q1 n1 mt1 (by omega) (by omega) (g.keep b5' (by unfold PQ; omega) (by unfold PQ; omega)) (RMx.keep hR b5' (by unfold PQ; omega) (by unfold PQ; omega)) (by omega) b1' (fun j hj => by
          rw [(b3' j (by omega)).1]
          by_cases e : j = i
          · rw [e]; exact p1
          · exact (hD j (by omega)).up b4')
        exact ⟨σ2, Q2, n2, mt2, LR.tr c1 d1, d2⟩
