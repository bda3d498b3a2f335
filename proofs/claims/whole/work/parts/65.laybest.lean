/-! ===== HALF 2: layBest of the reference ===== -/
def BestOK (σ : St) (w h : Nat) (U D : Nat → Bool) (wt : Nat → Nat → Int) : Prop := ∀ c, c ≤ w * h → ∀ m, m < 2 ^ w → gi σ 33 (256 * c + m) = oZ (Bs w U D wt (w * h - c) c m)
/-- worth answers wt in every state with these weights -/
def WtR (F : Nat → Int32) (w h : Nat) (wt : Nat → Nat → Int) (a1 a2 : Int32) : Prop := (∀ c k, -99 ≤ wt c k ∧ wt c k ≤ 99) ∧ ∀ σ : St, (∀ j, gi σ 28 j = F j) → ∀ c, c < w * h → ∀ k, k < 4 → f_X6_worth (nI c) (nI k) a1 a2 σ = some (iZ (wt c k), σ)
theorem B_800 {w h : Nat} (hw : w ≤ 8) (hh : h ≤ 8) {U D : Nat → Bool} {wt : Nat → Nat → Int} (hwt : ∀ c k, -99 ≤ wt c k ∧ wt c k ≤ 99) {r : Nat} (hr : r ≤ w * h) (c m : Nat) : oB (Bs w U D wt r c m) 10000 := by
  intro z hz
  have := Bs_B hwt r c m z hz
  have := area_le hw hh
  omega
theorem oB_le {o : Option Int} {A B : Int} (h : oB o A) (hAB : A ≤ B) : oB o B := fun z hz => by have := h z hz; omega
theorem s_layBest_78 {F : Nat → Int32} {w h : Nat} {U D : Nat → Bool} {wt : Nat → Nat → Int} {a1 a2 : Int32} (hW : WtR F w h wt a1 a2) {c m : Nat} (hc : c < w * h) (hm : m < 2 ^ w) (k65 : Int32 → Int32 → Int32 → Int32 → Int32 → St → Option (Unit × St)) (x3 : Int32) :
    ∀ (n k : Nat) (σ : St), k ≤ 4 → 4 - k < n → MG σ w h U D → (∀ j, gi σ 28 j = F j) → (∀ m', m' < 2 ^ w → gi σ 33 (256 * (c + 1) + m') = oZ (Bs w U D wt (w * h - (c + 1)) (c + 1) m')) →
    f_X6_layBest_78 k65 n a1 a2 x3 (nI c) (nI m) (oZ (om (fun k => oA (Tr w U D c m k) (Bs w U D wt (w * h - (c + 1)) (c + 1)) (wt c k)) k)) (nI k) σ = k65 a1 a2 x3 (nI c) (nI (m + 1)) (si σ 33 (256 * c + m) (oZ (Bs w U D wt (w * h - c) c m))) := by
  intro n
  induction n with
  | zero => intro k σ h1 h2; omega
  | succ n ih =>
    intro k σ h1 h2 g hF hr
    obtain ⟨hw1, hw8, hh1, hh8, -⟩ := id g
    have hl := l256 (by omega : c ≤ w * h) hw8 hh8 hm
    have hN : w * h - c = (w * h - (c + 1)) + 1 := by omega
    have hbA : ∀ k, oB (oA (Tr w U D c m k) (Bs w U D wt (w * h - (c + 1)) (c + 1)) (wt c k)) 800000 := fun k => oB_le (oA_B (fun m => B_800 hw8 hh8 hW.1 (by omega) (c + 1) m) (hW.1 c k)) (by decide)
    rw [f_X6_layBest_78]
    by_cases hk : 4 ≤ k
    · have e : k = 4 := by omega
      subst e
      rw [if_pos (show (4 : Int32) ≤ nI 4 by decide), show (256 : Int32) = nI 256 from rfl, nI_mul, nI_add, wrI_at _ _ _ (show 256 * c + m < len 33 from hl) (by decide), nI_1, hN]
      rfl
    · rw [if_neg (show ¬ (4 : Int32) ≤ nI k from nI_ge (a := k) (b := 4) (by omega) (by decide)), bd_at (s_then g hc hm (by omega))]
      have hb2 := om_B (f := fun k => oA (Tr w U D c m k) (Bs w U D wt (w * h - (c + 1)) (c + 1)) (wt c k)) (n := k) (fun k _ => hbA k)
      have go : ∀ o : Option Int, o = oA (Tr w U D c m k) (Bs w U D wt (w * h - (c + 1)) (c + 1)) (wt c k) → f_X6_layBest_153 (f_X6_layBest_78 k65 n) a1 a2 x3 (nI c) (nI m) (oZ (om (fun k => oA (Tr w U D c m k) (Bs w U D wt (w * h - (c + 1)) (c + 1)) (wt c k)) k)) (nI k) (oZ o) σ = k65 a1 a2 x3 (nI c) (nI (m + 1)) (si σ 33 (256 * c + m) (oZ (Bs w U D wt (w * h - c) c m))) := by
        intro o ho
        have key := ih (k + 1) σ (by omega) (by omega) g hF hr
        have hs : om (fun k => oA (Tr w U D c m k) (Bs w U D wt (w * h - (c + 1)) (c + 1)) (wt c k)) (k + 1) = oM (om (fun k => oA (Tr w U D c m k) (Bs w U D wt (w * h - (c + 1)) (c + 1)) (wt c k)) k) o := by rw [ho]; rfl
        rw [hs, ← oZ_max hb2 (by rw [ho]; exact hbA k)] at key
        unfold f_X6_layBest_153 f_X6_layBest_169
        rw [nI_1]
        split
        · next q => rw [if_pos q] at key; exact key
        · next q => rw [if_neg q] at key; exact key
      have go' : ∀ o : Option Int, oB o 10000 → (match o with
          | none => none
          | some z => some (z + wt c k)) = oA (Tr w U D c m k) (Bs w U D wt (w * h - (c + 1)) (c + 1)) (wt c k) → f_X6_layBest_126 (f_X6_layBest_78 k65 n) a1 a2 x3 (nI c) (nI m) (oZ (om (fun k => oA (Tr w U D c m k) (Bs w U D wt (w * h - (c + 1)) (c + 1)) (wt c k)) k)) (nI k) (oZ o) σ = k65 a1 a2 x3 (nI c) (nI (m + 1)) (si σ 33 (256 * c + m) (oZ (Bs w U D wt (w * h - c) c m))) := by
        intro o hob ho
        unfold f_X6_layBest_126
        cases o with
        | none =>
          rw [if_pos (show oZ none = -900009 from rfl)]
          exact go none ho
        | some z =>
          rw [if_neg (fun q => by have := (oZ_none (oB_le hob (by decide))).mp q; cases this), bd_at (hW.2 σ hF c hc k (by omega))]
          show f_X6_layBest_153 _ _ _ _ _ _ _ _ (iZ z + iZ (wt c k)) σ = _
          rw [iZ_add]
          exact go (some (z + wt c k)) ho
      cases ht : Tr w U D c m k with
      | none =>
        rw [if_pos (show oI none = -900009 from rfl)]
        exact go' none (fun z hz => by cases hz) (by rw [ht]; rfl)
      | some m' =>
        have hm' := Tr_lt hw1 hm ht
        have hl' := l256 (by omega : c + 1 ≤ w * h) hw8 hh8 hm'
        have h256 := pow_256 hw8
        rw [if_neg (show ¬ oI (some m') = -900009 from nI_none (by omega)), oI_some, show (256 : Int32) = nI 256 from rfl, nI_mul, nI_add, nI_add]
        rw [rdI_at _ _ (show 256 * c + 256 + m' < len 33 by show 256 * c + 256 + m' < 16640; omega) (by decide), show 256 * c + 256 + m' = 256 * (c + 1) + m' by omega, hr m' hm']
        exact go' _ (B_800 hw8 hh8 hW.1 (by omega) (c + 1) m') (by rw [ht]; rfl)
theorem s_layBest_65 {F : Nat → Int32} {w h : Nat} {U D : Nat → Bool} {wt : Nat → Nat → Int} {a1 a2 : Int32} (hW : WtR F w h wt a1 a2) {c : Nat} (hc : c < w * h) (k57 : Int32 → Int32 → Int32 → Int32 → St → Option (Unit × St)) :
    ∀ (n m : Nat) (σ : St), m ≤ 2 ^ w → 2 ^ w - m < n → MG σ w h U D → (∀ j, gi σ 28 j = F j) → (∀ m', m' < 2 ^ w → gi σ 33 (256 * (c + 1) + m') = oZ (Bs w U D wt (w * h - (c + 1)) (c + 1) m')) →
    f_X6_layBest_65 k57 n a1 a2 (nI (2 ^ w)) (nI c) (nI m) σ = k57 a1 a2 (nI (2 ^ w)) (nI c + (-1)) (fill σ 33 (256 * c + m) (256 * c + 2 ^ w) (fun j => oZ (Bs w U D wt (w * h - c) c (j - 256 * c)))) := by
  intro n
  induction n with
  | zero => intro m σ h1 h2; omega
  | succ n ih =>
    intro m σ h1 h2 g hF hr
    obtain ⟨hw1, hw8, hh1, hh8, -⟩ := id g
    have h256 := pow_256 hw8
    rw [f_X6_layBest_65]
    by_cases hm : 2 ^ w ≤ m
    · have e : m = 2 ^ w := by omega
      subst e
      rw [if_pos (nI_le hm (by omega)), fill_end]
    · rw [if_neg (nI_ge (by omega) (by omega))]
      have h68 := s_layBest_78 hW hc (by omega : m < 2 ^ w) (f_X6_layBest_65 k57 n) (nI (2 ^ w)) FU 0 σ (by decide) (by decide) g hF hr
      rw [show oZ (om (fun k => oA (Tr w U D c m k) (Bs w U D wt (w * h - (c + 1)) (c + 1)) (wt c k)) 0) = -900009 from rfl, show nI 0 = 0 from rfl] at h68
      have gτ : MG (si σ 33 (256 * c + m) (oZ (Bs w U D wt (w * h - c) c m))) w h U D := g.keep (P := fun p => p = 33) (eqx.si eqx.rf rfl) (by decide) (by decide)
      rw [h68, ih (m + 1) (si σ 33 (256 * c + m) (oZ (Bs w U D wt (w * h - c) c m))) (by omega) (by omega) gτ (fun j => by rw [gi_si, if_neg (by omega)]; exact hF j) (fun m' hm' => by rw [gi_si, if_neg (by omega)]; exact hr m' hm')]
      have hf := fill_step σ 33 (256 * c + m) (256 * c + 2 ^ w) (fun j => oZ (Bs w U D wt (w * h - c) c (j - 256 * c))) (by omega)
      rw [show 256 * c + m - 256 * c = m by omega] at hf
      rw [← hf]
      rfl
theorem s_layBest_57 {F : Nat → Int32} {w h : Nat} {U D : Nat → Bool} {wt : Nat → Nat → Int} {a1 a2 : Int32} (hW : WtR F w h wt a1 a2) : ∀ (j n : Nat) (σ : St), j ≤ w * h → j < n → MG σ w h U D → (∀ j, gi σ 28 j = F j) → (∀ c, j ≤ c → c ≤ w * h → ∀ m, m < 2 ^ w → gi σ 33 (256 * c + m) = oZ (Bs w U D wt (w * h - c) c m)) →
    ∃ σ', f_X6_layBest_57 n a1 a2 (nI (2 ^ w)) (nI j + (-1)) σ = some ((), σ') ∧ BestOK σ' w h U D wt ∧ σ'.2 = σ.2 ∧ eqx (fun p => p = 33) σ σ' := by
  intro j
  induction j with
  | zero =>
    intro n σ h1 h2 g hF hr
    obtain ⟨n, rfl⟩ : ∃ n', n = n' + 1 := ⟨n - 1, by omega⟩
    refine ⟨σ, ?_, fun c hc m hm => hr c (Nat.zero_le _) hc m hm, rfl, eqx.rf⟩
    rw [f_X6_layBest_57, if_pos (show nI 0 + (-1) < 0 by decide)]
  | succ c ih =>
    intro n σ h1 h2 g hF hr
    obtain ⟨n, rfl⟩ : ∃ n', n = n' + 1 := ⟨n - 1, by omega⟩
    obtain ⟨hw1, hw8, hh1, hh8, -⟩ := id g
    have har := area_le hw8 hh8
    rw [f_X6_layBest_57, pk_m1, if_neg (nI_pos (by omega))]
    have h57 := s_layBest_65 hW (by omega : c < w * h) (f_X6_layBest_57 n) FU 0 σ (Nat.zero_le _) (by have := pow_256 hw8; unfold FU; omega) g hF (fun m' hm' => hr (c + 1) (Nat.le_refl _) h1 m' hm')
    rw [show nI 0 = 0 from rfl] at h57
    rw [h57]
    generalize hτ : fill σ 33 (256 * c + 0) (256 * c + 2 ^ w) (fun j => oZ (Bs w U D wt (w * h - c) c (j - 256 * c))) = τ
    have h256 := pow_256 hw8
    have hgi : ∀ q j, gi τ q j = if q = 33 ∧ 256 * c + 0 ≤ j ∧ j < 256 * c + 2 ^ w then oZ (Bs w U D wt (w * h - c) c (j - 256 * c)) else gi σ q j := fun q j => by rw [← hτ]; rfl
    have hg1 : τ.2 = σ.2 := by rw [← hτ]; rfl
    have hex : eqx (fun p => p = 33) σ τ := fun p hp k => ⟨by rw [hgi, if_neg (fun z => hp z.1)], by unfold gl; rw [hg1]⟩
    have gτ : MG τ w h U D := g.keep hex (by decide) (by decide)
    obtain ⟨σ', e1, e2, e3, e4⟩ := ih n τ (by omega) (by omega) gτ (fun j => by rw [(hex 28 (by decide) j).1]; exact hF j) (fun c' hc1 hc2 m hm => by
      rw [hgi]
      by_cases hcc : c' = c
      · subst hcc
        rw [if_pos (by omega), show 256 * c' + m - 256 * c' = m by omega]
      · rw [if_neg (by omega)]
        exact hr c' (by omega) hc2 m hm)
    exact ⟨σ', e1, e2, e3.trans hg1, eqx.tr hex e4⟩
theorem s_layBest_10 {F : Nat → Int32} {w h : Nat} {U D : Nat → Bool} {wt : Nat → Nat → Int} {a1 a2 : Int32} (hW : WtR F w h wt a1 a2) : ∀ (n m : Nat) (σ : St), m ≤ 2 ^ w → 2 ^ w - m < n → MG σ w h U D → (∀ j, gi σ 28 j = F j) → (∀ m', m' < m → gi σ 33 (256 * (w * h) + m') = oZ (if m' = 0 then some 0 else none)) →
    ∃ σ', f_X6_layBest_10 n a1 a2 (nI (2 ^ w)) (nI m) σ = some ((), σ') ∧ BestOK σ' w h U D wt ∧ σ'.2 = σ.2 ∧ eqx (fun p => p = 33) σ σ' := by
  intro n
  induction n with
  | zero => intro m σ h1 h2; omega
  | succ n ih =>
    intro m σ h1 h2 g hF hr
    obtain ⟨hw1, hw8, hh1, hh8, -⟩ := id g
    have h256 := pow_256 hw8
    have har := area_le hw8 hh8
    rw [f_X6_layBest_10]
    by_cases hm : 2 ^ w ≤ m
    · have e : m = 2 ^ w := by omega
      subst e
      rw [if_pos (nI_le hm (by omega)), bd_at (s_cells g), show nI (w * h) - 1 = nI (w * h) + (-1) from Int32.sub_eq_add_neg _ _]
      exact s_layBest_57 hW (w * h) FU σ (Nat.le_refl _) (by unfold FU; omega) g hF (fun c h3 h4 m hm => by
        have : c = w * h := by omega
        subst this
        rw [hr m hm, Nat.sub_self]
        rfl)
    · rw [if_neg (nI_ge (by omega) (by omega)), bd_at (s_cells g), show (256 : Int32) = nI 256 from rfl, nI_mul, nI_add]
      have hl := l256 (Nat.le_refl (w * h)) hw8 hh8 (by omega : m < 2 ^ w)
      have step : ∀ v : Option Int, v = (if m = 0 then some 0 else none) → ∃ σ', f_X6_layBest_42 (f_X6_layBest_10 n) a1 a2 (nI (2 ^ w)) (nI m) (nI (256 * (w * h) + m)) (oZ v) σ = some ((), σ') ∧ BestOK σ' w h U D wt ∧ σ'.2 = σ.2 ∧ eqx (fun p => p = 33) σ σ' := by
        intro v hv
        unfold f_X6_layBest_42
        rw [wrI_at _ _ _ (show 256 * (w * h) + m < len 33 from hl) (by decide), nI_1]
        have gτ : MG (si σ 33 (256 * (w * h) + m) (oZ v)) w h U D := g.keep (P := fun p => p = 33) (eqx.si eqx.rf rfl) (by decide) (by decide)
        obtain ⟨σ', e1, e2, e3, e4⟩ := ih (m + 1) (si σ 33 (256 * (w * h) + m) (oZ v)) (by omega) (by omega) gτ (fun j => by rw [gi_si, if_neg (by omega)]; exact hF j) (fun m' hm' => by
          rw [gi_si]
          by_cases hq : m' = m
          · subst hq; rw [if_pos ⟨rfl, rfl⟩, hv]
          · rw [if_neg (by omega)]; exact hr m' (by omega))
        exact ⟨σ', e1, e2, e3, eqx.tr (eqx.si eqx.rf rfl) e4⟩
      by_cases h0 : m = 0
      · rw [if_pos (show nI m = 0 by rw [h0]; rfl)]
        exact step (some 0) (by simp [h0])
      · rw [if_neg (nI_ne0 (by omega) (by omega))]
        exact step none (by simp [h0])
theorem s_layBest {F : Nat → Int32} {σ : St} {w h : Nat} {U D : Nat → Bool} {wt : Nat → Nat → Int} {a1 a2 : Int32} (hW : WtR F w h wt a1 a2) (g : MG σ w h U D) (hF : ∀ j, gi σ 28 j = F j) : ∃ σ', f_X6_layBest a1 a2 σ = some ((), σ') ∧ BestOK σ' w h U D wt ∧ σ'.2 = σ.2 ∧ eqx (fun p => p = 33) σ σ' := by
  unfold f_X6_layBest
  rw [g.2.2.2.2.1, sh_many w (by have := g.2.1; omega), show (0 : Int32) = nI 0 from rfl]
  exact s_layBest_10 hW FU 0 σ (Nat.zero_le _) (by have := pow_256 g.2.1; unfold FU; omega) g hF (fun m' hm' => by omega)
