/-! ===== HALF 2: POINTS counted; sinkTallied of the class ===== -/
theorem cnt_grid {w h : Nat} {F : Nat → Bool} (h0 : ∀ c, c % w = 0 → F c = false) (hN : ∀ c, w * h ≤ c → F c = false) : cnt (fun p => F (pcell w p)) ((w + 1) * (h + 1)) = cnt F (w * h) := by
  have rows : ∀ y, cnt (fun p => F (pcell w p)) ((w + 1) * y) = cnt F (w * y) := by
    intro y
    induction y with
    | zero => rfl
    | succ y ih =>
      have e : cnt (fun i => (fun p => F (pcell w p)) ((w + 1) * y + i)) (w + 1) = cnt (fun i => F (w * y + i)) (w + 1) := cnt_congr (fun i hi => by
        show F (pcell w ((w + 1) * y + i)) = _
        unfold pcell
        rw [Nat.mul_add_mod, Nat.mod_eq_of_lt hi, Nat.mul_add_div (by omega), Nat.div_eq_of_lt hi, Nat.add_zero, Nat.mul_comm])
      have e2 : cnt (fun i => F (w * y + i)) (w + 1) = cnt (fun i => F (w * y + i)) w := by
        show cnt (fun i => F (w * y + i)) w + (if F (w * y + w) = true then 1 else 0) = _
        rw [h0 (w * y + w) (by rw [Nat.mul_add_mod, Nat.mod_self])]
        rfl
      rw [Nat.mul_succ (w + 1) y, cnt_add (fun p => F (pcell w p)) ((w + 1) * y) (w + 1), e, e2, ih, Nat.mul_succ w y, cnt_add F (w * y) w]
  have e3 : cnt (fun i => F (w * h + i)) w = 0 := cnt_false (fun i _ => hN _ (by omega))
  rw [rows, Nat.mul_succ, cnt_add F (w * h) w, e3, Nat.add_zero]
theorem s_free27 {σ : St} {w h s : Nat} {U D : Nat → Bool} (hs : s < 4) (g : MG σ w h U D) {K : Nat → Nat} (hL : LM σ s (w * h) K) (hK : ∀ c, c < w * h → K c < 4) (t : Bool) : ∀ (n p : Nat), p ≤ (w + 1) * (h + 1) → (w + 1) * (h + 1) - p < n → f_X6_free_27 n (nI s) (bI (!t)) (nI (cnt (fun p => decide (ptN w U D (w * h) K (pcell w p) = if t then 2 else 3)) p)) (nI p) σ = some (nI (cnt (fun p => decide (ptN w U D (w * h) K (pcell w p) = if t then 2 else 3)) ((w + 1) * (h + 1))), σ) := by
  obtain ⟨hw1, hw8, hh1, hh8, e0, e1, eT⟩ := id g
  have h81 := pp_le hw8 hh8
  intro n
  induction n with
  | zero => intro p h1 h2; omega
  | succ n ih =>
    intro p h1 h2
    rw [f_X6_free_27, e0, e1, nI_1, nI_1, nI_mul]
    by_cases hp : (w + 1) * (h + 1) ≤ p
    · have : p = (w + 1) * (h + 1) := by omega
      rw [if_pos (nI_le hp (by omega)), this]
    · have hp' : p < (w + 1) * (h + 1) := by omega
      obtain ⟨hx, hy⟩ := p_xy hp'
      rw [if_neg (nI_ge hp' (by omega)), rmI_at _ (by omega) (by omega) (by omega), dvI_at _ (by omega) (by omega) (by omega), bd_at (s_pointOf g hs hL hK hx hy)]
      have key := ih (p + 1) (by omega) (by omega)
      have go : f_X6_free_78 (f_X6_free_27 n) (nI s) (bI (!t)) (nI p) (nI (cnt (fun p => decide (ptN w U D (w * h) K (pcell w p) = if t then 2 else 3)) p)) (nI (ptN w U D (w * h) K (pcell w p))) (nI (if t then 2 else 3)) σ = some (nI (cnt (fun p => decide (ptN w U D (w * h) K (pcell w p) = if t then 2 else 3)) ((w + 1) * (h + 1))), σ) := by
        have hlt := ptN_lt w U D (w * h) K (pcell w p)
        have h23 : (if t then 2 else 3) < 4 := by cases t <;> decide
        have hs1 : cnt (fun p => decide (ptN w U D (w * h) K (pcell w p) = if t then 2 else 3)) (p + 1) = cnt (fun p => decide (ptN w U D (w * h) K (pcell w p) = if t then 2 else 3)) p + (if decide (ptN w U D (w * h) K (pcell w p) = if t then 2 else 3) = true then 1 else 0) := rfl
        unfold f_X6_free_78 f_X6_free_86
        by_cases hq : ptN w U D (w * h) K (pcell w p) = (if t then 2 else 3)
        · rw [if_pos (by rw [hq]), nI_1, nI_1]
          rw [hs1, decide_eq_true hq, if_pos rfl] at key
          exact key
        · rw [if_neg (fun z => hq ((nI_eq (by omega) (by omega)).mp z)), nI_1, show nI (cnt (fun p => decide (ptN w U D (w * h) K (pcell w p) = if t then 2 else 3)) p) + 0 = nI (cnt (fun p => decide (ptN w U D (w * h) K (pcell w p) = if t then 2 else 3)) p + 0) from nI_add _ 0]
          rw [hs1, decide_eq_false hq, if_neg (show ¬ false = true by decide)] at key
          exact key
      cases t with
      | true => rw [show (!true) = false from rfl, if_pos bI_f]; exact go
      | false => rw [show (!false) = true from rfl, if_neg bIt]; exact go
/-- both count as many -/
theorem free_same {σ : St} {w h q : Nat} {U D : Nat → Bool} {K : Nat → Nat} (g : CG σ w h U D) (g6 : CI6 σ w h U D) (hL : LC σ q (w * h) U K) (t : Bool) : pc (ptsV σ q t) = cnt (fun p => decide (ptN w U D (w * h) K (pcell w p) = if t then 2 else 3)) ((w + 1) * (h + 1)) := by
  have har := area_le g.2.1 g.2.2.2.1
  have e1 : ∀ c, c < 64 → tb (ptsV σ q t) c = decide (ptN w U D (w * h) K c = if t then 2 else 3) := fun c hc => by
    have h1 := tb_pts g g6 hL t hc
    have h2 := ptN_at w U D (w * h) K c t
    by_cases z : atP w U D (w * h) t K c
    · rw [h1.mpr z, decide_eq_true (h2.mpr z)]
    · rw [decide_eq_false (fun r => z (h2.mp r))]
      cases r : tb (ptsV σ q t) c with
      | false => rfl
      | true => exact absurd (h1.mp r) z
  have e2 : ∀ c, innB w U D (w * h) c = false → decide (ptN w U D (w * h) K c = if t then 2 else 3) = false := fun c hc => decide_eq_false (fun r => by
    have := ((ptN_at w U D (w * h) K c t).mp r).1
    rw [hc] at this
    cases this)
  have hb : ∀ c, w * h ≤ c → innB w U D (w * h) c = false := fun c hc => by
    cases z : innB w U D (w * h) c with
    | false => rfl
    | true => have := (inn_of z).1; omega
  rw [cnt_grid (F := fun c => decide (ptN w U D (w * h) K c = if t then 2 else 3)) (fun c hc => e2 c (by
    cases z : innB w U D (w * h) c with
    | false => rfl
    | true => exact absurd hc (inn_of z).2.1)) (fun c hc => e2 c (hb c hc))]
  rw [pc_cut har (fun i hi hn => by rw [e1 i hi]; exact e2 i (hb i hn))]
  exact cnt_congr (fun i hi => e1 i (by omega))
/-! sinkTallied -/
def Rr (w : Nat) (K : Nat → Nat) (p : Nat) : Int := (Rg w K (p % w) (p / w) : Int)
def TY (σ : St) (T : Nat → Int) : Prop := ∀ p, p < 64 → gi σ 24 p = iZ (T p)
theorem s_sink29 {q w : Nat} (hq : q ≠ 1) {P : Int64} {e : Int} (k3 : Nat → Int32 → Int32 → St → Option (Unit × St)) (j : Nat) : ∀ (n x : Nat) (σ : St) (T : Nat → Int), x ≤ 64 → 64 - x < n → gi σ 1 0 = nI w → TY σ T →
    ∃ σ', f_X4_sinkTallied_29 k3 n q (iZ e) (nI j) P (nI x) σ = k3 q (iZ e) (nI (j + 1)) (flipS σ' q w P) ∧ TY σ' (fun p => T p + (if x ≤ p ∧ tb P p = true then e else 0)) ∧ σ'.2 = σ.2 ∧ eqx (fun p => p = 24) σ σ' := by
  intro n
  induction n with
  | zero => intro x σ T h1 h2; omega
  | succ n ih =>
    intro x σ T h1 h2 hw hT
    rw [f_X4_sinkTallied_29]
    by_cases hx : 64 ≤ x
    · rw [if_pos (show (64 : Int32) ≤ nI x from nI_le (a := 64) hx (by omega)), hw, bd_at (s_flip q w P σ), nI_1]
      refine ⟨σ, rfl, fun p hp => ?_, rfl, eqx.rf⟩
      show gi σ 24 p = iZ (T p + (if x ≤ p ∧ tb P p = true then e else 0))
      rw [if_neg (by omega), Int.add_zero]
      exact hT p hp
    · have hx' : x < 64 := by omega
      rw [if_neg (show ¬ (64 : Int32) ≤ nI x from nI_ge (a := x) (b := 64) (by omega) (by decide))]
      unfold f_X4_sinkTallied_59
      by_cases hb : tb P x = true
      · rw [if_neg (fun z => by rw [(tb_read P hx').mp z] at hb; cases hb), rdI_at _ _ (show x < len 24 from hx') (by decide), hT x hx', iZ_add, wrI_at _ _ _ (show x < len 24 from hx') (by decide), nI_1]
        have hex : eqx (fun p => p = 24) σ (si σ 24 x (iZ (T x + e))) := eqx.si eqx.rf rfl
        obtain ⟨σ', d1, d2, d3, d4⟩ := ih (x + 1) (si σ 24 x (iZ (T x + e))) (fun p => if p = x then T x + e else T p) (by omega) (by omega) hw (fun p hp => by
          show gi (si σ 24 x (iZ (T x + e))) 24 p = iZ (if p = x then T x + e else T p)
          rw [gi_si]
          by_cases z : p = x
          · subst z; rw [if_pos ⟨rfl, rfl⟩, if_pos rfl]
          · rw [if_neg (by omega), if_neg z]; exact hT p hp)
        refine ⟨σ', d1, fun p hp => ?_, d3, eqx.tr hex d4⟩
        rw [d2 p hp]
        congr 1
        by_cases z : p = x
        · subst z
          simp only [if_true]
          rw [if_neg (show ¬ (p + 1 ≤ p ∧ tb P p = true) by omega), if_pos ⟨Nat.le_refl _, hb⟩, Int.add_zero]
        · simp only [if_neg z]
          congr 1
          by_cases r : x ≤ p ∧ tb P p = true
          · rw [if_pos r, if_pos ⟨by omega, r.2⟩]
          · rw [if_neg r, if_neg (fun v => r ⟨by omega, v.2⟩)]
      · have hb' : tb P x = false := by
          cases z : tb P x with
          | false => rfl
          | true => exact absurd z hb
        rw [if_pos ((tb_read P hx').mpr hb'), nI_1]
        obtain ⟨σ', d1, d2, d3, d4⟩ := ih (x + 1) σ T (by omega) (by omega) hw hT
        refine ⟨σ', d1, fun p hp => ?_, d3, d4⟩
        rw [d2 p hp]
        show iZ (T p + _) = iZ (T p + _)
        congr 2
        by_cases r : x ≤ p ∧ tb P p = true
        · rw [if_pos r, if_pos ⟨by
            have : p ≠ x := fun v => by rw [v] at r; exact hb r.2
            omega, r.2⟩]
        · rw [if_neg r, if_neg (fun v => r ⟨by omega, v.2⟩)]
theorem s_sink3 {q w h : Nat} (hq : q ≠ 1 ∧ q ≠ 24) {U D : Nat → Bool} {e : Int} : ∀ (n j : Nat) (K : Nat → Nat) (σ : St) (T : Nat → Int), mea w (w * h) false K < n → j + mea w (w * h) false K < 1000 → CG σ w h U D → CI6 σ w h U D → LC σ q (w * h) U K → TY σ T →
    ∃ σ' M m, f_X4_sinkTallied_3 n q (iZ e) (nI j) σ = some ((), σ') ∧ UpN w U D (w * h) false m K M ∧ NoP w U D (w * h) false M ∧ LC σ' q (w * h) U M ∧ TY σ' (fun p => T p + e * (Rr w M p - Rr w K p)) ∧ (∀ k, gi σ' q k = gi σ q k) ∧ eqx (fun p => p = q ∨ p = 24) σ σ' := by
  intro n
  induction n with
  | zero => intro j K σ T h1; omega
  | succ n ih =>
    intro j K σ T h1 h2 g g6 hL hT
    have har := area_le g.2.1 g.2.2.2.1
    rw [f_X4_sinkTallied_3, if_neg (show ¬ (1000 : Int32) ≤ nI j from nI_ge (a := j) (b := 1000) (by omega) (by decide)), bd_at (s_highs q σ)]
    by_cases h0 : ptsV σ q false = 0
    · rw [if_pos h0]
      refine ⟨σ, K, 0, rfl, rfl, pts_0 g g6 hL false h0, hL, fun p hp => ?_, fun _ => rfl, eqx.rf⟩
      show gi σ 24 p = iZ (T p + e * (Rr w K p - Rr w K p))
      rw [Int.sub_self, Int.mul_zero, Int.add_zero]
      exact hT p hp
    · rw [if_neg h0]
      obtain ⟨τ, d1, d2, d3, d4⟩ := s_sink29 hq.1 (P := ptsV σ q false) (e := e) (f_X4_sinkTallied_3 n) j FU 0 σ T (by omega) (by unfold FU; omega) g.2.2.2.2.1 hT
      rw [show nI 0 = 0 from rfl] at d1
      rw [d1]
      have hLτ : LC τ q (w * h) U K := hL.keep d4 (by show ¬ q = 24; exact hq.2)
      have gτ := g.keep d4 (by decide)
      have g6τ := g6.keep d4 (by decide)
      obtain ⟨M1, u1, u2, u3⟩ := flip_all (P := ptsV σ q false) g.1 g.2.1 har hLτ (fun c hc hb => (tb_pts g g6 hL false hc).mp hb)
      have hm := UpN_mea g.1 g.2.1 har u1
      have hp := pc_pos h0
      have hex := flipS_eqx τ q w (ptsV σ q false)
      obtain ⟨σ', M, m, e1, e2, e3, e4, e5, e6, e7⟩ := ih (j + 1) M1 (flipS τ q w (ptsV σ q false)) (fun p => T p + (if 0 ≤ p ∧ tb (ptsV σ q false) p = true then e else 0)) (by omega) (by omega) (gτ.keep hex (fun z => hq.1 z.symm)) (g6τ.keep hex (fun z => hq.1 z.symm)) u2 (fun p hp => d2 p hp)
      refine ⟨σ', M, pc (ptsV σ q false) + m, e1, UpN_app u1 e2, e3, e4, fun p hp => ?_, fun k => ?_, ?_⟩
      · rw [e5 p hp]
        show iZ (T p + (if 0 ≤ p ∧ tb (ptsV σ q false) p = true then e else 0) + e * (Rr w M p - Rr w M1 p)) = iZ (T p + e * (Rr w M p - Rr w K p))
        congr 1
        have hR := u3 rfl (p % w) (p / w)
        have hpe : p / w * w + p % w = p := by rw [Nat.mul_comm]; exact Nat.div_add_mod p w
        rw [hpe] at hR
        have hR' : Rr w M1 p = Rr w K p + (b1 (tb (ptsV σ q false) p = true) : Int) := by
          unfold Rr
          rw [hR]
          omega
        rw [hR']
        by_cases r : tb (ptsV σ q false) p = true
        · rw [if_pos ⟨Nat.zero_le _, r⟩, b1_t r, show Rr w M p - (Rr w K p + ((1 : Nat) : Int)) = (Rr w M p - Rr w K p) - 1 by omega, Int.mul_sub, Int.mul_one]
          omega
        · rw [if_neg (fun v => r v.2), b1_f r, Int.add_zero, show Rr w M p - (Rr w K p + ((0 : Nat) : Int)) = Rr w M p - Rr w K p by omega]
      · rw [e6 k]
        show gi τ q k = gi σ q k
        exact (d4 q (by show ¬ q = 24; exact hq.2) k).1
      · exact eqx.tr (d4.mono (fun p hp => Or.inr hp)) (eqx.tr (hex.mono (fun p hp => Or.inl hp)) e7)
