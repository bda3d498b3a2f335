/-! ===== HALF 2: shift, solve of the class ===== -/
theorem and_bit {X : Int64} {d : Nat} (hd : d < 64) : (X &&& lshl 1 (nI d)) = 0 ↔ tb X d = false := by
  rw [tb_eq0]
  constructor
  · intro h
    have := h d hd
    rw [tb_and, tb_bit hd, decide_eq_true rfl, Bool.and_true] at this
    exact this
  · intro h i hi
    rw [tb_and, tb_bit hd]
    by_cases e : i = d
    · rw [e, h]; rfl
    · rw [decide_eq_false e, Bool.and_false]
theorem lshl_bit {d k : Nat} (h : d + k < 64) : lshl (lshl 1 (nI d)) (nI k) = lshl 1 (nI (d + k)) := by
  apply tb_ext
  intro i hi
  rw [tb_lshl _ (by omega), tb_bit (by omega), tb_bit h, decide_eq_true hi, Bool.true_and, ← Bool.decide_and]
  exact decide_eq_decide.mpr (by omega)
theorem lshl_big {d k : Nat} (hd : d < 64) (hk : k < 64) (h : 64 ≤ d + k) : lshl (lshl 1 (nI d)) (nI k) = 0 := by
  rw [tb_eq0]
  intro i hi
  rw [tb_lshl _ hk, tb_bit hd, decide_eq_true hi, Bool.true_and, ← Bool.decide_and]
  exact decide_eq_false (by omega)
section SHI
variable {w h : Nat} {U D : Nat → Bool}
theorem s_mateOf {σ : St} {K : Nat → Nat} (g : CG σ w h U D) (hL : LJ σ K) (hV : KW w U D (w * h) K) {u : Nat} (hu : u < 64) : (∀ d, mk w K u = some d → f_X0_mateOf (lshl 1 (nI u)) σ = some (lshl 1 (nI d), σ)) ∧ (mk w K u = none → f_X0_mateOf (lshl 1 (nI u)) σ = some (0, σ)) := by
  have hw8 := g.2.1
  have har := area_le g.2.1 g.2.2.2.1
  unfold f_X0_mateOf
  rw [g.2.2.2.2.1]
  have e : ∀ i, i < 64 → tb ((((gl σ 13 1) &&& (lshl 1 (nI u))) ||| (lushr ((gl σ 13 2) &&& (lshl 1 (nI u))) (1 : Int32))) ||| (lushr ((gl σ 13 3) &&& (lshl 1 (nI u))) (nI w))) i = decide (mk w K u = some i) := fun i hi => by
    rw [tb_or, tb_or, show (1 : Int32) = nI 1 from rfl, tb_lushr _ (by decide), tb_lushr _ (by omega), tb_and, tb_and, tb_and, tb_bit hu, tb_bit hu, tb_bit hu, (LJ_big hL hV har i).1, (LJ_big hL hV har (1 + i)).2.1, (LJ_big hL hV har (w + i)).2.2, ← Bool.decide_and, ← Bool.decide_and, ← Bool.decide_and, ← Bool.decide_or, ← Bool.decide_or]
    refine decide_eq_decide.mpr ?_
    rw [mk_some hV]
    constructor
    · rintro ((⟨q, r⟩ | ⟨q, r⟩) | ⟨q, r⟩)
      · rw [← r]; exact Or.inl ⟨q, rfl⟩
      · rw [← r]; exact Or.inr (Or.inl ⟨q, by omega⟩)
      · rw [← r]; exact Or.inr (Or.inr ⟨q, by omega⟩)
    · rintro (⟨q, r⟩ | ⟨q, r⟩ | ⟨q, r⟩)
      · rw [r] at q; exact Or.inl (Or.inl ⟨q, r.symm⟩)
      · rw [r, Nat.add_comm] at q; exact Or.inl (Or.inr ⟨q, by omega⟩)
      · rw [r, Nat.add_comm] at q; exact Or.inr ⟨q, by omega⟩
  refine ⟨fun d hd => ?_, fun hn => ?_⟩
  · congr 2
    apply tb_ext
    intro i hi
    have hdl : d < 64 := by have := (hV.2.1 u d hd).2.2.1; omega
    rw [e i hi, tb_bit hdl, hd]
    exact decide_eq_decide.mpr ⟨fun q => (Option.some.inj q).symm, fun q => by rw [q]⟩
  · congr 2
    rw [tb_eq0]
    intro i hi
    rw [e i hi, hn]
    exact decide_eq_false (fun q => by cases q)
theorem LJ_put {σ : St} {K : Nat → Nat} (hL : LJ σ K) {u k : Nat} (hu : u < 64) : LJ (putS σ 13 (lshl 1 (nI u)) k) (upN K u k) := by
  intro c hc j hj
  rw [gl_putS _ _ _ _ hj, tb_putV _ _ _ hc, tb_bit hu]
  unfold upN
  by_cases e : c = u
  · rw [if_pos (decide_eq_true e), if_pos e]
    by_cases z : k = j
    · rw [z]; simp
    · simp [z]
  · rw [if_neg (by rw [decide_eq_false e]; decide), if_neg e]
    exact hL c hc j hj
theorem KW_set {K : Nat → Nat} (hV : KW w U D (w * h) K) {u d k : Nat} (had : Ad w U D (w * h) u d) (hk : (k = 0 ∧ u = d) ∨ (k = 1 ∧ u = d + 1) ∨ (k = 2 ∧ u = d + w)) (hfree : ∀ v, mk w K v ≠ some d) : KW w U D (w * h) (upN K u k) ∧ ∀ d', mk w K u = some d' → ∀ v, mk w (upN K u k) v ≠ some d' := by
  have e : mk w (upN K u k) = fun v => if v = u then some d else mk w K v := by
    funext v
    by_cases q : v = u
    · subst q
      have e1 : upN K v k v = k := if_pos rfl
      rw [if_pos rfl]
      unfold mk
      rw [e1]
      rcases hk with ⟨k0, z⟩ | ⟨k0, z⟩ | ⟨k0, z⟩
      · rw [if_pos k0, z]
      · rw [if_neg (by omega), if_pos k0, z]; rfl
      · rw [if_neg (by omega), if_neg (by omega), if_pos k0, z, Nat.add_sub_cancel]
    · have e1 : upN K u k v = K v := if_neg q
      rw [if_neg q]
      unfold mk
      rw [e1]
  have hM := MT_set hV.2 had hfree
  rw [← e] at hM
  refine ⟨⟨fun v => ?_, hM.1⟩, hM.2⟩
  unfold upN
  by_cases q : v = u
  · rw [if_pos q]
    exact ⟨by omega, fun z => by omega, fun z => by omega⟩
  · rw [if_neg q]
    exact hV.1 v
theorem s_shift22 {K : Nat → Nat} {Ly : Nat → Int64} (hB : ZB U D (w * h)) (hbare : ∀ u, tb (Ly 0) u = true → K u = 3) {jj : Nat} (hupL : ∀ i, i < jj → ∀ u, tb (Ly i) u = true → u < w * h ∧ U u = true) : ∀ (a n : Nat) (σ : St) (Kc : Nat → Nat) (dn : Int64), a ≤ 64 → a ≤ jj → a < n → CG σ w h U D → LJ σ Kc → KW w U D (w * h) Kc → (∀ i, i < a → gl σ 25 i = Ly i) → (∀ i, i < a → ∀ u, tb (Ly i) u = true → Kc u = K u) → (1 ≤ a → (∀ u, Kc u = 3 ↔ K u = 3) ∧ ∃ d, dn = lshl 1 (nI d) ∧ (∀ u, mk w Kc u ≠ some d) ∧ ∃ u, tb (Ly (a - 1)) u = true ∧ Ad w U D (w * h) u d) → (∀ i, i + 1 < a → ∀ u, tb (Ly (i + 1)) u = true → ∃ d v, tb (Ly i) v = true ∧ Ad w U D (w * h) v d ∧ mk w K u = some d) → (∀ i j, i < j → j < a → ∀ u, tb (Ly i) u = true → tb (Ly j) u = true → False) →
    ∃ σ' K', f_X0_shift_22 n dn (nI a + (-1)) σ = some ((), σ') ∧ LJ σ' K' ∧ KW w U D (w * h) K' ∧ σ'.1 = σ.1 ∧ eqx (fun p => p = 13) σ σ' ∧ (1 ≤ a → ∃ u0, u0 < 64 ∧ K u0 = 3 ∧ K' u0 ≠ 3 ∧ ∀ u, u ≠ u0 → (K' u = 3 ↔ K u = 3)) ∧ (a = 0 → K' = Kc) := by
  intro a
  induction a with
  | zero =>
    intro n σ Kc dn h0 hjj h1 g hL hV
    intro _ _ _ _ _
    obtain ⟨n, rfl⟩ : ∃ n', n = n' + 1 := ⟨n - 1, by omega⟩
    rw [f_X0_shift_22, if_pos (show nI 0 + (-1) < 0 by decide)]
    exact ⟨σ, Kc, rfl, hL, hV, rfl, eqx.rf, fun q => by omega, fun _ => rfl⟩
  | succ b ih =>
    intro n σ Kc dn h0 hjj h1 g hL hV hly hsame hdn hpar hdis
    obtain ⟨n, rfl⟩ : ∃ n', n = n' + 1 := ⟨n - 1, by omega⟩
    have har := area_le g.2.1 g.2.2.2.1
    have hw8 := g.2.1
    obtain ⟨hbare3, d, hd, hfree, u1, hu1, had1⟩ := hdn (by omega)
    rw [Nat.add_sub_cancel] at hu1
    have hdl : d < 64 := by have := had1.2.2.1; omega
    rw [f_X0_shift_22, pk_m1, if_neg (nI_pos (by omega)), rdL_at _ _ (show b < len 25 by show _ < 65; omega) (by decide), hly b (by omega), hd]
    -- one step, with the UP u by KIND k
    have go : ∀ u k : Nat, tb (Ly b) u = true → Ad w U D (w * h) u d → ((k = 0 ∧ u = d) ∨ (k = 1 ∧ u = d + 1) ∨ (k = 2 ∧ u = d + w)) → ∃ σ' K', f_X0_shift_99 (f_X0_shift_22 n) (nI b) (nI k) (lshl 1 (nI u)) σ = some ((), σ') ∧ LJ σ' K' ∧ KW w U D (w * h) K' ∧ σ'.1 = σ.1 ∧ eqx (fun p => p = 13) σ σ' ∧ (1 ≤ b + 1 → ∃ u0, u0 < 64 ∧ K u0 = 3 ∧ K' u0 ≠ 3 ∧ ∀ u, u ≠ u0 → (K' u = 3 ↔ K u = 3)) ∧ (b + 1 = 0 → K' = Kc) := by
      intro u k hu had hk
      have hul := tb_lt hu
      obtain ⟨V1, V2⟩ := KW_set hV had hk hfree
      have hL1 := LJ_put (k := k) hL hul
      have hx1 := putS_eqx σ 13 (lshl 1 (nI u)) k
      have hKu := hsame b (by omega) u hu
      have g1 := g.keep hx1 (by decide)
      have hly1 : ∀ i, i < b → gl (putS σ 13 (lshl 1 (nI u)) k) 25 i = Ly i := fun i hi => by rw [(hx1 25 (by decide) i).2]; exact hly i (by omega)
      have hne : ∀ i, i < b → ∀ v, tb (Ly i) v = true → v ≠ u := fun i hi v hv e => by rw [e] at hv; exact hdis i b hi (by omega) u hv hu
      have hs1 : ∀ i, i < b → ∀ v, tb (Ly i) v = true → upN Kc u k v = K v := fun i hi v hv => by
        unfold upN
        rw [if_neg (hne i hi v hv)]
        exact hsame i (by omega) v hv
      unfold f_X0_shift_99
      obtain ⟨mo1, mo2⟩ := s_mateOf g hL hV hul
      have k3 : k < 3 := by omega
      cases hb : b with
      | zero =>
        subst hb
        have hbu : Kc u = 3 := by rw [hKu]; exact hbare u hu
        rw [bd_at (mo2 ((mk_none (hV.1 u).1).mpr hbu)), bd_at (s_put 13 _ k3 σ)]
        obtain ⟨σ', K', e1, e2, e3, e4, e5, e6, e7⟩ := ih n (putS σ 13 (lshl 1 (nI u)) k) (upN Kc u k) 0 (by omega) (by omega) (by omega) g1 hL1 V1 (fun i hi => by omega) (fun i hi => by omega) (fun q => by omega) (fun i hi => by omega) (fun i j hij hj => by omega)
        refine ⟨σ', K', e1, e2, e3, e4, eqx.tr hx1 e5, fun _ => ⟨u, hul, by rw [← hKu]; exact hbu, ?_, fun v hv => ?_⟩, fun q => by omega⟩
        · rw [e7 rfl]
          unfold upN
          rw [if_pos rfl]
          omega
        · rw [e7 rfl, ← hbare3 v]
          unfold upN
          rw [if_neg hv]
      | succ b' =>
        subst hb
        obtain ⟨d', v, q1, q2, q3⟩ := hpar b' (by omega) u hu
        have hmk : mk w Kc u = some d' := by
          unfold mk at q3 ⊢
          rw [hKu]
          exact q3
        rw [bd_at (mo1 d' hmk), bd_at (s_put 13 _ k3 σ)]
        obtain ⟨σ', K', e1, e2, e3, e4, e5, e6, e7⟩ := ih n (putS σ 13 (lshl 1 (nI u)) k) (upN Kc u k) (lshl 1 (nI d')) (by omega) (by omega) (by omega) g1 hL1 V1 hly1 hs1 (fun _ => ⟨fun v => by
          unfold upN
          by_cases e : v = u
          · rw [if_pos e, e, ← hbare3 u]
            have : Kc u ≠ 3 := fun z => by rw [(mk_none (hV.1 u).1).mpr z] at hmk; cases hmk
            exact ⟨fun z => by omega, fun z => absurd z this⟩
          · rw [if_neg e]; exact hbare3 v, d', rfl, V2 d' hmk, v, by rw [Nat.add_sub_cancel]; exact q1, q2⟩) (fun i hi => hpar i (by omega)) (fun i j hij hj => hdis i j hij (by omega))
        exact ⟨σ', K', e1, e2, e3, e4, eqx.tr hx1 e5, fun _ => e6 (by omega), fun q => by omega⟩
    have d1 := had1.2.2.2.2
    by_cases t0 : tb (Ly b) d = true
    · rw [if_neg (fun z => by rw [(and_bit hdl).mp z] at t0; cases t0)]
      unfold f_X0_shift_70
      rw [if_pos rfl]
      have hup := hupL b (by omega) d t0
      exact go d 0 t0 ⟨hup.1, hup.2, had1.2.2.1, had1.2.2.2.1, Or.inl rfl⟩ (Or.inl ⟨rfl, rfl⟩)
    · have t0' : tb (Ly b) d = false := by
        cases z : tb (Ly b) d with
        | false => rfl
        | true => exact absurd z t0
      rw [if_pos ((and_bit hdl).mpr t0')]
      by_cases t1 : tb (Ly b) (d + 1) = true ∧ (d + 1) % w ≠ 0
      · have hup := hupL b (by omega) (d + 1) t1.1
        have hl := tb_lt t1.1
        have eb : lshl (lshl 1 (nI d)) (1 : Int32) = lshl 1 (nI (d + 1)) := lshl_bit (k := 1) hl
        rw [eb]
        rw [if_neg (fun z => by
          have := (and_bit hl).mp z
          rw [tb_and, t1.1, g.2.2.2.2.2.2.2.2.2 _ hl] at this
          unfold eastB at this
          rw [decide_eq_true hup.1, decide_eq_true t1.2] at this
          cases this)]
        unfold f_X0_shift_70
        rw [if_neg (by decide), if_pos rfl, eb]
        exact go (d + 1) 1 t1.1 ⟨hup.1, hup.2, had1.2.2.1, had1.2.2.2.1, Or.inr (Or.inl ⟨t1.2, rfl⟩)⟩ (Or.inr (Or.inl ⟨rfl, rfl⟩))
      · have hz : ((Ly b &&& gl σ 1 5) &&& lshl (lshl 1 (nI d)) (1 : Int32)) = 0 := by
          rcases Nat.lt_or_ge (d + 1) 64 with q | q
          · have eb : lshl (lshl 1 (nI d)) (1 : Int32) = lshl 1 (nI (d + 1)) := lshl_bit (k := 1) q
            rw [eb]
            refine (and_bit q).mpr ?_
            rw [tb_and, g.2.2.2.2.2.2.2.2.2 _ q]
            cases z : tb (Ly b) (d + 1) with
            | false => rfl
            | true =>
              have : ¬ (d + 1) % w ≠ 0 := fun r => t1 ⟨z, r⟩
              unfold eastB
              rw [decide_eq_false this]
              simp
          · have eb : lshl (lshl 1 (nI d)) (1 : Int32) = 0 := lshl_big (k := 1) hdl (by decide) q
            rw [eb]
            exact tb_eq0.mpr (fun i _ => by rw [tb_and, tb_0, Bool.and_false])
        rw [if_pos hz]
        have hu2 : u1 = d + w := by
          rcases d1 with e | ⟨e1, e2⟩ | ⟨e1, e2⟩
          · rw [← e] at hu1; exact absurd hu1 t0
          · exact absurd (show tb (Ly b) (d + 1) = true ∧ (d + 1) % w ≠ 0 by rw [e2]; exact ⟨hu1, e1⟩) t1
          · omega
        rw [hu2] at hu1 had1
        have hl := tb_lt hu1
        unfold f_X0_shift_70
        rw [if_neg (by decide), if_neg (by decide), g.2.2.2.2.1, lshl_bit hl]
        exact go (d + w) 2 hu1 had1 (Or.inr (Or.inr ⟨rfl, rfl⟩))
/-- how many are joined -/
def mcK (K : Nat → Nat) : Nat := cnt (fun u => decide (K u ≠ 3)) 64
theorem mcK_up {K K' : Nat → Nat} {u0 : Nat} (h1 : u0 < 64) (h2 : K u0 = 3) (h3 : K' u0 ≠ 3) (h4 : ∀ u, u ≠ u0 → (K' u = 3 ↔ K u = 3)) : mcK K' = mcK K + 1 := by
  unfold mcK
  rw [← cnt_upd (f := fun u => decide (K' u ≠ 3)) h1 (decide_eq_true h3)]
  congr 1
  refine cnt_congr (fun i _ => ?_)
  unfold upB
  by_cases e : i = u0
  · rw [if_pos e, e, h2]; rfl
  · rw [if_neg e]
    exact decide_eq_decide.mpr (not_congr (h4 i e))
/-- the joining stands -/
def JS (σ : St) (w h : Nat) (U D : Nat → Bool) : Prop := ∃ K, LJ σ K ∧ KW w U D (w * h) K ∧ ZC w U D (w * h) (mk w K) (fun u => tb (gl σ 3 2) u = true) ∧ ZM w U D (w * h) (mk w K) (fun u => tb (gl σ 3 2) u = true)
def PJ : Nat → Prop := fun p => p = 13 ∨ p = 25 ∨ p = 3
theorem s_solve12 (hB : ZB U D (w * h)) : ∀ (n i : Nat) (σ : St) (K : Nat → Nat), i ≤ 64 → 64 - i < n → CG σ w h U D → LJ σ K → KW w U D (w * h) K → i ≤ mcK K → gl σ 3 2 = 0 →
    ∃ σ', f_X0_solve_12 n (nI i) σ = some ((), σ') ∧ JS σ' w h U D ∧ eqx PJ σ σ' := by
  intro n
  induction n with
  | zero => intro i σ K h1 h2; omega
  | succ n ih =>
    intro i σ K h1 h2 g hL hV hi h0
    have har := area_le g.2.1 g.2.2.2.1
    rw [f_X0_solve_12]
    by_cases h64 : 64 ≤ i
    · rw [if_pos (show (64 : Int32) ≤ nI i from nI_le (a := 64) h64 (by omega))]
      have hall : ∀ u, u < 64 → K u ≠ 3 := fun u hu z => by
        have e := cnt_upd (f := upB (fun u => decide (K u ≠ 3)) u true) (n := 64) hu (if_pos rfl)
        have e2 : cnt (upB (upB (fun u => decide (K u ≠ 3)) u true) u false) 64 = mcK K := cnt_congr (fun v _ => by
          unfold upB
          by_cases r : v = u
          · rw [if_pos r, r, z]; rfl
          · rw [if_neg r, if_neg r])
        have e3 := cnt_le (upB (fun u => decide (K u ≠ 3)) u true) 64
        omega
      refine ⟨σ, rfl, ⟨K, hL, hV, ⟨fun u hu => ?_, fun u hu _ hn => ?_, fun u d hu => ?_⟩, fun S _ _ u hu => ?_⟩, eqx.rf⟩
      · have hu' : tb (gl σ 3 2) u = true := hu
        rw [h0, tb_0] at hu'; cases hu'
      · exact absurd ((mk_none (hV.1 u).1).mp hn) (hall u (by omega))
      · have hu' : tb (gl σ 3 2) u = true := hu
        rw [h0, tb_0] at hu'; cases hu'
      · have hu' : tb (gl σ 3 2) u = true := hu
        rw [h0, tb_0] at hu'; cases hu'
    · have o1 : i + 1 ≤ 64 := by omega
      have o2 : 64 - (i + 1) < n := by omega
      rw [if_neg (show ¬ (64 : Int32) ≤ nI i from nI_ge (a := i) (b := 64) (by omega) (by decide))]
      have hse : f_X0_search σ = f_X0_search_85 FU (bdV σ) (buV σ) (0 : Int32) (sl σ 25 0 (buV σ)) := by
        unfold f_X0_search
        rw [show (0 : Int32) = nI 0 from rfl, wrL_at _ _ _ (show 0 < len 25 by decide) (by decide)]
        rfl
      have hex : eqx (fun p => p = 25) σ (sl σ 25 0 (buV σ)) := eqx.sl eqx.rf rfl
      have hL1 : LJ (sl σ 25 0 (buV σ)) K := fun c hc k hk => by rw [gl_sl_ne _ _ _ _ (by omega)]; exact hL c hc k hk
      have hS0 : SI (sl σ 25 0 (buV σ)) w h U D K (buV σ) 0 := by
        have e0 : gl (sl σ 25 0 (buV σ)) 25 0 = buV σ := gl_sl_same _ _ _ _
        refine ⟨fun u => ?_, fun u hu => ?_, fun i hi => by omega, fun i hi => by omega, fun i j hij hj => by omega, fun i hi => by omega⟩
        · constructor
          · intro q; exact ⟨0, Nat.le_refl _, by rw [e0]; exact q⟩
          · rintro ⟨i, i1, i2⟩
            have : i = 0 := by omega
            rw [this, e0] at i2
            exact i2
        · rw [e0]; exact tb_bu g hL hV hu
      have h85 := s_search85 hB hV FU 0 (sl σ 25 0 (buV σ)) (buV σ) (bdV σ) (Nat.zero_le _) (by decide) (g.keep hex (by decide)) hL1 (fun d hd => tb_bd g hL hV hd) hS0
      rw [show nI 0 = 0 from rfl] at h85
      rw [hse]
      rcases h85 with ⟨σ1, j, q1, q2, q3, ⟨come, q4⟩, q5, q6⟩ | ⟨σ1, q1, q2, q3, q4, q5⟩
      · rw [bd_at q2, if_pos (nI_pos' (by omega))]
        have hx1 := eqx.tr hex q3
        have g1 := g.keep hx1 (by decide)
        have hLs : LJ σ1 K := fun c hc k hk => by rw [(hx1 13 (by decide) _).2]; exact hL c hc k hk
        unfold f_X0_shift
        rw [show nI j + (1 : Int32) = nI (j + 1) from nI_add _ 1, rdL_at _ _ (show j + 1 < len 25 by show _ < 65; omega) (by decide), rdL_at _ _ (show j + 1 < len 25 by show _ < 65; omega) (by decide)]
        obtain ⟨d, d1, d2, -, d3⟩ := low_bit q5
        obtain ⟨f1, f2⟩ := q6 d d2
        obtain ⟨s1, s2, s3, s4, s5, s6⟩ := id q4
        obtain ⟨σ2, K2, e1, e2, e3, e4, e5, e6, -⟩ := s_shift22 (K := K) (Ly := fun i => gl σ1 25 i) hB (fun u hu => (mk_none (hV.1 u).1).mp ((s2 u (tb_lt hu)).mp hu).2) (jj := j + 1) (fun i hi u hu => SI_up hB hV q4 i (by omega) u hu) (j + 1) FU σ1 K (gl σ1 25 (j + 1) &&& -gl σ1 25 (j + 1)) (by omega) (Nat.le_refl _) (by unfold FU; omega) g1 hLs hV (fun i _ => rfl) (fun i _ u _ => rfl) (fun _ => ⟨fun _ => Iff.rfl, d, d3, f1, f2⟩) (fun i hi u hu => s3 i (by omega) u hu) (fun i j' hij hj' u hu hu' => s5 i j' hij (by omega) u hu hu')
        rw [pk_m1] at e1
        rw [bd_at e1, nI_1]
        obtain ⟨u0, m1, m2, m3, m4⟩ := e6 (by omega)
        have hmc := mcK_up m1 m2 m3 m4
        obtain ⟨σ3, c1, c2, c4⟩ := ih (i + 1) σ2 K2 o1 o2 (g1.keep e5 (by decide)) e2 e3 (by rw [hmc]; exact Nat.succ_le_succ hi) (by rw [(e5 3 (by decide) 2).2, (hx1 3 (by decide) 2).2]; exact h0)
        exact ⟨σ3, c1, c2, eqx.tr (hx1.mono (fun p hp => Or.inr (Or.inl hp))) (eqx.tr (e5.mono (fun p hp => Or.inl hp)) c4)⟩
      · rw [bd_at q1, if_neg (by decide)]
        have hx1 := eqx.tr (hex.mono (fun p hp => Or.inl hp)) q2
        exact ⟨σ1, rfl, ⟨K, fun c hc k hk => by rw [(hx1 13 (by decide) _).2]; exact hL c hc k hk, hV, q4, q5⟩, hx1.mono (fun p hp => by
          rcases hp with z | z
          · exact Or.inr (Or.inl z)
          · exact Or.inr (Or.inr z))⟩
end SHI
/-! the greedy beginning -/
def oneB (w : Nat) (U D : Nat → Bool) (N c : Nat) : Bool := (U c && !D c) && (decide (c < N ∧ c % w ≠ 0) && (D (c - 1) && !U (c - 1)))
def twoB (w : Nat) (U D : Nat → Bool) (N c : Nat) : Bool := ((U c && !D c) && !oneB w U D N c) && (decide (w ≤ c) && ((D (c - w) && !U (c - w)) && !oneB w U D N (c - w + 1)))
def Kg (w : Nat) (U D : Nat → Bool) (N c : Nat) : Nat := if (U c && D c) = true then 0 else if oneB w U D N c = true then 1 else if twoB w U D N c = true then 2 else 3
theorem Kg_0 {w : Nat} {U D : Nat → Bool} {N c : Nat} : Kg w U D N c = 0 ↔ U c = true ∧ D c = true := by
  unfold Kg
  by_cases h : (U c && D c) = true
  · rw [if_pos h, ← Bool.and_eq_true]; exact ⟨fun _ => h, fun _ => rfl⟩
  · rw [if_neg h, ← Bool.and_eq_true]
    refine ⟨fun q => ?_, fun q => absurd q h⟩
    split at q
    · cases q
    · split at q <;> cases q
theorem oneB_of {w : Nat} {U D : Nat → Bool} {N c : Nat} (h : oneB w U D N c = true) : U c = true ∧ D c = false ∧ c < N ∧ c % w ≠ 0 ∧ D (c - 1) = true ∧ U (c - 1) = false := by
  unfold oneB at h
  simp only [Bool.and_eq_true, decide_eq_true_eq, Bool.not_eq_true'] at h
  exact ⟨h.1.1, h.1.2, h.2.1.1, h.2.1.2, h.2.2.1, h.2.2.2⟩
theorem twoB_of {w : Nat} {U D : Nat → Bool} {N c : Nat} (h : twoB w U D N c = true) : U c = true ∧ D c = false ∧ oneB w U D N c = false ∧ w ≤ c ∧ D (c - w) = true ∧ U (c - w) = false ∧ oneB w U D N (c - w + 1) = false := by
  unfold twoB at h
  simp only [Bool.and_eq_true, decide_eq_true_eq, Bool.not_eq_true'] at h
  exact ⟨h.1.1.1, h.1.1.2, h.1.2, h.2.1, h.2.2.1.1, h.2.2.1.2, h.2.2.2⟩
theorem Kg_1 {w : Nat} {U D : Nat → Bool} {N c : Nat} : Kg w U D N c = 1 ↔ oneB w U D N c = true := by
  unfold Kg
  by_cases h : (U c && D c) = true
  · rw [if_pos h]
    refine ⟨fun q => (by cases q), fun q => ?_⟩
    have := (oneB_of q).2.1
    rw [this, Bool.and_false] at h
    cases h
  · rw [if_neg h]
    by_cases h1 : oneB w U D N c = true
    · rw [if_pos h1]; exact ⟨fun _ => h1, fun _ => rfl⟩
    · rw [if_neg h1]
      refine ⟨fun q => ?_, fun q => absurd q h1⟩
      split at q <;> cases q
theorem Kg_2 {w : Nat} {U D : Nat → Bool} {N c : Nat} : Kg w U D N c = 2 ↔ twoB w U D N c = true := by
  unfold Kg
  by_cases h : (U c && D c) = true
  · rw [if_pos h]
    refine ⟨fun q => (by cases q), fun q => ?_⟩
    have := (twoB_of q).2.1
    rw [this, Bool.and_false] at h
    cases h
  · rw [if_neg h]
    by_cases h1 : oneB w U D N c = true
    · rw [if_pos h1]
      refine ⟨fun q => (by cases q), fun q => ?_⟩
      have := (twoB_of q).2.2.1
      rw [h1] at this
      cases this
    · rw [if_neg h1]
      by_cases h2 : twoB w U D N c = true
      · rw [if_pos h2]; exact ⟨fun _ => h2, fun _ => rfl⟩
      · rw [if_neg h2]; exact ⟨fun q => (by cases q), fun q => absurd q h2⟩
theorem Kg_4 (w : Nat) (U D : Nat → Bool) (N c : Nat) : Kg w U D N c < 4 := by
  unfold Kg
  split
  · decide
  · split
    · decide
    · split <;> decide
theorem Kg_KW {w h : Nat} {U D : Nat → Bool} (hB : ZB U D (w * h)) : KW w U D (w * h) (Kg w U D (w * h)) := by
  have inU : ∀ c, U c = true → c < w * h := fun c q => by
    rcases Nat.lt_or_ge c (w * h) with z | z
    · exact z
    · rw [(hB c z).1] at q; cases q
  have inD : ∀ c, D c = true → c < w * h := fun c q => by
    rcases Nat.lt_or_ge c (w * h) with z | z
    · exact z
    · rw [(hB c z).2] at q; cases q
  have p1 : ∀ u, Kg w U D (w * h) u = 1 → 1 ≤ u := fun u q => by
    have := (oneB_of (Kg_1.mp q)).2.2.2.1
    rcases Nat.eq_zero_or_pos u with z | z
    · rw [z, Nat.zero_mod] at this; exact absurd rfl this
    · exact z
  have hsome : ∀ u d, mk w (Kg w U D (w * h)) u = some d → (Kg w U D (w * h) u = 0 ∧ u = d) ∨ (Kg w U D (w * h) u = 1 ∧ u = d + 1) ∨ (Kg w U D (w * h) u = 2 ∧ u = d + w) := fun u d hd => by
    unfold mk at hd
    have h4 := Kg_4 w U D (w * h) u
    by_cases k0 : Kg w U D (w * h) u = 0
    · rw [if_pos k0] at hd; exact Or.inl ⟨k0, Option.some.inj hd⟩
    · rw [if_neg k0] at hd
      by_cases k1 : Kg w U D (w * h) u = 1
      · rw [if_pos k1] at hd
        have := Option.some.inj hd
        have := p1 u k1
        exact Or.inr (Or.inl ⟨k1, by omega⟩)
      · rw [if_neg k1] at hd
        by_cases k2 : Kg w U D (w * h) u = 2
        · rw [if_pos k2] at hd
          have := Option.some.inj hd
          have := (twoB_of (Kg_2.mp k2)).2.2.2.1
          exact Or.inr (Or.inr ⟨k2, by omega⟩)
        · rw [if_neg k2] at hd; cases hd
  refine ⟨fun u => ⟨Kg_4 w U D (w * h) u, p1 u, fun q => (twoB_of (Kg_2.mp q)).2.2.2.1⟩, fun u d hd => ?_, fun u u' d hd hd' => ?_⟩
  · rcases hsome u d hd with ⟨k, e⟩ | ⟨k, e⟩ | ⟨k, e⟩
    · have := Kg_0.mp k
      rw [← e]
      exact ⟨inU u this.1, this.1, inD u this.2, this.2, Or.inl rfl⟩
    · obtain ⟨a1, a2, a3, a4, a5, a6⟩ := oneB_of (Kg_1.mp k)
      rw [e, Nat.add_sub_cancel] at a5
      exact ⟨a3, a1, inD d a5, a5, Or.inr (Or.inl ⟨a4, e.symm⟩)⟩
    · obtain ⟨a1, a2, a3, a4, a5, a6, a7⟩ := twoB_of (Kg_2.mp k)
      rw [e, Nat.add_sub_cancel] at a5
      exact ⟨inU u a1, a1, inD d a5, a5, Or.inr (Or.inr ⟨a4, e.symm⟩)⟩
  · rcases hsome u d hd with ⟨k, e⟩ | ⟨k, e⟩ | ⟨k, e⟩ <;> rcases hsome u' d hd' with ⟨k', e'⟩ | ⟨k', e'⟩ | ⟨k', e'⟩
    · rw [e, e']
    · have h1 := (Kg_0.mp k).1
      have h2 := (oneB_of (Kg_1.mp k')).2.2.2.2.2
      rw [e', Nat.add_sub_cancel, ← e, h1] at h2
      cases h2
    · have h1 := (Kg_0.mp k).1
      have h2 := (twoB_of (Kg_2.mp k')).2.2.2.2.2.1
      rw [e', Nat.add_sub_cancel, ← e, h1] at h2
      cases h2
    · have h1 := (Kg_0.mp k').1
      have h2 := (oneB_of (Kg_1.mp k)).2.2.2.2.2
      rw [e, Nat.add_sub_cancel, ← e', h1] at h2
      cases h2
    · rw [e, e']
    · have h1 := Kg_1.mp k
      have h2 := (twoB_of (Kg_2.mp k')).2.2.2.2.2.2
      rw [e', Nat.add_sub_cancel, ← e, h1] at h2
      cases h2
    · have h1 := (Kg_0.mp k').1
      have h2 := (twoB_of (Kg_2.mp k)).2.2.2.2.2.1
      rw [e, Nat.add_sub_cancel, ← e', h1] at h2
      cases h2
    · have h1 := Kg_1.mp k'
      have h2 := (twoB_of (Kg_2.mp k)).2.2.2.2.2.2
      rw [e, Nat.add_sub_cancel, ← e', h1] at h2
      cases h2
    · rw [e, e']
theorem s_layGreedily {σ : St} {w h : Nat} {U D : Nat → Bool} (g : CG σ w h U D) (hB : ZB U D (w * h)) : ∃ σ', f_X0_layGreedily σ = some ((), σ') ∧ LJ σ' (Kg w U D (w * h)) ∧ eqx (fun p => p = 13) σ σ' := by
  have hw8 := g.2.1
  have har := area_le g.2.1 g.2.2.2.1
  unfold f_X0_layGreedily
  rw [fL_at, fL_at, fL_at, gl_sl_same, gl_sl_same]
  have r1 : ∀ k v, gl (sl σ 13 1 v) 1 k = gl σ 1 k := fun k v => gl_sl_ne _ _ _ _ (by omega)
  rw [r1, r1, r1]
  rw [show gi (sl (sl σ 13 1 (gl σ 1 3 &&& gl σ 1 4)) 13 2 _) 1 0 = nI w from g.2.2.2.2.1]
  generalize hA : gl σ 1 3 &&& gl σ 1 4 = A
  generalize hX : ((gl σ 1 3 &&& (A ^^^ -1)) &&& gl σ 1 5) &&& lshl (gl σ 1 4 &&& (A ^^^ -1)) 1 = X
  generalize hC : ((gl σ 1 3 &&& (A ^^^ -1)) &&& (X ^^^ -1)) &&& lshl ((gl σ 1 4 &&& (A ^^^ -1)) &&& (lushr X 1 ^^^ -1)) (nI w) = C
  have eU := g.2.2.2.2.2.2.2.1
  have eD := g.2.2.2.2.2.2.2.2.1
  have eE := g.2.2.2.2.2.2.2.2.2
  have tA : ∀ c, c < 64 → tb A c = (U c && D c) := fun c hc => by rw [← hA, tb_and, eU c hc, eD c hc]
  have tX : ∀ c, c < 64 → tb X c = oneB w U D (w * h) c := fun c hc => by
    rw [← hX, show (1 : Int32) = nI 1 from rfl, tb_and, tb_and, tb_and, tb_not _ hc, tb_lshl _ (by decide), eU c hc, tA c hc, eE c hc, tb_and, tb_not _ (show c - 1 < 64 by omega), eD _ (by omega), tA _ (by omega), decide_eq_true hc]
    unfold oneB eastB
    by_cases h0 : c % w = 0
    · simp [h0]
    · have h1 : 1 ≤ c := by
        rcases Nat.eq_zero_or_pos c with z | z
        · rw [z, Nat.zero_mod] at h0; exact absurd rfl h0
        · exact z
      rw [decide_eq_true h1]
      cases U c <;> cases D c <;> cases U (c - 1) <;> cases D (c - 1) <;> by_cases z : c < w * h <;> simp [h0, z]
  have tXb : ∀ c, tb X c = true → oneB w U D (w * h) c = true := fun c q => by rw [← tX c (tb_lt q)]; exact q
  have tC : ∀ c, c < 64 → tb C c = twoB w U D (w * h) c := fun c hc => by
    rw [← hC, show (1 : Int32) = nI 1 from rfl, tb_and, tb_and, tb_and, tb_not _ hc, tb_not _ hc, tb_lshl _ (by omega), eU c hc, tA c hc, tX c hc, tb_and, tb_and, tb_not _ (show c - w < 64 by omega), tb_not _ (show c - w < 64 by omega), eD _ (by omega), tA _ (by omega), tb_lushr _ (by decide), decide_eq_true hc]
    unfold twoB
    by_cases hq : w ≤ c
    · have e1 : tb X (1 + (c - w)) = oneB w U D (w * h) (c - w + 1) := by
        rw [Nat.add_comm]
        have := g.1
        exact tX _ (by omega)
      rw [e1, decide_eq_true hq]
      cases U c <;> cases D c <;> cases U (c - w) <;> cases D (c - w) <;> cases oneB w U D (w * h) c <;> cases oneB w U D (w * h) (c - w + 1) <;> rfl
    · simp [hq]
  refine ⟨_, rfl, fun c hc k hk => ?_, eqx.sl (eqx.sl (eqx.sl eqx.rf rfl) rfl) rfl⟩
  rw [gl_sl, gl_sl, gl_sl]
  have bb : ∀ (b : Bool) (p : Prop) [Decidable p], (p ↔ b = true) → b = decide p := fun b p _ hp => by
    cases b with
    | true => exact (decide_eq_true (hp.mpr rfl)).symm
    | false => exact (decide_eq_false (fun z => by have := hp.mp z; cases this)).symm
  rcases (show k = 0 ∨ k = 1 ∨ k = 2 by omega) with e | e | e <;> subst e
  · simp only [Nat.zero_add, true_and]
    rw [if_neg (by decide), if_neg (by decide), if_pos trivial, tA c hc]
    exact bb _ _ (by rw [Kg_0, Bool.and_eq_true])
  · simp only [true_and]
    rw [if_neg (by decide), if_pos trivial, tX c hc]
    exact bb _ _ Kg_1
  · simp only [true_and]
    rw [if_pos trivial, tC c hc]
    exact bb _ _ Kg_2
theorem s_solve {σ : St} {w h : Nat} {U D : Nat → Bool} (g : CG σ w h U D) (hB : ZB U D (w * h)) : ∃ σ', f_X0_solve σ = some ((), σ') ∧ JS σ' w h U D ∧ eqx PJ σ σ' := by
  obtain ⟨σ1, e1, e2, e3⟩ := s_layGreedily g hB
  unfold f_X0_solve
  rw [bd_at e1, fL_at]
  have hx : eqx (fun p => p = 3) σ1 (sl σ1 3 2 0) := eqx.sl eqx.rf rfl
  obtain ⟨σ2, d1, d2, d3⟩ := s_solve12 hB FU 0 (sl σ1 3 2 0) (Kg w U D (w * h)) (Nat.zero_le _) (by decide) ((g.keep e3 (by decide)).keep hx (by decide)) (fun c hc k hk => by rw [gl_sl_ne _ _ _ _ (by omega)]; exact e2 c hc k hk) (Kg_KW hB) (Nat.zero_le _) (gl_sl_same _ _ _ _)
  exact ⟨σ2, d1, d2, eqx.tr (e3.mono (fun p hp => Or.inl hp)) (eqx.tr (hx.mono (fun p hp => Or.inr (Or.inr hp))) d3)⟩
