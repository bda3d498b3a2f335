/-! ===== HALF 2: free, turn, apart, end, reach, mirror ===== -/
theorem m_free {σ : St} {w h : Nat} {U D : Nat → Bool} {wt : Nat → Nat → Int} (h0 : RZ σ w h U D wt) (a : Int32) (hi : Bool) : Both (f_X5_free a (bI hi)) (f_X6_free a (bI hi)) σ := by
  have har := area_le h0.1.1.2.1 h0.1.1.2.2.2.1
  have h81 := pp_le h0.1.1.2.1 h0.1.1.2.2.2.1
  unfold Both f_X5_free f_X5_free_58 f_X6_free
  rcases gate a (show 4 < 2 ^ 31 by decide) with ha | ⟨s, hs, rfl⟩
  · rw [bd_at (g5_noslot ha), if_pos rfl]
    refine ⟨_, σ, σ, rfl, ?_, h0.rel⟩
    rw [bd_at (g6_noslot ha), if_pos rfl]
  · rw [bd_at (g5_slot hs), if_neg (by decide), slot_rd hs]
    rcases h0.sl hs with ⟨q1, q2⟩ | ⟨q1, q2, K, k1, k2, k3⟩
    · rw [if_pos q1]
      refine ⟨_, σ, σ, rfl, ?_, h0.rel⟩
      rw [bd_at (g6_slot hs), if_neg (by decide), rd29 hs, if_pos q2]
    · rw [if_neg (by rw [q1]; decide)]
      have h27 := s_free27 hs h0.1.2.2.1 k3 (LL_4 k1) (!hi) FU 0 (Nat.zero_le _) (by unfold FU; omega)
      rw [Bool.not_not] at h27
      have hsame := free_same h0.1.1 h0.1.2.1 k2 (!hi)
      have hc : (if bI hi = 0 then rdR (nI s) fun p4 => bd (f_X2_lows p4 σ) fun v5 σ6 => bd (f_J13_bitCount_95d88 v5 σ6) fun v1 σ2 => some (v1, σ2) else rdR (nI s) fun p7 => bd (f_X2_highs p7 σ) fun v8 σ9 => bd (f_J13_bitCount_95d88 v8 σ9) fun v1 σ2 => some (v1, σ2)) = some (nI (pc (ptsV σ (5 + s) (!hi))), σ) := by
        cases hi with
        | false => rw [if_pos bI_f, slot_rd hs, bd_at (s_lows _ σ), bd_at (s_bitCount _ σ)]; rfl
        | true => rw [if_neg bIt, slot_rd hs, bd_at (s_highs _ σ), bd_at (s_bitCount _ σ)]; rfl
      refine ⟨_, σ, σ, hc, ?_, h0.rel⟩
      rw [bd_at (g6_slot hs), if_neg (by decide), rd29 hs, if_neg (by rw [q2]; decide), hsame]
      exact h27
theorem m_turn {σ : St} {w h : Nat} {U D : Nat → Bool} {wt : Nat → Nat → Int} (h0 : RZ σ w h U D wt) (a b c : Int32) : Both (f_X5_turn a b c) (f_X6_turn a b c) σ := by
  have har := area_le h0.1.1.2.1 h0.1.1.2.2.2.1
  unfold Both f_X5_turn f_X5_turn_19 f_X5_turn_76 f_X5_turn_101 f_X5_turn_127 f_X6_turn f_X6_turn_16 f_X6_turn_39 f_X6_turn_69
  rcases gate a (show 4 < 2 ^ 31 by decide) with ha | ⟨s, hs, rfl⟩
  · rw [bd_at (g5_noslot ha), if_pos rfl]
    refine ⟨_, σ, σ, rfl, ?_, h0.rel⟩
    rw [bd_at (g6_noslot ha), if_pos rfl]
  · rw [bd_at (g5_slot hs), if_neg (by decide)]
    rcases pt_gate h0.1.1.2.1 h0.1.1.2.2.2.1 b c with ⟨x, y, hx, hy, rfl, rfl⟩ | ⟨hq, hn⟩
    · have hp6 : f_X6_isPoint (nI x) (nI y) σ = some (1, σ) := by
        have hw := h0.1.1.2.1
        have hh := h0.1.1.2.2.2.1
        rw [s_isPt h0.1.2.2.1 (by omega) (by omega), decide_eq_true ⟨hx, hy⟩]
        rfl
      rw [bd_at (g5_pt h0.1.1 hx hy), if_neg (by decide), slot_rd hs]
      rcases h0.sl hs with ⟨q1, q2⟩ | ⟨q1, q2, K, k1, k2, k3⟩
      · obtain ⟨v, e1, -⟩ := s_ptBit h0.1.1 hx hy
        rw [bd_at e1, if_pos q1]
        refine ⟨_, σ, σ, rfl, ?_, h0.rel⟩
        rw [bd_at (g6_slot hs), if_neg (by decide), bd_at hp6, if_neg (by decide), rd29 hs, if_pos q2]
      · obtain ⟨v, e1, e2, e3, e4⟩ := pt_bits h0.1.1 h0.1.2.1 k2 hx hy
        have hpt := s_pointOf h0.1.2.2.1 hs k3 (LL_4 k1) hx hy
        have hlt := ptN_lt w U D (w * h) K (y * w + x)
        have pt := fun t => ptN_at w U D (w * h) K (y * w + x) t
        have hor : ((ptsV σ (5 + s) true ||| ptsV σ (5 + s) false) &&& v) = 0 ↔ ((ptsV σ (5 + s) true &&& v) = 0 ∧ (ptsV σ (5 + s) false &&& v) = 0) := by
          rw [tb_eq0, tb_eq0, tb_eq0]
          constructor
          · intro z
            refine ⟨fun i hi => ?_, fun i hi => ?_⟩
            · have := z i hi
              rw [tb_and, tb_or] at this
              rw [tb_and]
              revert this
              cases tb (ptsV σ (5 + s) true) i <;> cases tb (ptsV σ (5 + s) false) i <;> cases tb v i <;> simp
            · have := z i hi
              rw [tb_and, tb_or] at this
              rw [tb_and]
              revert this
              cases tb (ptsV σ (5 + s) true) i <;> cases tb (ptsV σ (5 + s) false) i <;> cases tb v i <;> simp
          · rintro ⟨z1, z2⟩ i hi
            have y1 := z1 i hi
            have y2 := z2 i hi
            rw [tb_and] at y1 y2
            rw [tb_and, tb_or]
            revert y1 y2
            cases tb (ptsV σ (5 + s) true) i <;> cases tb (ptsV σ (5 + s) false) i <;> cases tb v i <;> simp
        rw [bd_at e1, if_neg (by rw [q1]; decide), bd_at (s_lows _ σ), bd_at (s_highs _ σ)]
        by_cases hno : ¬ atP w U D (w * h) true K (y * w + x) ∧ ¬ atP w U D (w * h) false K (y * w + x)
        · rw [if_pos (hor.mpr ⟨(e3 true).mpr hno.1, (e3 false).mpr hno.2⟩)]
          refine ⟨_, σ, σ, rfl, ?_, h0.rel⟩
          have n2 : ptN w U D (w * h) K (y * w + x) ≠ 2 := fun z => hno.1 ((pt true).mp z)
          have n3 : ptN w U D (w * h) K (y * w + x) ≠ 3 := fun z => hno.2 ((pt false).mp z)
          rw [bd_at (g6_slot hs), if_neg (by decide), bd_at hp6, if_neg (by decide), rd29 hs, if_neg (by rw [q2]; decide), bd_at hpt, if_neg (show ¬ (2 : Int32) ≤ nI _ from nI_ge (b := 2) (by omega) (by decide))]
        · rw [if_neg (fun z => by have := hor.mp z; exact hno ⟨(e3 true).mp this.1, (e3 false).mp this.2⟩), bd_at (s_lows _ σ)]
          -- the POINT is turned
          have fin : ∀ t : Bool, atP w U D (w * h) t K (y * w + x) → ∃ σ1 σ2, (bd (f_X2_flip (5 + s) v (gi σ 1 0) σ) fun _ σ2 => if bI t = 0 then some ((0 : Int32), σ2) else some ((1 : Int32), σ2)) = some (bI t, σ1) ∧ (bd (f_X6_isSlot (nI s) σ1) fun v1 σ2 => if v1 = 0 then some ((-900001 : Int32), σ2) else bd (f_X6_isPoint (nI x) (nI y) σ2) fun v3 σ4 => if v3 = 0 then some ((-900001 : Int32), σ4) else rdI σ4 29 (nI s) fun v5 => if v5 = 0 then some ((-900003 : Int32), σ4) else bd (f_X6_pointOf (nI s) (nI x) (nI y) σ4) fun v6 σ7 => if (2 : Int32) ≤ v6 then bd (f_X6_pointOf (nI s) (nI x) (nI y) σ7) fun v8 σ9 => bd (f_X6_turnOver (nI s) (nI x) (nI y) σ9) fun _ σ11 => if v8 = (2 : Int32) then some ((1 : Int32), σ11) else some ((0 : Int32), σ11) else some ((-900003 : Int32), σ7)) = some (bI t, σ2) ∧ Rel σ2 := by
            intro t hat
            have hfl := flipS_eqx σ (5 + s) w v
            have hv := e4 hat.1
            have hLC : LC (flipS σ (5 + s) w v) (5 + s) (w * h) U (tu w t K (y * w + x)) := by rw [hv]; exact LC_flip h0.1.1.1 h0.1.1.2.1 har k2 hat
            have g1 := h0.1.2.2.1.keep hfl (by omega) (by omega)
            have k3' : LM (flipS σ (5 + s) w v) s (w * h) K := k3
            obtain ⟨σ2, d1, d2, d3⟩ := s_turnOver g1 hs k3' hat
            have hpt1 := s_pointOf g1 hs k3' (LL_4 k1) hx hy
            have hp61 : f_X6_isPoint (nI x) (nI y) (flipS σ (5 + s) w v) = some (1, flipS σ (5 + s) w v) := by
              have hw := h0.1.1.2.1
              have hh := h0.1.1.2.2.2.1
              rw [s_isPt g1 (by omega) (by omega), decide_eq_true ⟨hx, hy⟩]
              rfl
            refine ⟨flipS σ (5 + s) w v, σ2, ?_, ?_, ?_⟩
            · rw [h0.1.1.2.2.2.2.1, bd_at (s_flip _ w v σ)]
              cases t <;> rfl
            · have hpv := (pt t).mpr hat
              rw [bd_at (g6_slot hs), if_neg (by decide), bd_at hp61, if_neg (by decide), rd29 hs, if_neg (show ¬ gi (flipS σ (5 + s) w v) 29 s = 0 by show ¬ gi σ 29 s = 0; rw [q2]; decide), bd_at hpt1, hpv, if_pos (by cases t <;> decide), bd_at hpt1, hpv, bd_at d1]
              cases t <;> rfl
            · refine (h0.slot hs (fun p k z1 z2 z3 z4 => ?_) (fun p k z1 z2 => ?_) ?_).rel
              · rw [d3.2 p k z4, (hfl p z1 k).1]
              · have : gl σ2 p k = gl (flipS σ (5 + s) w v) p k := by unfold gl; rw [d3.1]
                rw [this, (hfl p z1 k).2]
              · refine Or.inr ⟨?_, ?_, tu w t K (y * w + x), tu_LL h0.1.1.1 hat k1, ?_, d2⟩
                · rw [d3.2 _ _ (by omega)]; exact q1
                · rw [d3.2 _ _ (by omega)]; exact q2
                · intro c hc k hk
                  have : gl σ2 (5 + s) (k + 1) = gl (flipS σ (5 + s) w v) (5 + s) (k + 1) := by unfold gl; rw [d3.1]
                  rw [this]
                  exact hLC c hc k hk
          by_cases hl : atP w U D (w * h) true K (y * w + x)
          · rw [if_neg (fun z => (e3 true).mp z hl)]
            obtain ⟨σ1, σ2, r1, r2, r3⟩ := fin true hl
            exact ⟨_, σ1, σ2, r1, r2, r3⟩
          · have hg : atP w U D (w * h) false K (y * w + x) := by
              apply Classical.byContradiction
              intro z
              exact hno ⟨hl, z⟩
            rw [if_pos ((e3 true).mpr hl)]
            obtain ⟨σ1, σ2, r1, r2, r3⟩ := fin false hg
            exact ⟨_, σ1, σ2, r1, r2, r3⟩
    · rw [bd_at (g5_nopt h0.1.1 hq), if_pos rfl]
      refine ⟨_, σ, σ, rfl, ?_, h0.rel⟩
      rw [bd_at (g6_slot hs), if_neg (by decide), bd_at (s_isPoint h0.1.2.2.1 b c), decide_eq_false hn, if_pos bI_f]
theorem m_end {σ : St} {w h : Nat} {U D : Nat → Bool} {wt : Nat → Nat → Int} (h0 : RZ σ w h U D wt) (a : Int32) (t : Bool) : Both (f_X5_end a (bI t)) (f_X6_end a (bI t)) σ := by
  have har := area_le h0.1.1.2.1 h0.1.1.2.2.2.1
  unfold Both f_X5_end f_X6_end
  rcases gate a (show 4 < 2 ^ 31 by decide) with ha | ⟨s, hs, rfl⟩
  · rw [bd_at (g5_noslot ha), if_pos rfl]
    refine ⟨_, σ, σ, rfl, ?_, h0.rel⟩
    rw [bd_at (g6_noslot ha), if_pos rfl]
  · rw [bd_at (g5_slot hs), if_neg (by decide), slot_rd hs]
    rcases h0.sl hs with ⟨q1, q2⟩ | ⟨q1, q2, K, k1, k2, k3⟩
    · rw [if_pos q1]
      refine ⟨_, σ, σ, rfl, ?_, h0.rel⟩
      rw [bd_at (g6_slot hs), if_neg (by decide), rd29 hs, if_pos q2]
    · obtain ⟨σ1, M, m, e1, e2, e3, e4, e5, e6⟩ := s_toEnd (q := 5 + s) (by omega) t h0.1.1 h0.1.2.1 k2
      rw [if_neg (by rw [q1]; decide), slot_rd hs, bd_at e1]
      have g1 := h0.1.2.2.1.keep e6 (by omega) (by omega)
      have hme := mea_le (t := t) h0.1.1.2.1 har K
      obtain ⟨σ2, M', m', d1, d2, d3, d4, d5⟩ := s_end27 hs t FU 0 K σ1 (by unfold FU; omega) g1 (fun c hc => by rw [(e6 30 (by omega) _).1]; exact k3 c hc) k1
      obtain ⟨hm, hM⟩ := UpN_same h0.1.1.1 e2 e3 d2 d3
      refine ⟨nI m, σ1, σ2, rfl, ?_, ?_⟩
      · rw [bd_at (g6_slot hs), if_neg (by decide), rd29 hs, (e6 29 (by omega) s).1, if_neg (by rw [q2]; decide)]
        have d1' : f_X6_end_27 FU (nI s) (bI t) (0 : Int32) (1 : Int32) σ1 = some (nI (0 + m'), σ2) := d1
        rw [d1', Nat.zero_add, hm]
      · refine (h0.slot hs (fun p k z1 z2 z3 z4 => ?_) (fun p k z1 z2 => ?_) ?_).rel
        · rw [d5.2 p k z4, (e6 p z1 k).1]
        · have : gl σ2 p k = gl σ1 p k := by unfold gl; rw [d5.1]
          rw [this, (e6 p z1 k).2]
        · refine Or.inr ⟨?_, ?_, M, UpN_LL h0.1.1.1 e2 k1, ?_, by rw [hM]; exact d4⟩
          · rw [d5.2 _ _ (by omega)]
            unfold gi
            rw [e5]
            exact q1
          · rw [d5.2 _ _ (by omega)]
            unfold gi
            rw [e5]
            exact q2
          · intro c hc k hk
            have : gl σ2 (5 + s) (k + 1) = gl σ1 (5 + s) (k + 1) := by unfold gl; rw [d5.1]
            rw [this]
            exact e4 c hc k hk
theorem m_apart {σ : St} {w h : Nat} {U D : Nat → Bool} {wt : Nat → Nat → Int} (h0 : RZ σ w h U D wt) (a b : Int32) : Both (f_X5_apart a b) (f_X6_apart a b) σ := by
  have har := area_le h0.1.1.2.1 h0.1.1.2.2.2.1
  unfold Both f_X5_apart f_X5_apart_14 f_X5_apart_41 f_X5_apart_78 f_X6_apart f_X6_apart_14 f_X6_apart_35
  rcases gate a (show 4 < 2 ^ 31 by decide) with ha | ⟨s, hs, rfl⟩
  · rw [bd_at (g5_noslot ha), if_pos rfl]
    refine ⟨_, σ, σ, rfl, ?_, h0.rel⟩
    rw [bd_at (g6_noslot ha), if_pos rfl]
  · rw [bd_at (g5_slot hs), if_neg (by decide)]
    rcases gate b (show 4 < 2 ^ 31 by decide) with hb | ⟨o, ho, rfl⟩
    · rw [bd_at (g5_noslot hb), if_pos rfl]
      refine ⟨_, σ, σ, rfl, ?_, h0.rel⟩
      rw [bd_at (g6_slot hs), if_neg (by decide), bd_at (g6_noslot hb), if_pos rfl]
    · rw [bd_at (g5_slot ho), if_neg (by decide), slot_rd hs]
      rcases h0.sl hs with ⟨q1, q2⟩ | ⟨q1, q2, K1, k1, k2, k3⟩
      · rw [if_pos q1]
        refine ⟨_, σ, σ, rfl, ?_, h0.rel⟩
        rw [bd_at (g6_slot hs), if_neg (by decide), bd_at (g6_slot ho), if_neg (by decide), rd29 hs, if_pos q2]
      · rw [if_neg (by rw [q1]; decide), slot_rd ho]
        rcases h0.sl ho with ⟨p1, p2⟩ | ⟨p1, p2, K2, l1, l2, l3⟩
        · rw [if_pos p1]
          refine ⟨_, σ, σ, rfl, ?_, h0.rel⟩
          rw [bd_at (g6_slot hs), if_neg (by decide), bd_at (g6_slot ho), if_neg (by decide), rd29 hs, if_neg (by rw [q2]; decide), rd29 ho, if_pos p2]
        · obtain ⟨σ1, r, e1, e2, e3, e4⟩ := s_between (a := 5 + s) (b := 5 + o) (by omega) (by omega) h0.1.1 h0.1.2.1 k2 l2 k1 l1 q1 p1
          rw [if_neg (by rw [p1]; decide), slot_rd hs, slot_rd ho, bd_at e1]
          have hR1 := h0.scr' e4 (fun p hp => by unfold P101124 at hp; unfold SCR; omega)
          have k3' : LM σ1 s (w * h) K1 := fun c hc => by rw [(e4 30 (by unfold P101124; omega) _).1]; exact k3 c hc
          have l3' : LM σ1 o (w * h) K2 := fun c hc => by rw [(e4 30 (by unfold P101124; omega) _).1]; exact l3 c hc
          obtain ⟨σ2, r', d1, d2, d3, d4⟩ := s_apart40 hs ho k1 l1 FU 0 σ1 (Nat.zero_le _) (by decide) ⟨hR1.1.2.2.1, k3', l3'⟩ (fun q hq => by omega)
          have hR2 := hR1.scr' d4 (fun p hp => by unfold P45 at hp; unfold SCR; omega)
          have ref : (bd (f_X6_isSlot (nI s) σ1) fun v1 σ2 => if v1 = 0 then some ((-900001 : Int32), σ2) else bd (f_X6_isSlot (nI o) σ2) fun v3 σ4 => if v3 = 0 then some ((-900001 : Int32), σ4) else rdI σ4 29 (nI s) fun v5 => if v5 = 0 then some ((-900003 : Int32), σ4) else rdI σ4 29 (nI o) fun v6 => if v6 = 0 then some ((-900003 : Int32), σ4) else f_X6_apart_40 FU (nI s) (nI o) (0 : Int32) σ4) = some (r', σ2) := by
            rw [bd_at (g6_slot hs), if_neg (by decide), bd_at (g6_slot ho), if_neg (by decide), rd29 hs, (e4 29 (by unfold P101124; omega) s).1, if_neg (by rw [q2]; decide), rd29 ho, (e4 29 (by unfold P101124; omega) o).1, if_neg (by rw [p2]; decide)]
            exact d1
          by_cases hag : agr w h U D K1 K2
          · have hsum := apart_sum h0.1.1.1 h0.1.1.2.1 h0.1.1.2.2.2.1 k1 l1 hag
            have hb : ∀ n, sm (fun p => (Rr w K2 p - Rr w K1 p).natAbs) n ≤ 100 * n := by
              intro n
              induction n with
              | zero => exact Nat.le_refl _
              | succ n ih =>
                show sm (fun p => (Rr w K2 p - Rr w K1 p).natAbs) n + (Rr w K2 n - Rr w K1 n).natAbs ≤ _
                have := Rr_le h0.1.1.1 h0.1.1.2.1 K1 n
                have := Rr_le h0.1.1.1 h0.1.1.2.1 K2 n
                omega
            have hb64 := hb 64
            rw [e2 hag, if_pos (nI_pos' (by omega))]
            refine ⟨_, σ1, σ2, rfl, ?_, hR2.rel⟩
            rw [hsum, ← d2 hag]
            exact ref
          · rw [e3 hag, if_neg (by decide)]
            refine ⟨_, σ1, σ2, rfl, ?_, hR2.rel⟩
            rw [← d3 hag]
            exact ref
theorem m_reach {σ : St} {w h : Nat} {U D : Nat → Bool} {wt : Nat → Nat → Int} (h0 : RZ σ w h U D wt) (a : Int32) : Both (f_X5_reach a) (f_X6_reach a) σ := by
  have har := area_le h0.1.1.2.1 h0.1.1.2.2.2.1
  unfold Both f_X5_reach f_X5_reach_59 f_X6_reach
  rcases gate a (show 4 < 2 ^ 31 by decide) with ha | ⟨s, hs, rfl⟩
  · rw [bd_at (g5_noslot ha), if_pos rfl]
    refine ⟨_, σ, σ, rfl, ?_, h0.rel⟩
    rw [bd_at (g6_noslot ha), if_pos rfl]
  · rw [bd_at (g5_slot hs), if_neg (by decide), slot_rd hs]
    rcases h0.sl hs with ⟨q1, q2⟩ | ⟨q1, q2, K, k1, k2, k3⟩
    · rw [if_pos q1]
      refine ⟨_, σ, σ, rfl, ?_, h0.rel⟩
      rw [bd_at (g6_slot hs), if_neg (by decide), rd29 hs, if_pos q2]
    · obtain ⟨σ1, B, n, e1, e2, e3, e4, e5⟩ := s_family (q := 5 + s) (by omega) h0.1.1 h0.1.2.1 k2 k1 q1 h0.1.2.2.2.2.2.2
      rw [if_neg (by rw [q1]; decide), slot_rd hs, bd_at e1]
      have hnP : ∀ p, P1012 p → p = 10 ∨ p = 12 ∨ p = 4 := fun p hp => hp
      obtain ⟨⟨a1, a2, a3, a4, a5, a6, a7⟩, b1', b2'⟩ := id h0
      have hR1 : RZ σ1 w h U D wt := ⟨⟨a1.keep e5 (by unfold P1012; omega), a2.keep e5 (by unfold P1012; omega), a3.keep e5 (by unfold P1012; omega) (by unfold P1012; omega), a4, a5.keep e5 (by unfold P1012; omega) (by unfold P1012; omega), fun s' hs' => (a6 s' hs').keep hs' e5 (by unfold P1012; omega) (by unfold P1012; omega) (by unfold P1012; omega), e4⟩, b1'.keep e5 (by unfold P1012; omega) (by unfold P1012; omega), b2'.keep e5 (by unfold P1012; omega) (by unfold P1012; omega) (by unfold P1012; omega)⟩
      have k3' : LM σ1 s (w * h) K := fun c hc => by rw [(e5 30 (by unfold P1012; omega) _).1]; exact k3 c hc
      obtain ⟨σ2, r, d1, d2, d3⟩ := s_reach24 hs k1 FU 0 σ1 (Nat.zero_le _) (by decide) hR1.1.2.2.1 k3' (fun c hc => by omega)
      have hcf := cf_Rch h0.1.1.1 h0.1.1.2.1 har e2 e3
      have hrr := Rch_one hcf d2
      have hcb : cf w U D (w * h) B < 3000 := by unfold cf; split <;> omega
      have hc : (if nI (cf w U D (w * h) B) ≤ (2000 : Int32) then some (nI (cf w U D (w * h) B), σ1) else some ((-900005 : Int32), σ1)) = some (r, σ1) := by
        rw [← hrr]
        by_cases z : cf w U D (w * h) B ≤ 2000
        · rw [if_pos z, if_pos (show nI _ ≤ (2000 : Int32) from nI_le (b := 2000) z (by decide))]
        · rw [if_neg z, if_neg (show ¬ nI _ ≤ (2000 : Int32) from nI_ge (a := 2000) (by omega) (by omega))]
      refine ⟨r, σ1, σ2, hc, ?_, ?_⟩
      · rw [bd_at (g6_slot hs), if_neg (by decide), rd29 hs, (e5 29 (by unfold P1012; omega) s).1, if_neg (by rw [q2]; decide)]
        exact d1
      · obtain ⟨⟨c1, c2, c3, c4, c5, c6, c7⟩, c8, c9⟩ := hR1
        have hI : ∀ p, p ≠ 26 → p ≠ 38 → p ≠ 39 → ∀ k, gi σ2 p k = gi σ1 p k := fun p h1 h2 h3 k => d3.1 p k (fun z => h1 z.1) h2 h3
        have hex : eqx (fun p => p = 26 ∨ p = 36 ∨ p = 37 ∨ p = 38 ∨ p = 39) σ1 σ2 := fun p hp k => ⟨hI p (by omega) (by omega) (by omega) k, d3.2 p k (by omega) (by omega)⟩
        have hM : MG σ2 w h U D := by
          obtain ⟨m1, m2, m3, m4, m5, m6, m7⟩ := c3
          exact ⟨m1, m2, m3, m4, by rw [d3.1 26 0 (by omega) (by omega) (by omega)]; exact m5, by rw [d3.1 26 1 (by omega) (by omega) (by omega)]; exact m6, fun c hc => by rw [hI 27 (by omega) (by omega) (by omega), hI 27 (by omega) (by omega) (by omega)]; exact m7 c hc⟩
        exact RZ.rel ⟨⟨c1.keep hex (by omega), c2.keep hex (by omega), hM, c4, c5.keep hex (by omega) (by omega), fun s' hs' => (c6 s' hs').keep hs' hex (by omega) (by omega) (by omega), c7.keep hex (by omega) (by omega)⟩, c8.keep hex (by omega) (by omega), c9.keep hex (by omega) (by omega) (by omega)⟩
theorem m_mirror {σ : St} {w h : Nat} {U D : Nat → Bool} {wt : Nat → Nat → Int} (h0 : RZ σ w h U D wt) (a : Int32) : Both (f_X5_mirror a) (f_X6_mirror a) σ := by
  have har := area_le h0.1.1.2.1 h0.1.1.2.2.2.1
  obtain ⟨g1, g2, g3, g4, g5, g6, g7, g8, g9, g10⟩ := id h0.1.1
  obtain ⟨m1, m2, m3, m4, m5, m6, m7⟩ := id h0.1.2.2.1
  unfold Both f_X5_mirror f_X5_mirror_34 f_X6_mirror f_X6_mirror_34 f_X6_mirror_35
  rcases gate a (show 4 < 2 ^ 31 by decide) with ha | ⟨s, hs, rfl⟩
  · rw [bd_at (g5_noslot ha), if_pos rfl]
    refine ⟨_, σ, σ, rfl, ?_, h0.rel⟩
    rw [bd_at (g6_noslot ha), if_pos rfl]
  · rw [bd_at (g5_slot hs), if_neg (by decide), slot_rd hs]
    have no38 : f_X6_mirror_38 FU (nI s) (0 : Int32) (0 : Int32) σ = some (-900003, σ) := s_mir38n h0.1.2.2.1 999999 0 (Nat.zero_le _)
    rcases h0.sl hs with ⟨q1, q2⟩ | ⟨q1, q2, K, k1, k2, k3⟩
    · rw [if_pos q1]
      refine ⟨_, σ, σ, rfl, ?_, h0.rel⟩
      rw [bd_at (g6_slot hs), if_neg (by decide), rd29 hs, if_pos q2]
      exact no38
    · rw [if_neg (by rw [q1]; decide)]
      by_cases hsy : w = h ∧ sym w U ∧ sym w D
      · obtain ⟨rfl, hsU, hsD⟩ := hsy
        rw [bd_at ((s_isSymmetric h0.1.1 h0.1.2.2.2.1).1 ⟨rfl, hsU, hsD⟩), if_neg (by decide)]
        obtain ⟨t0, a1, a2⟩ := s_across (gl σ (5 + s) 1) g1 g2 g5 g6
        rw [bd_at a1, fL_at, gl_sl_ne _ _ _ _ (show ¬ (5 + s = 9 ∧ 3 = 1) by omega)]
        obtain ⟨t1, b1', b2'⟩ := s_across (σ := sl σ 9 1 t0) (gl σ (5 + s) 3) g1 g2 g5 g6
        rw [bd_at b1', fL_at, gl_sl_ne _ _ _ _ (show ¬ (5 + s = 9 ∧ 2 = 2) by omega), gl_sl_ne _ _ _ _ (show ¬ (5 + s = 9 ∧ 2 = 1) by omega)]
        obtain ⟨t2, c1, c2⟩ := s_across (σ := sl (sl σ 9 1 t0) 9 2 t1) (gl σ (5 + s) 2) g1 g2 g5 g6
        rw [bd_at c1, fL_at, fI_at]
        have hx9 : eqx (fun p => p = 9) σ (si (sl (sl (sl σ 9 1 t0) 9 2 t1) 9 3 t2) 9 0 1) := eqx.si (eqx.sl (eqx.sl (eqx.sl eqx.rf rfl) rfl) rfl) rfl
        have v1 : gl (si (sl (sl (sl σ 9 1 t0) 9 2 t1) 9 3 t2) 9 0 1) 9 1 = t0 := by rw [gl_si, gl_sl_ne _ _ _ _ (by omega), gl_sl_ne _ _ _ _ (by omega), gl_sl_same]
        have v2 : gl (si (sl (sl (sl σ 9 1 t0) 9 2 t1) 9 3 t2) 9 0 1) 9 2 = t1 := by rw [gl_si, gl_sl_ne _ _ _ _ (by omega), gl_sl_same]
        have v3 : gl (si (sl (sl (sl σ 9 1 t0) 9 2 t1) 9 3 t2) 9 0 1) 9 3 = t2 := by rw [gl_si, gl_sl_same]
        have vh : gi (si (sl (sl (sl σ 9 1 t0) 9 2 t1) 9 3 t2) 9 0 1) 9 0 = 1 := gi_si_same _ _ _ _
        generalize hτ : si (sl (sl (sl σ 9 1 t0) 9 2 t1) 9 3 t2) 9 0 1 = τ at *
        have hLC9 : LC τ 9 (w * w) U (mrK w K) := mr_LC g1 har hsU k2 (by rw [v1]; exact a2) (by rw [v2]; exact b2') (by rw [v3]; exact c2)
        have hLCs : LC τ (5 + s) (w * w) U K := k2.keep hx9 (by omega)
        have hal : f_X2_alikeIn (5 + s) 9 τ = some (((gl τ (5 + s) 1 &&& gl τ 9 1) ||| (gl τ (5 + s) 2 &&& gl τ 9 2)) ||| (gl τ (5 + s) 3 &&& gl τ 9 3), τ) := rfl
        have hpa : pc (((gl τ (5 + s) 1 &&& gl τ 9 1) ||| (gl τ (5 + s) 2 &&& gl τ 9 2)) ||| (gl τ (5 + s) 3 &&& gl τ 9 3)) = cnt (fun c => U c && decide (mrK w K c = K c)) (w * w) := by
          have e : ∀ i, i < 64 → tb (((gl τ (5 + s) 1 &&& gl τ 9 1) ||| (gl τ (5 + s) 2 &&& gl τ 9 2)) ||| (gl τ (5 + s) 3 &&& gl τ 9 3)) i = (decide (i < w * w) && (U i && decide (mrK w K i = K i))) := fun i hi => by
            rw [tb_or, tb_or, tb_and, tb_and, tb_and, show tb (gl τ (5 + s) 1) i = _ from hLCs i hi 0 (by decide), show tb (gl τ (5 + s) 2) i = _ from hLCs i hi 1 (by decide), show tb (gl τ (5 + s) 3) i = _ from hLCs i hi 2 (by decide), show tb (gl τ 9 1) i = _ from hLC9 i hi 0 (by decide), show tb (gl τ 9 2) i = _ from hLC9 i hi 1 (by decide), show tb (gl τ 9 3) i = _ from hLC9 i hi 2 (by decide)]
            by_cases hiN : i < w * w
            · cases hu : U i with
              | false => simp
              | true =>
                have h3 := (LL_k3 k1 hiN).1 hu
                have h3' := (LL_k3 (mr_LL g1 hsU hsD k1) hiN).1 hu
                rcases (show K i = 0 ∨ K i = 1 ∨ K i = 2 by omega) with z | z | z <;> rcases (show mrK w K i = 0 ∨ mrK w K i = 1 ∨ mrK w K i = 2 by omega) with y | y | y <;> simp [z, y, hiN]
            · simp [hiN]
          rw [pc_cut har (fun i hi hn => by rw [e i hi, decide_eq_false (by omega), Bool.false_and])]
          refine cnt_congr (fun i hi => ?_)
          rw [e i (by omega), decide_eq_true hi, Bool.true_and]
        have hx9' : gl τ 1 3 = gl σ 1 3 := (hx9 1 (by omega) 3).2
        have hpu : pc (gl σ 1 3) = cnt U (w * w) := by
          rw [pc_cut har (fun i hi hn => by rw [g8 i hi]; exact (h0.1.2.2.2.1 i hn).1)]
          exact cnt_congr (fun i hi => g8 i (by omega))
        rw [bd_at hal, bd_at (s_bitCount _ τ), bd_at (s_take (5 + s) 9 (Or.inr vh))]
        have xt := takeS_eqx τ (5 + s) 9
        have gu : gl (takeS τ (5 + s) 9) 1 3 = gl σ 1 3 := by rw [(xt 1 (by omega) 3).2, hx9']
        rw [gu, bd_at (s_bitCount _ _), hpa, hpu]
        have hdiff := cnt_diff (f := U) (g := fun c => U c && decide (mrK w K c = K c)) (n := w * w) (fun i _ z => by rw [Bool.and_eq_true] at z; exact z.1)
        have hcn : cnt (fun i => U i && !(U i && decide (mrK w K i = K i))) (w * w) = cnt (fun c => decide (mrK w K c ≠ K c)) (w * w) := cnt_congr (fun i hi => by
          cases hu : U i with
          | true => simp
          | false =>
            have h3 := (LL_k3 k1 hi).2 hu
            have h3' := (LL_k3 (mr_LL g1 hsU hsD k1) hi).2 hu
            simp [h3, h3'])
        have hle := cnt_le (fun c => U c && decide (mrK w K c = K c)) (w * w)
        rw [show nI (cnt U (w * w)) - nI (cnt (fun c => U c && decide (mrK w K c = K c)) (w * w)) = nI (cnt (fun c => decide (mrK w K c ≠ K c)) (w * w)) by rw [nI_sub (by omega), hdiff, hcn]; congr 1; omega]
        have hxs : eqx (fun p => p = 9 ∨ p = 5 + s) σ (takeS τ (5 + s) 9) := eqx.tr (hx9.mono (fun p hp => Or.inl hp)) (xt.mono (fun p hp => Or.inr hp))
        have gM := h0.1.2.2.1.keep hxs (by omega) (by omega)
        have hLMs : LM (takeS τ (5 + s) 9) s (w * w) K := fun c hc => by rw [(hxs 30 (by omega) _).1]; exact k3 c hc
        have h38 := (s_mir38 (s := s) gM FU 0 (Nat.zero_le _) (by unfold FU; omega) (fun i hi => by omega)).1 ⟨hsU, hsD⟩
        obtain ⟨σ2, d1, d2, d3⟩ := s_mir122 hs (LL_4 k1) FU 0 (takeS τ (5 + s) 9) (Nat.zero_le _) (by unfold FU; omega) gM (fun i hi => by omega) hLMs
        refine ⟨_, takeS τ (5 + s) 9, σ2, rfl, ?_, ?_⟩
        · have h38' : f_X6_mirror_38 FU (nI s) (1 : Int32) (0 : Int32) (takeS τ (5 + s) 9) = f_X6_mirror_110 (nI s) 1 (takeS τ (5 + s) 9) := h38
          rw [bd_at (g6_slot hs), if_neg (by decide), rd29 hs, (hxs 29 (by omega) s).1, if_neg (by rw [q2]; decide), gM.2.2.2.2.1, gM.2.2.2.2.2.1, if_pos rfl, h38']
          unfold f_X6_mirror_110
          rw [if_neg (by decide)]
          exact d1
        · refine (h0.slot hs (fun p k z1 z2 z3 z4 => ?_) (fun p k z1 z2 => ?_) ?_).rel
          · rw [d3.2 p k z4 (by unfold SCR at z2; omega), (hxs p (by unfold SCR at z2; omega) k).1]
          · have : gl σ2 p k = gl (takeS τ (5 + s) 9) p k := by unfold gl; rw [d3.1]
            rw [this, (hxs p (by unfold SCR at z2; omega) k).2]
          · refine Or.inr ⟨?_, ?_, mrK w K, mr_LL g1 hsU hsD k1, ?_, d2⟩
            · rw [d3.2 _ _ (by omega) (by omega), takeS_0]; exact vh
            · rw [d3.2 _ _ (by omega) (by omega), (hxs 29 (by omega) s).1]; exact q2
            · intro c hc k hk
              have : gl σ2 (5 + s) (k + 1) = gl (takeS τ (5 + s) 9) (5 + s) (k + 1) := by unfold gl; rw [d3.1]
              rw [this]
              exact LC_take hLC9 c hc k hk
      · rw [bd_at ((s_isSymmetric h0.1.1 h0.1.2.2.2.1).2 hsy), if_pos rfl]
        refine ⟨_, σ, σ, rfl, ?_, h0.rel⟩
        rw [bd_at (g6_slot hs), if_neg (by decide), rd29 hs, if_neg (by rw [q2]; decide), m5, m6]
        by_cases hwh : w = h
        · subst hwh
          rw [if_pos rfl]
          exact (s_mir38 (s := s) h0.1.2.2.1 FU 0 (Nat.zero_le _) (by unfold FU; omega) (fun i hi => by omega)).2 (fun z => hsy ⟨rfl, z⟩)
        · rw [if_neg (fun z => hwh ((nI_eq (by omega) (by omega)).mp z))]
          exact no38
