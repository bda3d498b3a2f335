/-! ===== the law from its entry ===== -/
theorem dL_law_0 : decode cL_law 0 = .ok (.new 7, 3) := by decide +kernel
theorem dL_law_3 : decode cL_law 3 = .ok (.dup, 1) := by decide +kernel
theorem dL_law_4 : decode cL_law 4 = .ok (.invokespecial 9, 3) := by decide +kernel
theorem dL_law_7 : decode cL_law 7 = .ok (.astore_n 1, 1) := by decide +kernel
theorem dL_law_8 : decode cL_law 8 = .ok (.new 10, 3) := by decide +kernel
theorem dL_law_11 : decode cL_law 11 = .ok (.dup, 1) := by decide +kernel
theorem dL_law_12 : decode cL_law 12 = .ok (.invokespecial 12, 3) := by decide +kernel
theorem dL_law_15 : decode cL_law 15 = .ok (.astore_n 2, 1) := by decide +kernel
theorem dL_law_16 : decode cL_law 16 = .ok (.iconst 0, 1) := by decide +kernel
theorem dL_law_17 : decode cL_law 17 = .ok (.istore_n 3, 1) := by decide +kernel
set_option maxRecDepth 100000 in
theorem kn_RL_7 : KN RL 7 5 := ⟨wT_of ⟨List.mem_of_getElem? (i := 50) (by decide +kernel), by decide +kernel⟩, wT_of ⟨List.mem_of_getElem? (i := 51) (by decide +kernel), by decide +kernel⟩, wT_of ⟨List.mem_of_getElem? (i := 39) (by decide +kernel), by decide +kernel⟩, by decide⟩
set_option maxRecDepth 100000 in
theorem kn_RL_10 : KN RL 10 6 := ⟨wT_of ⟨List.mem_of_getElem? (i := 657) (by decide +kernel), by decide +kernel⟩, wT_of ⟨List.mem_of_getElem? (i := 658) (by decide +kernel), by decide +kernel⟩, wT_of ⟨List.mem_of_getElem? (i := 45) (by decide +kernel), by decide +kernel⟩, by decide⟩
set_option maxRecDepth 100000 in
theorem ml_RL_9 : Cond.methodLink RL 9 yX5_init ∈ wT := wT_of ⟨List.mem_of_getElem? (i := 52) (by decide +kernel), by decide +kernel⟩
set_option maxRecDepth 100000 in
theorem ml_RL_12 : Cond.methodLink RL 12 yX6_init ∈ wT := wT_of ⟨List.mem_of_getElem? (i := 659) (by decide +kernel), by decide +kernel⟩
set_option maxRecDepth 100000 in
theorem nst_law {args : Array Value} {s : State} (hts : ∀ w ∈ lw_tbl, w.before args s = true) : Nst s := ⟨va_Nw.of rfl (hts (.methodLinkNest RX5 11 yX1_init RX5) (List.mem_of_getElem? (i := 60) (by decide +kernel))), va_Nw.of rfl (hts (.methodLinkNest RX5 18 yX3_init RX5) (List.mem_of_getElem? (i := 106) (by decide +kernel))), va_Nw.of rfl (hts (.methodLinkNest RX5 25 yX0_init RX5) (List.mem_of_getElem? (i := 139) (by decide +kernel))), va_Nw.of rfl (hts (.methodLinkNest RX5 32 yX4_init RX5) (List.mem_of_getElem? (i := 184) (by decide +kernel))), va_Nw.of rfl (hts (.methodLinkNest RX5 43 yX2_init RX5) (List.mem_of_getElem? (i := 208) (by decide +kernel))), va_Nw.of rfl (hts (.methodLinkNest RX0 11 yX2_init RX5) (List.mem_of_getElem? (i := 145) (by decide +kernel))), va_Nw.of rfl (hts (.methodLinkNest RX4 11 yX2_init RX5) (List.mem_of_getElem? (i := 189) (by decide +kernel))), va_AO.of (hts (.arrayOver (.object RX2)) (List.mem_of_getElem? (i := 207) (by decide +kernel)))⟩
set_option maxRecDepth 100000 in
theorem arr_I {args : Array Value} {s : State} (hts : ∀ w ∈ lw_tbl, w.before args s = true) : ∃ cA : ClassId, ArrOfT s cA .int ∧ va_RA s cA .int := by
  obtain ⟨cA, kA, comp, h1, h2, h3⟩ := Cond.arrayClass_spec (hts (.arrayClass .int) (List.mem_of_getElem? (i := 135) (by decide +kernel)))
  exact ⟨cA, fun n z => ⟨fun k h => (by cases h), kA, h2, comp, h3⟩, h1⟩
set_option maxRecDepth 100000 in
theorem arr_J {args : Array Value} {s : State} (hts : ∀ w ∈ lw_tbl, w.before args s = true) : ∃ cA : ClassId, ArrOfT s cA .long ∧ va_RA s cA .long := by
  obtain ⟨cA, kA, comp, h1, h2, h3⟩ := Cond.arrayClass_spec (hts (.arrayClass .long) (List.mem_of_getElem? (i := 136) (by decide +kernel)))
  exact ⟨cA, fun n z => ⟨fun k h => (by cases h), kA, h2, comp, h3⟩, h1⟩
set_option maxRecDepth 100000 in
theorem arr_Z {args : Array Value} {s : State} (hts : ∀ w ∈ lw_tbl, w.before args s = true) : ∃ cA : ClassId, ArrOfT s cA .boolean ∧ va_RA s cA .boolean := by
  obtain ⟨cA, kA, comp, h1, h2, h3⟩ := Cond.arrayClass_spec (hts (.arrayClass .boolean) (List.mem_of_getElem? (i := 735) (by decide +kernel)))
  exact ⟨cA, fun n z => ⟨fun k h => (by cases h), kA, h2, comp, h3⟩, h1⟩
set_option maxRecDepth 100000 in
theorem arr_O {args : Array Value} {s : State} (hts : ∀ w ∈ lw_tbl, w.before args s = true) : ∃ cA : ClassId, ArrOfT s cA (.object RX2) ∧ va_RA s cA (.object RX2) := by
  obtain ⟨comp, cA, kA, h1, h2, h3, h4, h5⟩ := Cond.arrayOver_spec (hts (.arrayOver (.object RX2)) (List.mem_of_getElem? (i := 207) (by decide +kernel)))
  exact ⟨cA, fun n z => ⟨fun k h => (by cases h), kA, h3, comp, h4⟩, kA, comp, h3, h4, h1, h5⟩
set_option maxRecDepth 100000 in
theorem geo_law {args : Array Value} {s : State} (hts : ∀ w ∈ lw_tbl, w.before args s = true) : ∃ d : G4, va_K d.1 vwCl (ty4 d) s := by
  obtain ⟨c0, iS0, hKn0⟩ := u_known (C := RX0) (T := TX0) (N := 3) (n := 3) hts (fun w h => (cl_in0 w h).1) (hts (.instantiable RX0 3) (List.mem_of_getElem? (i := 138) (by decide +kernel)))
  obtain ⟨c1, iS1, hKn1⟩ := u_known (C := RX1) (T := TX1) (N := 7) (n := 7) hts (fun w h => (cl_in1 w h).1) (hts (.instantiable RX1 7) (List.mem_of_getElem? (i := 59) (by decide +kernel)))
  obtain ⟨c2, iS2, hKn2⟩ := u_known (C := RX2) (T := TX2) (N := 4) (n := 4) hts (fun w h => (cl_in2 w h).1) (hts (.instantiable RX2 4) (List.mem_of_getElem? (i := 144) (by decide +kernel)))
  obtain ⟨c3, iS3, hKn3⟩ := u_known (C := RX3) (T := TX3) (N := 8) (n := 8) hts (fun w h => (cl_in3 w h).1) (hts (.instantiable RX3 8) (List.mem_of_getElem? (i := 105) (by decide +kernel)))
  obtain ⟨c4, iS4, hKn4⟩ := u_known (C := RX4) (T := TX4) (N := 5) (n := 5) hts (fun w h => (cl_in4 w h).1) (hts (.instantiable RX4 5) (List.mem_of_getElem? (i := 183) (by decide +kernel)))
  obtain ⟨c5, iS5, hKn5⟩ := u_known (C := RX5) (T := TX5) (N := 10) (n := 10) hts (fun w h => (cl_in5 w h).1) (hts (.instantiable RX5 10) (List.mem_of_getElem? (i := 51) (by decide +kernel)))
  obtain ⟨c6, iS6, hKn6⟩ := u_known (C := RX6) (T := TX6) (N := 21) (n := 21) hts (fun w h => (cl_in6 w h).1) (hts (.instantiable RX6 21) (List.mem_of_getElem? (i := 658) (by decide +kernel)))
  obtain ⟨cI, i1, i2⟩ := arr_I hts
  obtain ⟨cJ, j1, j2⟩ := arr_J hts
  obtain ⟨cZ, z1, z2⟩ := arr_Z hts
  obtain ⟨cO, o1, o2⟩ := arr_O hts
  refine ⟨((fun k => ([c0, c1, c2, c3, c4, c5, c6] : List ClassId).getD k 0, fun k => ([iS0, iS1, iS2, iS3, iS4, iS5, iS6] : List (Nat → Nat)).getD k (fun _ => 0)), cI, cJ, cZ, cO), ?_, ?_⟩
  · intro k q hq
    match k, hq with
    | 0, hq => cases hq; exact hKn0
    | 1, hq => cases hq; exact hKn1
    | 2, hq => cases hq; exact hKn2
    | 3, hq => cases hq; exact hKn3
    | 4, hq => cases hq; exact hKn4
    | 5, hq => cases hq; exact hKn5
    | 6, hq => cases hq; exact hKn6
    | k + 7, hq => simp [vwCl] at hq
  · intro k q hq
    match k, hq with
    | 0, hq => cases hq; exact ⟨i1, i2⟩
    | 1, hq => cases hq; exact ⟨j1, j2⟩
    | 2, hq => cases hq; exact ⟨z1, z2⟩
    | 3, hq => cases hq; exact ⟨o1, o2⟩
    | k + 4, hq => simp [ty4] at hq
set_option maxRecDepth 100000 in
theorem prime_law {b : Nat} {s : State} (hts : ∀ w ∈ lw_tbl, w.before #[Value.ref b] s = true) (hgv : (Jvm.Cond.and given_1 narrow_1).before #[Value.ref b] s = true) : ∃ t, Zt t (fun q => s.heap.size ≤ q) s s.heap := by
  have hs := flat_of_before _ hgv
  have harr : (Cond.arrayOf (.static RX5 "PRIMES" "[I") .int).before #[Value.ref b] s = true := hs _ (by decide +kernel)
  have hlen : (Cond.eq (.length (.static RX5 "PRIMES" "[I")) (.int 6)).before #[Value.ref b] s = true := hs _ (by decide +kernel)
  have h0 : (Cond.eq (.elem (.static RX5 "PRIMES" "[I") (.int 0)) (.int 2)).before #[Value.ref b] s = true := hs _ (by decide +kernel)
  have h1 : (Cond.eq (.elem (.static RX5 "PRIMES" "[I") (.int 1)) (.int 3)).before #[Value.ref b] s = true := hs _ (by decide +kernel)
  have h2 : (Cond.eq (.elem (.static RX5 "PRIMES" "[I") (.int 2)) (.int 5)).before #[Value.ref b] s = true := hs _ (by decide +kernel)
  have h3 : (Cond.eq (.elem (.static RX5 "PRIMES" "[I") (.int 3)) (.int 7)).before #[Value.ref b] s = true := hs _ (by decide +kernel)
  have h4 : (Cond.eq (.elem (.static RX5 "PRIMES" "[I") (.int 4)) (.int 11)).before #[Value.ref b] s = true := hs _ (by decide +kernel)
  have h5 : (Cond.eq (.elem (.static RX5 "PRIMES" "[I") (.int 5)) (.int 13)).before #[Value.ref b] s = true := hs _ (by decide +kernel)
  have hA : ∀ a : Nat, a < s.heap.size → ¬ (fun q : Nat => s.heap.size ≤ q) a := fun a h => Nat.not_le.mpr h
  obtain ⟨t, e1, e2⟩ := va_Tof (tm := .static RX5 "PRIMES" "[I") (ty := .int) (N := 6) (f := fun j => .int (primes j)) (by decide) harr (va_eqt hlen) (fun j hj => by
    match j, hj with
    | 0, _ => exact va_eqt h0
    | 1, _ => exact va_eqt h1
    | 2, _ => exact va_eqt h2
    | 3, _ => exact va_eqt h3
    | 4, _ => exact va_eqt h4
    | 5, _ => exact va_eqt h5) hA
  exact ⟨t, va_Zref (hts (.laysStatic RX5 "PRIMES" "[I") (List.mem_of_getElem? (i := 331) (by decide +kernel))) (hts (.initialized RX5) (List.mem_of_getElem? (i := 39) (by decide +kernel))) e1 hA, e2⟩
/-- from a world that has grown to the walk over the fixed world -/
theorem y_toV {d : G4} {p : Program} {l : Launch} {e : Env} {s : State} {m : MethodId} {args : Array Value} {below : List Frame} {meth : Method} {c : Code} {R : Room} {Q : State → Prop} {nL k n : Nat} {lv : List (Nat × Value)} {st : List Value} {pc : Nat} {ad : Nat → Nat} {σ : St}
    (h : inj (ad, d) → (∀ q, Aof (ad, d) q → s.heap.size ≤ q) → V (ad, d) (p, l, e, R, s, m, args, below, meth, c, k, n) Q nL σ lv st pc) : Y d (p, l, e, R, s, m, args, below, meth, c, 0, 0) Q (fun q => s.heap.size ≤ q) nL (wsg (ad, d) σ) k n lv st pc := by
  intro H locs ls hP hD hS hl
  have hi : inj (ad, d) := fun i j h1 h2 he => hD.1 i j _ _ (wsg_at h1) (wsg_at h2) he
  have hAA : ∀ q, Aof (ad, d) q → s.heap.size ≤ q := by
    rintro q ⟨j, hj, rfl⟩
    exact hD.2 j _ (wsg_at hj)
  refine va_forget (fun q hq => hS.2.2 q hq) ?_
  exact h hi hAA H [] ls hP ⟨hS.1, fun q h1 h2 => hS.2.1 q h1 (Nat.not_le.mpr h1), fun _ hq => by cases hq⟩ hl
set_option maxRecDepth 100000 in
set_option maxHeartbeats 4000000 in
/-- THE LAW FROM ITS ENTRY, if the functions answer alike on every script -/
theorem start_open {p : Program} {e : Env} {s : State} {m : MethodId} {below : List Frame} {meth : Method} {c : Code} (l : Launch) {b L : Nat} {xs : Nat → Int32} (C0 : lw_At p s m meth c b L xs) (σ1 σ2 σ3 : St) (hsh : f_X1_shape 4 4 zz = some ((), σ1)) (hlg : f_X6_layGround 4 4 (cut σ1) = some ((), σ2)) (hall : f_L_law_18 xs L FU 0 σ2 = some ((1 : Int32), σ3)) :
    W p l e room_1 s m #[Value.ref b] below meth c s.heap [] 0 0 (lw_Z below #[Value.ref b] s) (entryFrame m ([Value.ref b] : List Value).toArray 4) := by
  obtain ⟨hx, hb, hr, hml, hown, hts, hX, hbl, hlocks, hgv⟩ := C0
  obtain ⟨d, hK⟩ := geo_law hts
  obtain ⟨t, Z⟩ := prime_law hts hgv
  have hN := nst_law hts
  have hl := lv_entry ([.ref b]) (n := 4) (Nat.le_of_ble_eq_true rfl)
  rw [lg_entry_eq]
  have C : OkY d (p, l, e, room_1, s, m, #[Value.ref b], below, meth, c, 0, 0) cL_law RL 4 room_1 (fun q => s.heap.size ≤ q) := ⟨hx, hb, hml, hown, fun w hw => hts w (List.mem_filter.mp hw).1, hK, hN, rfl, fun q h => h⟩
  suffices key : Y d (p, l, e, room_1, s, m, #[Value.ref b], below, meth, c, 0, 0) (lw_Z below #[Value.ref b] s) (fun q => s.heap.size ≤ q) 4 [] 0 0 [(0, .ref b)] [] 0 from
    key s.heap [] _ (fun k q h => by simp at h) ⟨fun i j p q h => by simp at h, fun k q h => by simp at h⟩ va_S.rf hl
  refine y_new C (fs := [.null, .null, .null, .null, .null, .null, .null, .null, .int 0, .int 0]) kn_RL_7 (by decide) (by decide) (by decide) dL_law_0 (fun q1 => ?_)
  refine Y.eq (ws' := [(q1, .inr (5, [.null, .null, .null, .null, .null, .null, .null, .null, .int 0, .int 0]))]) (k' := 1) (n' := 10) rfl rfl rfl ?_
  refine y_dup C dL_law_3 rfl ?_
  refine y_callI C (wr := []) (ci_X5_init d q1 σ1 hsh) km_X5_init im_X5_init rfl ml_RL_9 [0] [] rfl (by decide) rfl (by decide) (by decide) (by decide) (Nat.le_of_ble_eq_true rfl) (by decide) dL_law_4 (fun w1 hw => ?_)
  obtain ⟨ad, had, rfl⟩ := hw
  refine Y.eq (ws' := wsgh (ad, d) σ1) (k' := 26) (n' := 32758) rfl rfl rfl ?_
  refine y_astore_n C (lv' := [(1, .ref _), (0, .ref _)]) dL_law_7 rfl (by decide) rfl ?_
  refine y_new C (fs := [.int 0, .int 0, .null, .null, .null, .null, .null, .null, .null, .null, .null, .null, .null, .null, .int 0, .null, .null, .null, .null, .null, .null]) kn_RL_10 (by decide) (by decide) (by decide) dL_law_8 (fun q2 => ?_)
  refine y_dup C dL_law_11 rfl ?_
  refine y_callI6 C Z (wr := []) (wc := [(ad 0, enth (ad, d) σ1 0), (ad 1, enth (ad, d) σ1 1), (ad 2, enth (ad, d) σ1 2), (ad 3, enth (ad, d) σ1 3), (ad 4, enth (ad, d) σ1 4), (ad 5, enth (ad, d) σ1 5), (ad 6, enth (ad, d) σ1 6), (ad 7, enth (ad, d) σ1 7), (ad 8, enth (ad, d) σ1 8), (ad 9, enth (ad, d) σ1 9), (ad 10, enth (ad, d) σ1 10), (ad 11, enth (ad, d) σ1 11), (ad 12, enth (ad, d) σ1 12), (ad 13, enth (ad, d) σ1 13), (ad 14, enth (ad, d) σ1 14), (ad 15, enth (ad, d) σ1 15), (ad 16, enth (ad, d) σ1 16), (ad 17, enth (ad, d) σ1 17), (ad 18, enth (ad, d) σ1 18), (ad 19, enth (ad, d) σ1 19), (ad 20, enth (ad, d) σ1 20), (ad 21, enth (ad, d) σ1 21), (ad 22, enth (ad, d) σ1 22), (ad 23, enth (ad, d) σ1 23), (ad 24, enth (ad, d) σ1 24), (ad 25, enth (ad, d) σ1 25), (q2, .inr (6, [.int 0, .int 0, .null, .null, .null, .null, .null, .null, .null, .null, .null, .null, .null, .null, .int 0, .null, .null, .null, .null, .null, .null]))]) (ci_X6_init d ad q2 σ1 σ2 t hlg) km_X6_init im_X6_init rfl ml_RL_12 [0, 1, 2, 3, 4, 5, 6, 7, 8, 9, 10, 11, 12, 13, 14, 15, 16, 17, 18, 19, 20, 21, 22, 23, 24, 25, 26] [] rfl (by decide) rfl (by decide) (by decide) (by decide) (Nat.le_of_ble_eq_true rfl) (by decide) dL_law_12 (fun w1 hw => ?_)
  obtain ⟨l6, hb6, rfl, ht6⟩ := hw
  refine Y.eq (ws' := wsg (ad6 ad l6, d) σ2) (k' := 45) (n' := 91923) rfl rfl rfl ?_
  refine y_astore_n C (lv' := [(2, .ref _), (1, .ref _), (0, .ref _)]) dL_law_15 rfl (by decide) rfl ?_
  refine y_iconst C (v := 0) dL_law_16 (by decide) ?_
  refine y_istore_n C (lv' := [(3, .int _), (2, .ref _), (1, .ref _), (0, .ref _)]) dL_law_17 rfl (by decide) rfl ?_
  refine y_toV (fun hi hAA => ?_)
  have h0 : q1 = (ad6 ad l6) 0 := by rw [← had]; rfl
  have hst : stat (ad6 ad l6, d) s s.heap := by
    have Z2 : Zt ((ad6 ad l6) 45) (Aof (ad6 ad l6, d)) s s.heap := by rw [ht6]; exact zt_narrow Z hAA
    exact Z2
  rw [h0, ← hb6]
  have C1 : Ok (ad6 ad l6, d) (p, l, e, room_1, s, m, #[Value.ref b], below, meth, c, 45, 91923) cL_law RL 4 ret room_1 := ⟨hx, hb, hml, hown, fun w hw => hts w (List.mem_filter.mp hw).1, hK, hi, hst, hlocks, hr, rfl, Nat.le_of_ble_eq_true rfl, Nat.le_of_ble_eq_true rfl⟩
  have S1 : Sc (ad6 ad l6, d) (p, l, e, room_1, s, m, #[Value.ref b], below, meth, c, 45, 91923) b L xs := ⟨hX, hbl, hAA, rfl⟩
  refine V.sub (lv' := [(0, .ref _), (1, .ref _), (2, .ref _), (3, .int _)]) [3, 2, 1, 0] rfl ?_
  exact b_L_law_18 C1 S1 FU 0 σ2 σ3 hall
