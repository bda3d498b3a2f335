/-! ===== the constructors: where the world of the class, and the whole world, come to stand ===== -/
def zz : St := (fun _ _ => 0, fun _ _ => 0)
def ad6 (ad : Nat → Nat) (l : List Nat) : Nat → Nat := fun k => if k < 26 then ad k else l.getD (k - 26) 0
section YM
variable {d : G4} {x : Cx} {Q : State → Prop} {A : Nat → Prop} {nL k n : Nat} {ws : va_W} {lv : List (Nat × Value)} {st : List Value} {pc : Nat} {cc : ByteArray} {own : String} {rm : Room}
theorem y_shape (C : OkY d x cc own nL rm A) {ad : Nat → Nat} {σ σ1 : St} {y : MethodName} {cc' : ByteArray} {nL' m idx p c : Nat} {ret' : Option FieldType} {rm' : Room} {As stk : List Value} (is : List Nat) (hw : is.map (fun i => ws[i]?) = (wsgh (ad, d) σ).map some) (hnd : va_nd is = true)
    (hct : Cth (ad, d) y cc' nL' ret' rm' (.ref (ad p) :: As) σ none σ1) (hm : KM y cc' nL' ret' m) (hv : KV y c) (hk : kdh p = c) (hl0 : Cond.methodLink own idx y ∈ wT) (hn : As.length = m) (hstk : stk = As.reverse ++ .ref (ad p) :: st) (hrm : (rm'.cells = 0 ∧ rm'.slots = 0) ∧ rm'.frames + 1 ≤ rm.frames ∧ 8 + (nL' + 11) + rm'.locals ≤ rm.locals ∧ k ≤ rm.cells ∧ n ≤ rm.slots) (hW : (st.map fun v => v.category).sum ≤ 8)
    (hd : decode cc pc = .ok (.invokevirtual idx, 3)) (kk : Y d x Q A nL (wsgh (ad, d) σ1) k n lv st (pc + 3)) : Y d x Q A nL ws k n lv stk pc := by
  intro H locs ls hP hD hS hl
  obtain ⟨hx, hb, hml, hown, hts, hK, hN, hRR, hA⟩ := id C
  obtain ⟨m1, m2, m3, m4, m5⟩ := hm
  obtain ⟨v1, v2, v3⟩ := hv
  have hp : p < 26 := kd_lth (by omega)
  have hP' : va_P d.1 vwCl (wsgh (ad, d) σ) H := hP.sub is (filt_of hw)
  have hD' : va_D A (wsgh (ad, d) σ) := hD.sub is hnd hw
  have hi : injh (ad, d) := fun i j h1 h2 he => hD'.1 i j _ _ (wsg_ath h1) (wsg_ath h2) he
  have hAA : ∀ q, Aofh (ad, d) q → A q := by
    rintro q ⟨j, hj, rfl⟩
    exact hD'.2 j _ (wsg_ath hj)
  have cw : CallW (Cx.R x) (Cx.s x) (Cx.args x) own (clN c) idx y cc' nL' ret' (.code y cc' nL' ret' :: wT) rm' 0 0 m :=
    ⟨callB_of m hts (goodIn_wT m1) rfl hrm.1.1 hrm.1.2 (hts _ m2) (hts _ hl0) ⟨m3, m4, m5⟩ (by rw [hRR]; exact ⟨hrm.2.1, hrm.2.2.1⟩), hts _ v1, hts _ v2⟩
  have run := va_runV (p := Cx.p x) (e := Cx.e x) (below := Cx.below x) (meth := Cx.meth x) (locs := locs) (cells := k) (slots := n) (g := F0 (Cx.m x) pc ls stk) (As := As) (rest := st) ⟨hx, hb, hml, hown, hts⟩ (hct (Cx.l x)) cw ⟨pc0_blindh _ _ _, va_recv hK hP' (q := (clN c, clT c, nf c)) (cl_at v3) (by rw [wsg_ath hp, ent_objh hk v3]), fun U hU hW => ⟨rfl, by rw [hU]; exact hP', va_K.moved hW.alike hK, hi, trivial⟩⟩ rfl hn hl.1 hstk (lv_room (m := Cx.m x) (pc := pc) (ls := ls) (rest := stk) hW) hd (by rw [hRR]; exact hrm.2.2.2)
  intro T hT X
  obtain ⟨v, st₀, t, T', L, h0, X', hL, e1, e2, ⟨hv, hP1, hz, hk1⟩, stp⟩ := run T hT X
  cases hv
  rw [h0] at hz hk1
  have hD1 : va_D A (wsgh (ad, d) σ1) := ⟨(wsg_Dh hi).1, fun j q hj => hAA _ ((wsg_Dh (σ := σ1) hi).2 j q hj)⟩
  obtain ⟨t2, a1, b1⟩ := kk T'.heap (locs ++ L) ls (by rw [e1]; exact hP1) hD1
    ⟨Nat.le_trans hS.1 (by rw [e1]; exact hz), fun q h1 h2 => by rw [e1, hk1 q (Nat.lt_of_lt_of_le h1 hS.1) (fun z => h2 (hAA q z))]; exact hS.2.1 q h1 h2, fun q hq => by
      rcases List.mem_append.mp hq with h | h
      · exact hS.2.2 q h
      · exact hAA _ (hL q h)⟩ hl T' rfl X'
  exact ⟨t2, stp t2 a1, b1⟩
end YM
def cut (σ : St) : St := (fun p j => if p < 26 then σ.1 p j else 0, fun p j => if p < 26 then σ.2 p j else 0)
/-- the static row of primes, seen from a world that grows -/
def Zt (t : Nat) (A : Nat → Prop) (U : State) (H : Heap) : Prop := va_Z RX5 "PRIMES" "[I" (.ref t) A U H ∧ va_T .int t 6 (fun j => .int (primes j)) A U H
theorem zt_moved {t : Nat} {A : Nat → Prop} {u U : State} {H : Heap} (hvm : u.vm.Alike U.vm) (h : Zt t A u H) : Zt t A U H := ⟨h.1.moved hvm, h.2.moved hvm⟩
theorem zt_kept {t : Nat} {A : Nat → Prop} {U : State} {H H1 : Heap} (h : Zt t A U H) (hq : ∀ a : Nat, a < H.size → ¬ A a → H1[a]? = H[a]?) : Zt t A U H1 := ⟨h.1.kept hq, h.2.kept hq⟩
theorem zt_narrow {t : Nat} {A B : Nat → Prop} {U : State} {H : Heap} (h : Zt t A U H) (hAB : ∀ q, B q → A q) : Zt t B U H := ⟨h.1.narrow hAB, h.2.narrow hAB⟩
def PcY6 (d : G4) (av : List Value) (w0 : va_W) (sz t : Nat) : Array Value → State → Prop := fun a U => PcY d av w0 sz a U ∧ Zt t (va_A w0 sz) U U.heap
def Cy6 (d : G4) (t : Nat) (y : MethodName) (cc : ByteArray) (nL : Nat) (rm : Room) (av : List Value) (w0 : va_W) (post : va_W → Prop) : Prop :=
  ∀ (l : Launch) (sz : Nat), Met l y (.code y cc nL none :: wT) rm (PcY6 d av w0 sz t) (QcY d w0 post sz) rm.cells rm.slots (va_A w0 sz)
theorem cy6_of {d : G4} {t : Nat} {y : MethodName} {cc : ByteArray} {nL : Nat} {rm : Room} {av : List Value} {w0 : va_W} {post : va_W → Prop} {own : String} (hy : plainName y.cls = true) (ho : y.cls = own) (hn : y.name = "<init>") (hfit : (lg_sl av).length ≤ nL)
    (h : ∀ (x : Cx), OkY d x cc own nL rm (va_A w0 (Cx.s x).heap.size) → OkI x → Zt t (va_A w0 (Cx.s x).heap.size) (Cx.s x) (Cx.s x).heap → Y d x (qy d x w0 post rm) (va_A w0 (Cx.s x).heap.size) nL w0 0 0 (lv_args 0 av) [] 0) : Cy6 d t y cc nL rm av w0 post := by
  intro l sz
  refine Met.ofW (cc := cc) (maxL := nL) (ret := none) hy rfl ?_
  intro p e s m args below meth c s₁ B hml hv
  obtain ⟨⟨rfl, hsz, hP, hK, hD, hN⟩, hZ⟩ := hv
  have hts := atoms_spec (ws := .code y cc nL none :: wT) B.pre
  have hown : s.vm.findClass own = some m.cls := by rw [← ho]; exact findClass_of_methodNamed B.named
  have hin : meth.name = "<init>" := by rw [(name_of_methodNamed B.named B.method).1]; exact hn
  have hl := lv_entry av (n := nL) hfit
  rw [lg_entry_eq]
  subst hsz
  have key := h (p, l, e, (headSpec (.code y cc nL none :: wT) rm).room, s, m, av.toArray, below, meth, c, 0, 0) ⟨B.exec, B.bytes, hml, hown, fun w hw => hts w (List.mem_cons_of_mem _ hw), hK, hN, rfl, fun q hq => Or.inr hq⟩ ⟨hin, B.returns, B.notSynchronized⟩ hZ s.heap [] _ hP hD.self va_S.rf hl
  exact key
section YN
variable {d : G4} {x : Cx} {Q : State → Prop} {A : Nat → Prop} {nL k n : Nat} {ws : va_W} {lv : List (Nat × Value)} {st : List Value} {pc : Nat} {cc : ByteArray} {own : String} {rm : Room}
theorem y_callI6 (C : OkY d x cc own nL rm A) {t : Nat} (Z : Zt t A (Cx.s x) (Cx.s x).heap) {y : MethodName} {cc' : ByteArray} {nL' idx b : Nat} {rm' : Room} {wc wr : va_W} {post : va_W → Prop} (hct : Cy6 d t y cc' nL' rm' [.ref b] wc post) (hm : KM y cc' nL' none 0) (hi : Cond.instanceMethod y ∈ wT) (hy : y.name = "<init>") (hl0 : Cond.methodLink own idx y ∈ wT)
    (isC isR : List Nat) (hC : isC.map (fun i => ws[i]?) = wc.map some) (hnC : va_nd isC = true) (hR : isR.map (fun i => ws[i]?) = wr.map some) (hn : va_nd isR = true) (hdis : ∀ i ∈ isR, i ∉ isC) (hrm : rm'.frames + 1 ≤ rm.frames ∧ 8 + (nL' + 11) + rm'.locals ≤ rm.locals) (hW : (st.map fun v => v.category).sum ≤ 8) (hf : k + rm'.cells ≤ rm.cells ∧ n + rm'.slots ≤ rm.slots) (hd : decode cc pc = .ok (.invokespecial idx, 3))
    (kk : ∀ w1, post w1 → Y d x Q A nL (wr ++ w1) (k + rm'.cells) (n + rm'.slots) lv st (pc + 3)) : Y d x Q A nL ws k n lv (.ref b :: st) pc := by
  intro H locs ls hP hD hS hl
  obtain ⟨hx, hb, hml, hown, hts, hK, hN, hRR, hA⟩ := id C
  obtain ⟨m1, m2, m3, m4, m5⟩ := hm
  have hFc := va_free (wc := wc) hD hS hA isC hC
  have cb := callB_of (R := Cx.R x) (rm := rm') 0 hts (goodIn_wT m1) rfl rfl rfl (hts _ m2) (hts _ hl0) ⟨m3, m4, m5⟩ (by rw [hRR]; exact hrm)
  have hbl : FrameBlind (PcY6 d [.ref b] wc H.size t) := fun a U f mk q => ⟨pcY_blind _ _ _ _ a U f mk q.1, zt_moved (u := U) (U := U.calling f mk a) (Vm.Alike.refl U.vm) q.2⟩
  refine y_back C isC isR hC hR hn hdis hP hD hS hl (va_runI (As := []) (rest := st) ⟨hx, hb, hml, hown, hts⟩ (hct (Cx.l x) H.size) ⟨cb, hy, hts _ hi⟩ ⟨hbl, fun U hU hW => ⟨pcY_at C isC hC hnC hP hD _ U hU hW, ?_⟩⟩ rfl rfl hl.1 rfl (lv_room (m := Cx.m x) (pc := pc) (ls := ls) (rest := .ref b :: st) hW) hd (by rw [hRR]; exact hf)) kk
  rw [hU]
  exact zt_moved hW.alike (zt_narrow (zt_kept Z hS.2.1) hFc)
theorem y_lay (C : OkY d x cc own nL rm A) {ad : Nat → Nat} (Z : Zt (ad 45) A (Cx.s x) (Cx.s x).heap) {σ σ1 : St} {y : MethodName} {cc' : ByteArray} {nL' m idx p c : Nat} {ret' : Option FieldType} {rm' : Room} {As stk : List Value} (is : List Nat) (hw : is.map (fun i => ws[i]?) = (wsg (ad, d) σ).map some) (hnd : va_nd is = true)
    (hct : Ct (ad, d) y cc' nL' ret' rm' (.ref (ad p) :: As) σ none σ1) (hm : KM y cc' nL' ret' m) (hv : KV y c) (hk : kd p = c) (hl0 : Cond.methodLink own idx y ∈ wT) (hn : As.length = m) (hstk : stk = As.reverse ++ .ref (ad p) :: st) (hrm : (rm'.cells = 0 ∧ rm'.slots = 0) ∧ rm'.frames + 1 ≤ rm.frames ∧ 8 + (nL' + 11) + rm'.locals ≤ rm.locals ∧ k ≤ rm.cells ∧ n ≤ rm.slots) (hW : (st.map fun v => v.category).sum ≤ 8)
    (hd : decode cc pc = .ok (.invokevirtual idx, 3)) (kk : Y d x Q A nL (wsg (ad, d) σ1) k n lv st (pc + 3)) : Y d x Q A nL ws k n lv stk pc := by
  intro H locs ls hP hD hS hl
  obtain ⟨hx, hb, hml, hown, hts, hK, hN, hRR, hA⟩ := id C
  obtain ⟨m1, m2, m3, m4, m5⟩ := hm
  obtain ⟨v1, v2, v3⟩ := hv
  have hp : p < 45 := kd_lt (by omega)
  have hP' : va_P d.1 vwCl (wsg (ad, d) σ) H := hP.sub is (filt_of hw)
  have hD' : va_D A (wsg (ad, d) σ) := hD.sub is hnd hw
  have hi : inj (ad, d) := fun i j h1 h2 he => hD'.1 i j _ _ (wsg_at h1) (wsg_at h2) he
  have hAA : ∀ q, Aof (ad, d) q → A q := by
    rintro q ⟨j, hj, rfl⟩
    exact hD'.2 j _ (wsg_at hj)
  have cw : CallW (Cx.R x) (Cx.s x) (Cx.args x) own (clN c) idx y cc' nL' ret' (.code y cc' nL' ret' :: wT) rm' 0 0 m :=
    ⟨callB_of m hts (goodIn_wT m1) rfl hrm.1.1 hrm.1.2 (hts _ m2) (hts _ hl0) ⟨m3, m4, m5⟩ (by rw [hRR]; exact ⟨hrm.2.1, hrm.2.2.1⟩), hts _ v1, hts _ v2⟩
  have hst : ∀ U : State, U.heap = H → (Cx.s x).WarmedH U.vm → stat (ad, d) U U.heap := fun U hU hW => by
    rw [hU]
    exact zt_moved hW.alike (zt_narrow (zt_kept Z hS.2.1) hAA)
  have run := va_runV (p := Cx.p x) (e := Cx.e x) (below := Cx.below x) (meth := Cx.meth x) (locs := locs) (cells := k) (slots := n) (g := F0 (Cx.m x) pc ls stk) (As := As) (rest := st) ⟨hx, hb, hml, hown, hts⟩ (hct (Cx.l x)) cw ⟨pc0_blind _ _ _, va_recv hK hP' (q := (clN c, clT c, nf c)) (cl_at v3) (by rw [wsg_at hp, ent_obj hk v3]), fun U hU hW => ⟨rfl, by rw [hU]; exact hP', va_K.moved hW.alike hK, hi, hst U hU hW⟩⟩ rfl hn hl.1 hstk (lv_room (m := Cx.m x) (pc := pc) (ls := ls) (rest := stk) hW) hd (by rw [hRR]; exact hrm.2.2.2)
  intro T hT X
  obtain ⟨v, st₀, t, T', L, h0, X', hL, e1, e2, ⟨hv, hP1, hz, hk1⟩, stp⟩ := run T hT X
  cases hv
  rw [h0] at hz hk1
  have hD1 : va_D A (wsg (ad, d) σ1) := ⟨(wsg_D hi).1, fun j q hj => hAA _ ((wsg_D (σ := σ1) hi).2 j q hj)⟩
  obtain ⟨t2, a1, b1⟩ := kk T'.heap (locs ++ L) ls (by rw [e1]; exact hP1) hD1
    ⟨Nat.le_trans hS.1 (by rw [e1]; exact hz), fun q h1 h2 => by rw [e1, hk1 q (Nat.lt_of_lt_of_le h1 hS.1) (fun z => h2 (hAA q z))]; exact hS.2.1 q h1 h2, fun q hq => by
      rcases List.mem_append.mp hq with h | h
      · exact hS.2.2 q h
      · exact hAA _ (hL q h)⟩ hl T' rfl X'
  exact ⟨t2, stp t2 a1, b1⟩
end YN
section YC
variable {d : G4} {x : Cx} {Q : State → Prop} {A : Nat → Prop} {nL k n : Nat} {ws : va_W} {lv : List (Nat × Value)} {st : List Value} {pc : Nat}
/-- an array's cell told by another function that agrees where it counts -/
theorem y_cell (q0 : Nat) {a : Nat} {c : ClassId} {y y' : vp_A} {ws' : va_W} (he : ws[q0]? = some (a, .inl (c, y))) (hc : vp_cell c y = vp_cell c y') (hw : ws.set q0 (a, .inl (c, y')) = ws') (kk : Y d x Q A nL ws' k n lv st pc) : Y d x Q A nL ws k n lv st pc := by
  intro H locs ls hP hD hS hl
  subst hw
  refine kk H locs ls ?_ (hD.set he) hS hl
  have hlt := (List.getElem?_eq_some_iff.mp he).1
  intro j q hj
  by_cases hjq : j = q0
  · subst hjq
    rw [List.getElem?_set_self hlt] at hj
    cases hj
    show H[a]? = some (vp_cell c y')
    rw [← hc]
    exact hP j _ he
  · rw [List.getElem?_set_ne (Ne.symm hjq)] at hj
    exact hP j q hj
end YC

abbrev rm_X1_init : Room := { frames := 1, cells := 0, slots := 0, locals := 20 }
set_option maxRecDepth 100000 in
set_option maxHeartbeats 4000000 in
theorem ci_X1_init (d : G4) (b : Nat) : Cy d yX1_init cX1_init 1 rm_X1_init [.ref b] [] (fun w1 => w1 = []) := by
  refine cy_of (own := RX1) (by decide) rfl rfl (Nat.le_of_ble_eq_true rfl) (fun x C I => ?_)
  show Y d x _ _ 1 _ 0 0 [(0, .ref b)] [] 0
  refine y_aload_n C dX1_init_0 rfl 0 rfl ?_
  refine y_obj C ko_RX1_3 dX1_init_1 (by decide) (Nat.le_of_ble_eq_true rfl) ?_
  exact y_ret C I rfl (by decide) (by decide) dX1_init_4
abbrev rm_X2_init : Room := { frames := 1, cells := 0, slots := 0, locals := 20 }
set_option maxRecDepth 100000 in
set_option maxHeartbeats 4000000 in
theorem ci_X2_init (d : G4) (b : Nat) : Cy d yX2_init cX2_init 1 rm_X2_init [.ref b] [] (fun w1 => w1 = []) := by
  refine cy_of (own := RX2) (by decide) rfl rfl (Nat.le_of_ble_eq_true rfl) (fun x C I => ?_)
  show Y d x _ _ 1 _ 0 0 [(0, .ref b)] [] 0
  refine y_aload_n C dX2_init_0 rfl 0 rfl ?_
  refine y_obj C ko_RX2_1 dX2_init_1 (by decide) (Nat.le_of_ble_eq_true rfl) ?_
  exact y_ret C I rfl (by decide) (by decide) dX2_init_4
abbrev rm_X3_init : Room := { frames := 1, cells := 7, slots := 32172, locals := 20 }
set_option maxRecDepth 100000 in
set_option maxHeartbeats 4000000 in
theorem ci_X3_init (d : G4) (b : Nat) : Cy d yX3_init cX3_init 1 rm_X3_init [.ref b] [(b, .inr (3, [.null, .null, .null, .null, .null, .null, .null, .int 0]))] (fun w1 => ∃ q1 q2 q3 q4 q5 q6 q7 : Nat, w1 = [(b, .inr (3, [.ref q1, .ref q2, .ref q3, .ref q4, .ref q5, .ref q6, .ref q7, .int 0])), (q1, zI d 66), (q2, zI d 4550), (q3, zI d 13650), (q4, zL d 4550), (q5, zL d 4550), (q6, zI d 4550), (q7, zI d 256)]) := by
  refine cy_of (own := RX3) (by decide) rfl rfl (Nat.le_of_ble_eq_true rfl) (fun x C I => ?_)
  show Y d x _ _ 1 _ 0 0 [(0, .ref b)] [] 0
  refine y_aload_n C dX3_init_0 rfl 0 rfl ?_
  refine y_obj C ko_RX3_3 dX3_init_1 (by decide) (Nat.le_of_ble_eq_true rfl) ?_
  refine y_aload_n C dX3_init_4 rfl 0 rfl ?_
  refine y_bipush C (v := (66 : Int32)) dX3_init_5 (by decide) ?_
  refine y_newI C (N := 66) ka_int (by decide) (by decide) (by decide) (by decide) (by decide) dX3_init_7 (fun q1 => ?_)
  refine Y.eq (ws' := [(b, .inr (3, [.null, .null, .null, .null, .null, .null, .null, .int 0])), (q1, zI d 66)]) (k' := 1) (n' := 66) rfl rfl rfl ?_
  refine y_put C I fl_RX3_9 ff_3_0 0 rfl (Nat.le_of_ble_eq_true rfl) rfl rfl dX3_init_9 ?_
  refine Y.eq (ws' := [(b, .inr (3, [.ref q1, .null, .null, .null, .null, .null, .null, .int 0])), (q1, zI d 66)]) (k' := 1) (n' := 66) rfl rfl rfl ?_
  refine y_aload_n C dX3_init_12 rfl 0 rfl ?_
  refine y_sipush C (v := (4550 : Int32)) dX3_init_13 (by decide) ?_
  refine y_newI C (N := 4550) ka_int (by decide) (by decide) (by decide) (by decide) (by decide) dX3_init_16 (fun q2 => ?_)
  refine Y.eq (ws' := [(b, .inr (3, [.ref q1, .null, .null, .null, .null, .null, .null, .int 0])), (q1, zI d 66), (q2, zI d 4550)]) (k' := 2) (n' := 4616) rfl rfl rfl ?_
  refine y_put C I fl_RX3_15 ff_3_1 0 rfl (Nat.le_of_ble_eq_true rfl) rfl rfl dX3_init_18 ?_
  refine Y.eq (ws' := [(b, .inr (3, [.ref q1, .ref q2, .null, .null, .null, .null, .null, .int 0])), (q1, zI d 66), (q2, zI d 4550)]) (k' := 2) (n' := 4616) rfl rfl rfl ?_
  refine y_aload_n C dX3_init_21 rfl 0 rfl ?_
  refine y_sipush C (v := (13650 : Int32)) dX3_init_22 (by decide) ?_
  refine y_newI C (N := 13650) ka_int (by decide) (by decide) (by decide) (by decide) (by decide) dX3_init_25 (fun q3 => ?_)
  refine Y.eq (ws' := [(b, .inr (3, [.ref q1, .ref q2, .null, .null, .null, .null, .null, .int 0])), (q1, zI d 66), (q2, zI d 4550), (q3, zI d 13650)]) (k' := 3) (n' := 18266) rfl rfl rfl ?_
  refine y_put C I fl_RX3_18 ff_3_2 0 rfl (Nat.le_of_ble_eq_true rfl) rfl rfl dX3_init_27 ?_
  refine Y.eq (ws' := [(b, .inr (3, [.ref q1, .ref q2, .ref q3, .null, .null, .null, .null, .int 0])), (q1, zI d 66), (q2, zI d 4550), (q3, zI d 13650)]) (k' := 3) (n' := 18266) rfl rfl rfl ?_
  refine y_aload_n C dX3_init_30 rfl 0 rfl ?_
  refine y_sipush C (v := (4550 : Int32)) dX3_init_31 (by decide) ?_
  refine y_newL C (N := 4550) ka_long (by decide) (by decide) (by decide) (by decide) (by decide) dX3_init_34 (fun q4 => ?_)
  refine Y.eq (ws' := [(b, .inr (3, [.ref q1, .ref q2, .ref q3, .null, .null, .null, .null, .int 0])), (q1, zI d 66), (q2, zI d 4550), (q3, zI d 13650), (q4, zL d 4550)]) (k' := 4) (n' := 22816) rfl rfl rfl ?_
  refine y_put C I fl_RX3_21 ff_3_3 0 rfl (Nat.le_of_ble_eq_true rfl) rfl rfl dX3_init_36 ?_
  refine Y.eq (ws' := [(b, .inr (3, [.ref q1, .ref q2, .ref q3, .ref q4, .null, .null, .null, .int 0])), (q1, zI d 66), (q2, zI d 4550), (q3, zI d 13650), (q4, zL d 4550)]) (k' := 4) (n' := 22816) rfl rfl rfl ?_
  refine y_aload_n C dX3_init_39 rfl 0 rfl ?_
  refine y_sipush C (v := (4550 : Int32)) dX3_init_40 (by decide) ?_
  refine y_newL C (N := 4550) ka_long (by decide) (by decide) (by decide) (by decide) (by decide) dX3_init_43 (fun q5 => ?_)
  refine Y.eq (ws' := [(b, .inr (3, [.ref q1, .ref q2, .ref q3, .ref q4, .null, .null, .null, .int 0])), (q1, zI d 66), (q2, zI d 4550), (q3, zI d 13650), (q4, zL d 4550), (q5, zL d 4550)]) (k' := 5) (n' := 27366) rfl rfl rfl ?_
  refine y_put C I fl_RX3_25 ff_3_4 0 rfl (Nat.le_of_ble_eq_true rfl) rfl rfl dX3_init_45 ?_
  refine Y.eq (ws' := [(b, .inr (3, [.ref q1, .ref q2, .ref q3, .ref q4, .ref q5, .null, .null, .int 0])), (q1, zI d 66), (q2, zI d 4550), (q3, zI d 13650), (q4, zL d 4550), (q5, zL d 4550)]) (k' := 5) (n' := 27366) rfl rfl rfl ?_
  refine y_aload_n C dX3_init_48 rfl 0 rfl ?_
  refine y_sipush C (v := (4550 : Int32)) dX3_init_49 (by decide) ?_
  refine y_newI C (N := 4550) ka_int (by decide) (by decide) (by decide) (by decide) (by decide) dX3_init_52 (fun q6 => ?_)
  refine Y.eq (ws' := [(b, .inr (3, [.ref q1, .ref q2, .ref q3, .ref q4, .ref q5, .null, .null, .int 0])), (q1, zI d 66), (q2, zI d 4550), (q3, zI d 13650), (q4, zL d 4550), (q5, zL d 4550), (q6, zI d 4550)]) (k' := 6) (n' := 31916) rfl rfl rfl ?_
  refine y_put C I fl_RX3_28 ff_3_5 0 rfl (Nat.le_of_ble_eq_true rfl) rfl rfl dX3_init_54 ?_
  refine Y.eq (ws' := [(b, .inr (3, [.ref q1, .ref q2, .ref q3, .ref q4, .ref q5, .ref q6, .null, .int 0])), (q1, zI d 66), (q2, zI d 4550), (q3, zI d 13650), (q4, zL d 4550), (q5, zL d 4550), (q6, zI d 4550)]) (k' := 6) (n' := 31916) rfl rfl rfl ?_
  refine y_aload_n C dX3_init_57 rfl 0 rfl ?_
  refine y_sipush C (v := (256 : Int32)) dX3_init_58 (by decide) ?_
  refine y_newI C (N := 256) ka_int (by decide) (by decide) (by decide) (by decide) (by decide) dX3_init_61 (fun q7 => ?_)
  refine Y.eq (ws' := [(b, .inr (3, [.ref q1, .ref q2, .ref q3, .ref q4, .ref q5, .ref q6, .null, .int 0])), (q1, zI d 66), (q2, zI d 4550), (q3, zI d 13650), (q4, zL d 4550), (q5, zL d 4550), (q6, zI d 4550), (q7, zI d 256)]) (k' := 7) (n' := 32172) rfl rfl rfl ?_
  refine y_put C I fl_RX3_31 ff_3_6 0 rfl (Nat.le_of_ble_eq_true rfl) rfl rfl dX3_init_63 ?_
  refine Y.eq (ws' := [(b, .inr (3, [.ref q1, .ref q2, .ref q3, .ref q4, .ref q5, .ref q6, .ref q7, .int 0])), (q1, zI d 66), (q2, zI d 4550), (q3, zI d 13650), (q4, zL d 4550), (q5, zL d 4550), (q6, zI d 4550), (q7, zI d 256)]) (k' := 7) (n' := 32172) rfl rfl rfl ?_
  exact y_ret C I ⟨q1, q2, q3, q4, q5, q6, q7, rfl⟩ (by decide) (by decide) dX3_init_66
abbrev rm_X0_init : Room := { frames := 2, cells := 2, slots := 69, locals := 40 }
set_option maxRecDepth 100000 in
set_option maxHeartbeats 4000000 in
theorem ci_X0_init (d : G4) (b : Nat) : Cy d yX0_init cX0_init 1 rm_X0_init [.ref b] [(b, .inr (0, [.null, .null, .long 0]))] (fun w1 => ∃ q1 q2 : Nat, w1 = [(b, .inr (0, [.ref q1, .ref q2, .long 0])), (q1, .inr (2, [.int 0, .long 0, .long 0, .long 0])), (q2, zL d 65)]) := by
  refine cy_of (own := RX0) (by decide) rfl rfl (Nat.le_of_ble_eq_true rfl) (fun x C I => ?_)
  show Y d x _ _ 1 _ 0 0 [(0, .ref b)] [] 0
  refine y_aload_n C dX0_init_0 rfl 0 rfl ?_
  refine y_obj C ko_RX0_3 dX0_init_1 (by decide) (Nat.le_of_ble_eq_true rfl) ?_
  refine y_aload_n C dX0_init_4 rfl 0 rfl ?_
  refine y_new C (fs := [.int 0, .long 0, .long 0, .long 0]) kn_RX0_9 (by decide) (by decide) (by decide) dX0_init_5 (fun q1 => ?_)
  refine Y.eq (ws' := [(b, .inr (0, [.null, .null, .long 0])), (q1, .inr (2, [.int 0, .long 0, .long 0, .long 0]))]) (k' := 1) (n' := 4) rfl rfl rfl ?_
  refine y_dup C dX0_init_8 rfl ?_
  refine y_callN C (wr := [(b, .inr (0, [.null, .null, .long 0])), (q1, .inr (2, [.int 0, .long 0, .long 0, .long 0]))]) (ci_X2_init d q1) km_X2_init im_X2_init rfl C.2.2.2.2.2.2.1.2.2.2.2.2.1 [] [0, 1] rfl (by decide) rfl (by decide) (by decide) (by decide) (Nat.le_of_ble_eq_true rfl) (by decide) dX0_init_9 (fun w1 hw => ?_)
  subst hw
  refine Y.eq (ws' := [(b, .inr (0, [.null, .null, .long 0])), (q1, .inr (2, [.int 0, .long 0, .long 0, .long 0]))]) (k' := 1) (n' := 4) rfl rfl rfl ?_
  refine y_put C I fl_RX0_12 ff_0_0 0 rfl (Nat.le_of_ble_eq_true rfl) rfl rfl dX0_init_12 ?_
  refine Y.eq (ws' := [(b, .inr (0, [.ref q1, .null, .long 0])), (q1, .inr (2, [.int 0, .long 0, .long 0, .long 0]))]) (k' := 1) (n' := 4) rfl rfl rfl ?_
  refine y_aload_n C dX0_init_15 rfl 0 rfl ?_
  refine y_bipush C (v := (65 : Int32)) dX0_init_16 (by decide) ?_
  refine y_newL C (N := 65) ka_long (by decide) (by decide) (by decide) (by decide) (by decide) dX0_init_18 (fun q2 => ?_)
  refine Y.eq (ws' := [(b, .inr (0, [.ref q1, .null, .long 0])), (q1, .inr (2, [.int 0, .long 0, .long 0, .long 0])), (q2, zL d 65)]) (k' := 2) (n' := 69) rfl rfl rfl ?_
  refine y_put C I fl_RX0_18 ff_0_1 0 rfl (Nat.le_of_ble_eq_true rfl) rfl rfl dX0_init_20 ?_
  refine Y.eq (ws' := [(b, .inr (0, [.ref q1, .ref q2, .long 0])), (q1, .inr (2, [.int 0, .long 0, .long 0, .long 0])), (q2, zL d 65)]) (k' := 2) (n' := 69) rfl rfl rfl ?_
  exact y_ret C I ⟨q1, q2, rfl⟩ (by decide) (by decide) dX0_init_23
abbrev rm_X4_init : Room := { frames := 2, cells := 4, slots := 76, locals := 40 }
set_option maxRecDepth 100000 in
set_option maxHeartbeats 4000000 in
theorem ci_X4_init (d : G4) (b : Nat) : Cy d yX4_init cX4_init 1 rm_X4_init [.ref b] [(b, .inr (4, [.null, .null, .null, .null, .int 0]))] (fun w1 => ∃ q1 q2 q3 q4 : Nat, w1 = [(b, .inr (4, [.ref q1, .ref q2, .ref q3, .ref q4, .int 0])), (q1, .inr (2, [.int 0, .long 0, .long 0, .long 0])), (q2, .inr (2, [.int 0, .long 0, .long 0, .long 0])), (q3, .inr (2, [.int 0, .long 0, .long 0, .long 0])), (q4, zI d 64)]) := by
  refine cy_of (own := RX4) (by decide) rfl rfl (Nat.le_of_ble_eq_true rfl) (fun x C I => ?_)
  show Y d x _ _ 1 _ 0 0 [(0, .ref b)] [] 0
  refine y_aload_n C dX4_init_0 rfl 0 rfl ?_
  refine y_obj C ko_RX4_3 dX4_init_1 (by decide) (Nat.le_of_ble_eq_true rfl) ?_
  refine y_aload_n C dX4_init_4 rfl 0 rfl ?_
  refine y_new C (fs := [.int 0, .long 0, .long 0, .long 0]) kn_RX4_9 (by decide) (by decide) (by decide) dX4_init_5 (fun q1 => ?_)
  refine Y.eq (ws' := [(b, .inr (4, [.null, .null, .null, .null, .int 0])), (q1, .inr (2, [.int 0, .long 0, .long 0, .long 0]))]) (k' := 1) (n' := 4) rfl rfl rfl ?_
  refine y_dup C dX4_init_8 rfl ?_
  refine y_callN C (wr := [(b, .inr (4, [.null, .null, .null, .null, .int 0])), (q1, .inr (2, [.int 0, .long 0, .long 0, .long 0]))]) (ci_X2_init d q1) km_X2_init im_X2_init rfl C.2.2.2.2.2.2.1.2.2.2.2.2.2.1 [] [0, 1] rfl (by decide) rfl (by decide) (by decide) (by decide) (Nat.le_of_ble_eq_true rfl) (by decide) dX4_init_9 (fun w1 hw => ?_)
  subst hw
  refine Y.eq (ws' := [(b, .inr (4, [.null, .null, .null, .null, .int 0])), (q1, .inr (2, [.int 0, .long 0, .long 0, .long 0]))]) (k' := 1) (n' := 4) rfl rfl rfl ?_
  refine y_put C I fl_RX4_12 ff_4_0 0 rfl (Nat.le_of_ble_eq_true rfl) rfl rfl dX4_init_12 ?_
  refine Y.eq (ws' := [(b, .inr (4, [.ref q1, .null, .null, .null, .int 0])), (q1, .inr (2, [.int 0, .long 0, .long 0, .long 0]))]) (k' := 1) (n' := 4) rfl rfl rfl ?_
  refine y_aload_n C dX4_init_15 rfl 0 rfl ?_
  refine y_new C (fs := [.int 0, .long 0, .long 0, .long 0]) kn_RX4_9 (by decide) (by decide) (by decide) dX4_init_16 (fun q2 => ?_)
  refine Y.eq (ws' := [(b, .inr (4, [.ref q1, .null, .null, .null, .int 0])), (q1, .inr (2, [.int 0, .long 0, .long 0, .long 0])), (q2, .inr (2, [.int 0, .long 0, .long 0, .long 0]))]) (k' := 2) (n' := 8) rfl rfl rfl ?_
  refine y_dup C dX4_init_19 rfl ?_
  refine y_callN C (wr := [(b, .inr (4, [.ref q1, .null, .null, .null, .int 0])), (q1, .inr (2, [.int 0, .long 0, .long 0, .long 0])), (q2, .inr (2, [.int 0, .long 0, .long 0, .long 0]))]) (ci_X2_init d q2) km_X2_init im_X2_init rfl C.2.2.2.2.2.2.1.2.2.2.2.2.2.1 [] [0, 1, 2] rfl (by decide) rfl (by decide) (by decide) (by decide) (Nat.le_of_ble_eq_true rfl) (by decide) dX4_init_20 (fun w1 hw => ?_)
  subst hw
  refine Y.eq (ws' := [(b, .inr (4, [.ref q1, .null, .null, .null, .int 0])), (q1, .inr (2, [.int 0, .long 0, .long 0, .long 0])), (q2, .inr (2, [.int 0, .long 0, .long 0, .long 0]))]) (k' := 2) (n' := 8) rfl rfl rfl ?_
  refine y_put C I fl_RX4_18 ff_4_1 0 rfl (Nat.le_of_ble_eq_true rfl) rfl rfl dX4_init_23 ?_
  refine Y.eq (ws' := [(b, .inr (4, [.ref q1, .ref q2, .null, .null, .int 0])), (q1, .inr (2, [.int 0, .long 0, .long 0, .long 0])), (q2, .inr (2, [.int 0, .long 0, .long 0, .long 0]))]) (k' := 2) (n' := 8) rfl rfl rfl ?_
  refine y_aload_n C dX4_init_26 rfl 0 rfl ?_
  refine y_new C (fs := [.int 0, .long 0, .long 0, .long 0]) kn_RX4_9 (by decide) (by decide) (by decide) dX4_init_27 (fun q3 => ?_)
  refine Y.eq (ws' := [(b, .inr (4, [.ref q1, .ref q2, .null, .null, .int 0])), (q1, .inr (2, [.int 0, .long 0, .long 0, .long 0])), (q2, .inr (2, [.int 0, .long 0, .long 0, .long 0])), (q3, .inr (2, [.int 0, .long 0, .long 0, .long 0]))]) (k' := 3) (n' := 12) rfl rfl rfl ?_
  refine y_dup C dX4_init_30 rfl ?_
  refine y_callN C (wr := [(b, .inr (4, [.ref q1, .ref q2, .null, .null, .int 0])), (q1, .inr (2, [.int 0, .long 0, .long 0, .long 0])), (q2, .inr (2, [.int 0, .long 0, .long 0, .long 0])), (q3, .inr (2, [.int 0, .long 0, .long 0, .long 0]))]) (ci_X2_init d q3) km_X2_init im_X2_init rfl C.2.2.2.2.2.2.1.2.2.2.2.2.2.1 [] [0, 1, 2, 3] rfl (by decide) rfl (by decide) (by decide) (by decide) (Nat.le_of_ble_eq_true rfl) (by decide) dX4_init_31 (fun w1 hw => ?_)
  subst hw
  refine Y.eq (ws' := [(b, .inr (4, [.ref q1, .ref q2, .null, .null, .int 0])), (q1, .inr (2, [.int 0, .long 0, .long 0, .long 0])), (q2, .inr (2, [.int 0, .long 0, .long 0, .long 0])), (q3, .inr (2, [.int 0, .long 0, .long 0, .long 0]))]) (k' := 3) (n' := 12) rfl rfl rfl ?_
  refine y_put C I fl_RX4_21 ff_4_2 0 rfl (Nat.le_of_ble_eq_true rfl) rfl rfl dX4_init_34 ?_
  refine Y.eq (ws' := [(b, .inr (4, [.ref q1, .ref q2, .ref q3, .null, .int 0])), (q1, .inr (2, [.int 0, .long 0, .long 0, .long 0])), (q2, .inr (2, [.int 0, .long 0, .long 0, .long 0])), (q3, .inr (2, [.int 0, .long 0, .long 0, .long 0]))]) (k' := 3) (n' := 12) rfl rfl rfl ?_
  refine y_aload_n C dX4_init_37 rfl 0 rfl ?_
  refine y_bipush C (v := (64 : Int32)) dX4_init_38 (by decide) ?_
  refine y_newI C (N := 64) ka_int (by decide) (by decide) (by decide) (by decide) (by decide) dX4_init_40 (fun q4 => ?_)
  refine Y.eq (ws' := [(b, .inr (4, [.ref q1, .ref q2, .ref q3, .null, .int 0])), (q1, .inr (2, [.int 0, .long 0, .long 0, .long 0])), (q2, .inr (2, [.int 0, .long 0, .long 0, .long 0])), (q3, .inr (2, [.int 0, .long 0, .long 0, .long 0])), (q4, zI d 64)]) (k' := 4) (n' := 76) rfl rfl rfl ?_
  refine y_put C I fl_RX4_24 ff_4_3 0 rfl (Nat.le_of_ble_eq_true rfl) rfl rfl dX4_init_42 ?_
  refine Y.eq (ws' := [(b, .inr (4, [.ref q1, .ref q2, .ref q3, .ref q4, .int 0])), (q1, .inr (2, [.int 0, .long 0, .long 0, .long 0])), (q2, .inr (2, [.int 0, .long 0, .long 0, .long 0])), (q3, .inr (2, [.int 0, .long 0, .long 0, .long 0])), (q4, zI d 64)]) (k' := 4) (n' := 76) rfl rfl rfl ?_
  exact y_ret C I ⟨q1, q2, q3, q4, rfl⟩ (by decide) (by decide) dX4_init_45
