/-! ===== constructors: a world that grows, as a list of cells ===== -/
abbrev G4 : Type := va_G × (ClassId × ClassId × ClassId × ClassId)
def ty4 (d : G4) : List (ClassId × FieldType) := [(d.2.1, .int), (d.2.2.1, .long), (d.2.2.2.1, .boolean), (d.2.2.2.2, .object RX2)]
abbrev zI (d : G4) (n : Nat) : va_E := .inl (d.2.1, n, .inl (fun _ => 0))
abbrev zL (d : G4) (n : Nat) : va_E := .inl (d.2.2.1, n, .inr (.inl (fun _ => 0)))
abbrev zZ (d : G4) (n : Nat) : va_E := .inl (d.2.2.2.1, n, .inl (fun _ => 0))
abbrev zO (d : G4) (f : Nat → Option Nat) : va_E := .inl (d.2.2.2.2, 4, .inr (.inr (.inr (.inr f))))
/-- words that a callee can't take over by themselves: nest mates' constructors, the array over layings -/
def Nst (U : State) : Prop := va_Nw (.methodLinkNest RX5 11 yX1_init RX5) U ∧ va_Nw (.methodLinkNest RX5 18 yX3_init RX5) U ∧ va_Nw (.methodLinkNest RX5 25 yX0_init RX5) U ∧ va_Nw (.methodLinkNest RX5 32 yX4_init RX5) U ∧ va_Nw (.methodLinkNest RX5 43 yX2_init RX5) U ∧ va_Nw (.methodLinkNest RX0 11 yX2_init RX5) U ∧ va_Nw (.methodLinkNest RX4 11 yX2_init RX5) U ∧ va_AO RX2 U
theorem nst_warm {s U : State} (hW : s.WarmedH U.vm) (h : Nst s) : Nst U := ⟨h.1.warmM hW, h.2.1.warmM hW, h.2.2.1.warmM hW, h.2.2.2.1.warmM hW, h.2.2.2.2.1.warmM hW, h.2.2.2.2.2.1.warmM hW, h.2.2.2.2.2.2.1.warmM hW, h.2.2.2.2.2.2.2.moved hW.alike⟩
theorem nst_same {s U : State} (e : s.vm = U.vm) (h : Nst s) : Nst U := ⟨h.1.same rfl e, h.2.1.same rfl e, h.2.2.1.same rfl e, h.2.2.2.1.same rfl e, h.2.2.2.2.1.same rfl e, h.2.2.2.2.2.1.same rfl e, h.2.2.2.2.2.2.1.same rfl e, by
  have h1 := h.2.2.2.2.2.2.2
  refine va_AO.moved ?_ h1
  rw [e]
  exact Vm.Alike.refl _⟩
def Y (d : G4) (x : Cx) (Q : State → Prop) (A : Nat → Prop) (nL : Nat) (ws : va_W) (k n : Nat) (lv : List (Nat × Value)) (st : List Value) (pc : Nat) : Prop :=
  ∀ (H : Heap) (locs : List Loc) (ls : Array Slot), va_P d.1 vwCl ws H → va_D A ws → va_S A (Cx.s x).heap H locs → lv_has ls nL lv → W (Cx.p x) (Cx.l x) (Cx.e x) (Cx.R x) (Cx.s x) (Cx.m x) (Cx.args x) (Cx.below x) (Cx.meth x) (Cx.c x) H locs k n Q (F0 (Cx.m x) pc ls st)
def OkY (d : G4) (x : Cx) (cc : ByteArray) (own : String) (nL : Nat) (rm : Room) (A : Nat → Prop) : Prop :=
  (Cx.p x).tables.exec = Jvm.exec ∧ (Cx.c x).code = cc ∧ (Cx.c x).maxLocals = nL ∧ (Cx.s x).vm.findClass own = some (Cx.m x).cls ∧ (∀ w ∈ wT, w.before (Cx.args x) (Cx.s x) = true) ∧ va_K d.1 vwCl (ty4 d) (Cx.s x) ∧ Nst (Cx.s x) ∧ Cx.R x = rm ∧ ∀ q, (Cx.s x).heap.size ≤ q → A q
def OkI (x : Cx) : Prop := (Cx.meth x).name = "<init>" ∧ (Cx.meth x).sig.returnType = none ∧ (Cx.meth x).locks = false
def PcY (d : G4) (av : List Value) (w0 : va_W) (sz : Nat) : Array Value → State → Prop := fun a U => a = av.toArray ∧ U.heap.size = sz ∧ va_P d.1 vwCl w0 U.heap ∧ va_K d.1 vwCl (ty4 d) U ∧ va_D (fun _ => True) w0 ∧ Nst U
def QcY (d : G4) (w0 : va_W) (post : va_W → Prop) (sz : Nat) : Array Value → State → Outcome → State → Prop := fun _ st oc t => oc = .returned none ∧ (∃ w1, post w1 ∧ va_P d.1 vwCl w1 t.heap ∧ va_D (va_A w0 sz) w1) ∧ va_F (va_A w0 sz) st t
def Cy (d : G4) (y : MethodName) (cc : ByteArray) (nL : Nat) (rm : Room) (av : List Value) (w0 : va_W) (post : va_W → Prop) : Prop :=
  ∀ (l : Launch) (sz : Nat), Met l y (.code y cc nL none :: wT) rm (PcY d av w0 sz) (QcY d w0 post sz) rm.cells rm.slots (va_A w0 sz)
def qy (d : G4) (x : Cx) (w0 : va_W) (post : va_W → Prop) (rm : Room) : State → Prop := MQ (Cx.below x) (QcY d w0 post (Cx.s x).heap.size) (Cx.args x) (Cx.s x) rm.cells rm.slots (va_A w0 (Cx.s x).heap.size)
theorem pcY_blind (d : G4) (av : List Value) (w0 : va_W) (sz : Nat) : FrameBlind (PcY d av w0 sz) := by
  intro a U f mk q
  obtain ⟨q0, q1, qP, qK, qD, qN⟩ := q
  exact ⟨q0, q1, qP, va_K.moved (u := U) (U := U.calling f mk a) (Vm.Alike.refl U.vm) qK, qD, nst_same (U := U.calling f mk a) rfl qN⟩
theorem cy_of {d : G4} {y : MethodName} {cc : ByteArray} {nL : Nat} {rm : Room} {av : List Value} {w0 : va_W} {post : va_W → Prop} {own : String} (hy : plainName y.cls = true) (ho : y.cls = own) (hn : y.name = "<init>") (hfit : (lg_sl av).length ≤ nL)
    (h : ∀ (x : Cx), OkY d x cc own nL rm (va_A w0 (Cx.s x).heap.size) → OkI x → Y d x (qy d x w0 post rm) (va_A w0 (Cx.s x).heap.size) nL w0 0 0 (lv_args 0 av) [] 0) : Cy d y cc nL rm av w0 post := by
  intro l sz
  refine Met.ofW (cc := cc) (maxL := nL) (ret := none) hy rfl ?_
  intro p e s m args below meth c s₁ B hml hv
  obtain ⟨rfl, hsz, hP, hK, hD, hN⟩ := hv
  have hts := atoms_spec (ws := .code y cc nL none :: wT) B.pre
  have hown : s.vm.findClass own = some m.cls := by rw [← ho]; exact findClass_of_methodNamed B.named
  have hin : meth.name = "<init>" := by rw [(name_of_methodNamed B.named B.method).1]; exact hn
  have hl := lv_entry av (n := nL) hfit
  rw [lg_entry_eq]
  subst hsz
  have key := h (p, l, e, (headSpec (.code y cc nL none :: wT) rm).room, s, m, av.toArray, below, meth, c, 0, 0) ⟨B.exec, B.bytes, hml, hown, fun w hw => hts w (List.mem_cons_of_mem _ hw), hK, hN, rfl, fun q hq => Or.inr hq⟩ ⟨hin, B.returns, B.notSynchronized⟩ s.heap [] _ hP hD.self va_S.rf hl
  exact key
section YR
variable {d : G4} {x : Cx} {Q : State → Prop} {A : Nat → Prop} {nL k n : Nat} {ws : va_W} {lv : List (Nat × Value)} {st : List Value} {pc : Nat} {cc : ByteArray} {own : String} {rm : Room}
theorem Y.eq {ws' : va_W} {k' n' : Nat} (h : ws = ws') (h1 : k = k') (h2 : n = n') (kk : Y d x Q A nL ws' k' n' lv st pc) : Y d x Q A nL ws k n lv st pc := by subst h; subst h1; subst h2; exact kk
theorem y_iconst (C : OkY d x cc own nL rm A) {i : Int} {v : Int32} (hd : decode cc pc = .ok (.iconst i, 1)) (hv : Int32.ofInt i = v) (kk : Y d x Q A nL ws k n lv (.int v :: st) (pc + 1)) : Y d x Q A nL ws k n lv st pc :=
  fun H locs ls hP hD hS hl => lv_iconst C.1 C.2.1 hd hv (kk H locs ls hP hD hS hl)
theorem y_bipush (C : OkY d x cc own nL rm A) {i : Int} {v : Int32} (hd : decode cc pc = .ok (.bipush i, 2)) (hv : (Int8.ofInt i).toInt32 = v) (kk : Y d x Q A nL ws k n lv (.int v :: st) (pc + 2)) : Y d x Q A nL ws k n lv st pc :=
  fun H locs ls hP hD hS hl => lv_bipush C.1 C.2.1 hd hv (kk H locs ls hP hD hS hl)
theorem y_sipush (C : OkY d x cc own nL rm A) {i : Int} {v : Int32} (hd : decode cc pc = .ok (.sipush i, 3)) (hv : (Int16.ofInt i).toInt32 = v) (kk : Y d x Q A nL ws k n lv (.int v :: st) (pc + 3)) : Y d x Q A nL ws k n lv st pc :=
  fun H locs ls hP hD hS hl => lv_sipush C.1 C.2.1 hd hv (kk H locs ls hP hD hS hl)
theorem y_aload_n (C : OkY d x cc own nL rm A) {i : Fin 4} {j : Nat} {a : Nat} (hd : decode cc pc = .ok (.aload_n i, 1)) (hi : (i : Nat) = j) (q : Nat) (hj : lv[q]? = some (j, .ref a)) (kk : Y d x Q A nL ws k n lv (.ref a :: st) (pc + 1)) : Y d x Q A nL ws k n lv st pc :=
  fun H locs ls hP hD hS hl => lv_aload_n C.1 C.2.1 hd hi (lv_at hl q hj) (kk H locs ls hP hD hS hl)
theorem y_iload_n (C : OkY d x cc own nL rm A) {i : Fin 4} {j : Nat} {a : Int32} (hd : decode cc pc = .ok (.iload_n i, 1)) (hi : (i : Nat) = j) (q : Nat) (hj : lv[q]? = some (j, .int a)) (kk : Y d x Q A nL ws k n lv (.int a :: st) (pc + 1)) : Y d x Q A nL ws k n lv st pc :=
  fun H locs ls hP hD hS hl => lv_iload_n C.1 C.2.1 hd hi (lv_at hl q hj) (kk H locs ls hP hD hS hl)
theorem y_istore_n (C : OkY d x cc own nL rm A) {i : Fin 4} {j : Nat} {a : Int32} {lv' : List (Nat × Value)} (hd : decode cc pc = .ok (.istore_n i, 1)) (hi : (i : Nat) = j) (hn : j < nL) (hl' : (j, Value.int a) :: lv.filter (fun q => !(q.1 == j) && !(q.1 + 1 == j && q.2.category == 2)) = lv') (kk : Y d x Q A nL ws k n lv' st (pc + 1)) : Y d x Q A nL ws k n lv (.int a :: st) pc :=
  fun H locs ls hP hD hS hl => lv_istore_n C.1 C.2.1 hd hi hl hn hl' (fun ls' h => kk H locs ls' hP hD hS h)
theorem y_astore_n (C : OkY d x cc own nL rm A) {i : Fin 4} {j : Nat} {a : Nat} {lv' : List (Nat × Value)} (hd : decode cc pc = .ok (.astore_n i, 1)) (hi : (i : Nat) = j) (hn : j < nL) (hl' : (j, Value.ref a) :: lv.filter (fun q => !(q.1 == j) && !(q.1 + 1 == j && q.2.category == 2)) = lv') (kk : Y d x Q A nL ws k n lv' st (pc + 1)) : Y d x Q A nL ws k n lv (.ref a :: st) pc :=
  fun H locs ls hP hD hS hl => lv_astore_n C.1 C.2.1 hd hi hl hn hl' (fun ls' h => kk H locs ls' hP hD hS h)
theorem y_iinc (C : OkY d x cc own nL rm A) {i : Nat} {z : Int} {a v : Int32} {lv' : List (Nat × Value)} (hd : decode cc pc = .ok (.iinc i z, 3)) (j : Nat) (hj : lv[j]? = some (i, .int a)) (hv : a + Int32.ofInt z = v) (hn : i < nL) (hl' : (i, Value.int v) :: lv.filter (fun q => !(q.1 == i) && !(q.1 + 1 == i && q.2.category == 2)) = lv') (kk : Y d x Q A nL ws k n lv' st (pc + 3)) : Y d x Q A nL ws k n lv st pc :=
  fun H locs ls hP hD hS hl => lv_iinc C.1 C.2.1 hd hl hj hv hn hl' (fun ls' h => kk H locs ls' hP hD hS h)
theorem y_dup (C : OkY d x cc own nL rm A) {va : Value} (hd : decode cc pc = .ok (.dup, 1)) (hva : va.category = 1) (kk : Y d x Q A nL ws k n lv (va :: va :: st) (pc + 1)) : Y d x Q A nL ws k n lv (va :: st) pc :=
  fun H locs ls hP hD hS hl => lv_dup C.1 C.2.1 hd hva (kk H locs ls hP hD hS hl)
theorem y_goto (C : OkY d x cc own nL rm A) {off : Int} {tgt : Nat} (hd : decode cc pc = .ok (.goto off, 3)) (ht : (pc : Int) + off = (tgt : Int)) (kk : Y d x Q A nL ws k n lv st tgt) : Y d x Q A nL ws k n lv st pc :=
  fun H locs ls hP hD hS hl => lv_goto C.1 C.2.1 hd ht (kk H locs ls hP hD hS hl)
theorem y_ge_t (C : OkY d x cc own nL rm A) {a b : Int32} {off : Int} {tgt : Nat} (hd : decode cc pc = .ok (.if_icmp .ge off, 3)) (ht : (pc : Int) + off = (tgt : Int)) (hc : b ≤ a) (kk : Y d x Q A nL ws k n lv st tgt) : Y d x Q A nL ws k n lv (.int b :: .int a :: st) pc :=
  fun H locs ls hP hD hS hl => lv_icmp_ge C.1 C.2.1 hd ht (fun _ => kk H locs ls hP hD hS hl) (fun h => absurd hc h)
theorem y_ge_f (C : OkY d x cc own nL rm A) {a b : Int32} {off : Int} {tgt : Nat} (hd : decode cc pc = .ok (.if_icmp .ge off, 3)) (ht : (pc : Int) + off = (tgt : Int)) (hc : ¬ b ≤ a) (kk : Y d x Q A nL ws k n lv st (pc + 3)) : Y d x Q A nL ws k n lv (.int b :: .int a :: st) pc :=
  fun H locs ls hP hD hS hl => lv_icmp_ge C.1 C.2.1 hd ht (fun h => absurd h hc) (fun _ => kk H locs ls hP hD hS hl)
/-- java.lang.Object's constructor -/
def KO (own : String) (idx : Nat) : Prop := Cond.methodLink own idx objectInit ∈ wT ∧ Cond.instanceMethod objectInit ∈ wT ∧ Cond.code objectInit ⟨#[0xb1]⟩ 1 none ∈ wT
theorem y_obj (C : OkY d x cc own nL rm A) {idx a : Nat} (hk : KO own idx) (hd : decode cc pc = .ok (.invokespecial idx, 3)) (hR : 1 ≤ rm.frames ∧ 20 ≤ rm.locals) (hW : (st.map fun v => v.category).sum ≤ 8) (kk : Y d x Q A nL ws k n lv st (pc + 3)) : Y d x Q A nL ws k n lv (.ref a :: st) pc := by
  intro H locs ls hP hD hS hl
  obtain ⟨hx, hb, hml, hown, hts, hK, hN, hRR, hA⟩ := C
  refine W.objInit hx hb hown (hts _ hk.1) (hts _ hk.2.1) (hts _ hk.2.2) rfl (by rw [hml]; exact hl.1) rfl hd ?_ ?_ (kk H locs ls hP hD hS hl)
  · rw [hRR]; exact hR.1
  · rw [hRR]
    have h2 : 2 * (F0 (Cx.m x) pc ls (.ref a :: st)).monitorRoom + (st.map fun v => v.category).sum ≤ 8 := lv_room hW
    omega
/-- a class that can be made -/
def KN (own : String) (idx c : Nat) : Prop := Cond.classLink own idx (clN c) ∈ wT ∧ Cond.instantiable (clN c) (nf c) ∈ wT ∧ Cond.initialized (clN c) ∈ wT ∧ c < 7
theorem y_new (C : OkY d x cc own nL rm A) {idx c : Nat} {fs : List Value} (hk : KN own idx c) (hfs : ∀ j, j < nf c → defaultValue (clY c j) = vp_V fs j) (hc : k + 1 ≤ rm.cells) (hn : n + nf c ≤ rm.slots) (hd : decode cc pc = .ok (.new idx, 3)) (kk : ∀ q : Nat, Y d x Q A nL (ws ++ [(q, .inr (c, fs))]) (k + 1) (n + nf c) lv (.ref q :: st) (pc + 3)) : Y d x Q A nL ws k n lv st pc := by
  intro H locs ls hP hD hS hl
  obtain ⟨hx, hb, hml, hown, hts, hK, hN, hRR, hA⟩ := C
  refine va_new hx hb hts (cl_in hk.2.2.2) (clY c) (cl_ty hk.2.2.2) hown (hts _ hk.1) (hts _ hk.2.1) (hts _ hk.2.2.1) hK hP hD hS hA (cl_at hk.2.2.2) hfs ?_ ?_ hd (fun q H1 hP1 hD1 hS1 => kk q H1 locs ls hP1 hD1 hS1 hl)
  · rw [hRR]; exact hc
  · rw [hRR]; exact hn
theorem y_newI (C : OkY d x cc own nL rm A) {v : Int32} {N : Nat} (hk : Cond.arrayClass .int ∈ wT) (hv : ¬ v < 0) (hN : v.toNatClampNeg = N) (hb4 : N ≤ 20000) (hc : k + 1 ≤ rm.cells) (hn : n + N ≤ rm.slots) (hd : decode cc pc = .ok (.newarray .int, 2)) (kk : ∀ q : Nat, Y d x Q A nL (ws ++ [(q, zI d N)]) (k + 1) (n + N) lv (.ref q :: st) (pc + 2)) : Y d x Q A nL ws k n lv (.int v :: st) pc := by
  intro H locs ls hP hD hS hl
  obtain ⟨hx, hb, hml, hown, hts, hK, hN2, hRR, hA⟩ := C
  refine va_newa (atype := .int) (a0 := (N, .inl (fun _ => 0))) hx hb (hts _ hk) rfl hK hP hD hS hA (fun cA => rfl) hv hN (by show N * 4 ≤ _; omega) ?_ ?_ hd (fun q cA H1 hK1 hP1 hD1 hS1 => ?_)
  · rw [hRR]; exact hc
  · rw [hRR]; exact hn
  · have e1 : (Cx.s x).vm.findClass ("[" ++ FieldType.int.toString) = some cA := (hK1.2 4 (cA, .int) rfl).2
    have e2 : (Cx.s x).vm.findClass ("[" ++ FieldType.int.toString) = some d.2.1 := (hK.2 0 (d.2.1, .int) rfl).2
    have e : cA = d.2.1 := Option.some.inj (e1.symm.trans e2)
    subst e
    exact kk q H1 locs ls hP1 hD1 hS1 hl
theorem y_newL (C : OkY d x cc own nL rm A) {v : Int32} {N : Nat} (hk : Cond.arrayClass .long ∈ wT) (hv : ¬ v < 0) (hN : v.toNatClampNeg = N) (hb4 : N ≤ 20000) (hc : k + 1 ≤ rm.cells) (hn : n + N ≤ rm.slots) (hd : decode cc pc = .ok (.newarray .long, 2)) (kk : ∀ q : Nat, Y d x Q A nL (ws ++ [(q, zL d N)]) (k + 1) (n + N) lv (.ref q :: st) (pc + 2)) : Y d x Q A nL ws k n lv (.int v :: st) pc := by
  intro H locs ls hP hD hS hl
  obtain ⟨hx, hb, hml, hown, hts, hK, hN2, hRR, hA⟩ := C
  refine va_newa (atype := .long) (a0 := (N, .inr (.inl (fun _ => 0)))) hx hb (hts _ hk) rfl hK hP hD hS hA (fun cA => rfl) hv hN (by show N * 8 ≤ _; omega) ?_ ?_ hd (fun q cA H1 hK1 hP1 hD1 hS1 => ?_)
  · rw [hRR]; exact hc
  · rw [hRR]; exact hn
  · have e1 : (Cx.s x).vm.findClass ("[" ++ FieldType.long.toString) = some cA := (hK1.2 4 (cA, .long) rfl).2
    have e2 : (Cx.s x).vm.findClass ("[" ++ FieldType.long.toString) = some d.2.2.1 := (hK.2 1 (d.2.2.1, .long) rfl).2
    have e : cA = d.2.2.1 := Option.some.inj (e1.symm.trans e2)
    subst e
    exact kk q H1 locs ls hP1 hD1 hS1 hl
theorem y_newZ (C : OkY d x cc own nL rm A) {v : Int32} {N : Nat} (hk : Cond.arrayClass .boolean ∈ wT) (hv : ¬ v < 0) (hN : v.toNatClampNeg = N) (hb4 : N ≤ 20000) (hc : k + 1 ≤ rm.cells) (hn : n + N ≤ rm.slots) (hd : decode cc pc = .ok (.newarray .boolean, 2)) (kk : ∀ q : Nat, Y d x Q A nL (ws ++ [(q, zZ d N)]) (k + 1) (n + N) lv (.ref q :: st) (pc + 2)) : Y d x Q A nL ws k n lv (.int v :: st) pc := by
  intro H locs ls hP hD hS hl
  obtain ⟨hx, hb, hml, hown, hts, hK, hN2, hRR, hA⟩ := C
  refine va_newa (atype := .boolean) (a0 := (N, .inl (fun _ => 0))) hx hb (hts _ hk) rfl hK hP hD hS hA (fun cA => rfl) hv hN (by show N * 1 ≤ _; omega) ?_ ?_ hd (fun q cA H1 hK1 hP1 hD1 hS1 => ?_)
  · rw [hRR]; exact hc
  · rw [hRR]; exact hn
  · have e1 : (Cx.s x).vm.findClass ("[" ++ FieldType.boolean.toString) = some cA := (hK1.2 4 (cA, .boolean) rfl).2
    have e2 : (Cx.s x).vm.findClass ("[" ++ FieldType.boolean.toString) = some d.2.2.2.1 := (hK.2 2 (d.2.2.2.1, .boolean) rfl).2
    have e : cA = d.2.2.2.1 := Option.some.inj (e1.symm.trans e2)
    subst e
    exact kk q H1 locs ls hP1 hD1 hS1 hl
theorem y_newO (C : OkY d x cc own nL rm A) {idx : Nat} (hk : Cond.classLink own idx RX2 ∈ wT) (hc : k + 1 ≤ rm.cells) (hn : n + 4 ≤ rm.slots) (hd : decode cc pc = .ok (.anewarray idx, 3)) (kk : ∀ q : Nat, Y d x Q A nL (ws ++ [(q, zO d (fun _ => none))]) (k + 1) (n + 4) lv (.ref q :: st) (pc + 3)) : Y d x Q A nL ws k n lv (.int 4 :: st) pc := by
  intro H locs ls hP hD hS hl
  obtain ⟨hx, hb, hml, hown, hts, hK, hN2, hRR, hA⟩ := C
  refine va_newq (C := RX2) hx hb hown (hts _ hk) hN2.2.2.2.2.2.2.2 hK hP hD hS hA (N' := 4) (by decide) (by decide) (by decide) ?_ ?_ hd (fun q cA H1 hK1 hP1 hD1 hS1 => ?_)
  · rw [hRR]; exact hc
  · rw [hRR]; exact hn
  · obtain ⟨kA, comp, -, -, -, e1⟩ : va_RA (Cx.s x) cA (.object RX2) := (hK1.2 4 (cA, .object RX2) rfl).2
    obtain ⟨kA2, comp2, -, -, -, e2⟩ : va_RA (Cx.s x) d.2.2.2.2 (.object RX2) := (hK.2 3 (d.2.2.2.2, .object RX2) rfl).2
    have e : cA = d.2.2.2.2 := Option.some.inj (e1.symm.trans e2)
    subst e
    exact kk q H1 locs ls hP1 hD1 hS1 hl
theorem y_aast (C : OkY d x cc own nL rm A) (q0 qk : Nat) {a v : Nat} {f : Nat → Option Nat} {vs : List Value} {i : Int32} (ha : ws[q0]? = some (a, zO d f)) (hv : ws[qk]? = some (v, .inr (2, vs))) (hin : vp_in i 4) (hd : decode cc pc = .ok (.aastore, 1)) (kk : Y d x Q A nL (ws.set q0 (a, zO d (va_up f i.toNatClampNeg (some v)))) k n lv st (pc + 1)) : Y d x Q A nL ws k n lv (.ref v :: .int i :: .ref a :: st) pc := by
  intro H locs ls hP hD hS hl
  obtain ⟨hx, hb, hml, hown, hts, hK, hN2, hRR, hA⟩ := C
  exact va_astq hx hb hK hP hD hS q0 3 qk 2 (r := (RX2, TX2, 4)) ha rfl hv rfl hin hd (fun H1 locs1 hP1 hD1 hS1 => kk H1 locs1 ls hP1 hD1 hS1 hl)
theorem y_get (C : OkY d x cc own nL rm A) {idx c j : Nat} {a : Nat} {fs : List Value} {v : Value} (hf : FL own idx c j 2) (q0 : Nat) (he : ws[q0]? = some (a, .inr (c, fs))) (hv : fs[j]? = some v) (hd : decode cc pc = .ok (.getfield idx, 3)) (kk : Y d x Q A nL ws k n lv (v :: st) (pc + 3)) : Y d x Q A nL ws k n lv (.ref a :: st) pc := by
  intro H locs ls hP hD hS hl
  obtain ⟨hx, hb, hml, hown, hts, hK, hN2, hRR, hA⟩ := C
  exact va_get (ref := (clT c j).1) hx hb hts (cl_in hf.2.1) hown hK hP q0 he (cl_at hf.2.1) j hf.2.2.1 (hts _ hf.1) (fun _ h => h) hv hd (kk H locs ls hP hD hS hl)
/-- a final reference field, in its constructor -/
def FF (own : String) (c j : Nat) (ty : FieldType) : Prop := (clT c j).2.2.2 = true ∧ (clT c j).1 = own ∧ parseFieldDescriptor (clT c j).2.2.1 = some ty
theorem y_put (C : OkY d x cc own nL rm A) (I : OkI x) {idx c j : Nat} {a v : Nat} {ty : FieldType} {fs : List Value} (hf : FL own idx c j 2) (hF : FF own c j ty) (q0 : Nat) (he : ws[q0]? = some (a, .inr (c, fs))) (hl0 : j < fs.length) (hnr : narrow ty (.ref v) = .ref v) (hfit : fits ty (.ref v) = true) (hd : decode cc pc = .ok (.putfield idx, 3)) (kk : Y d x Q A nL (ws.set q0 (a, .inr (c, fs.set j (.ref v)))) k n lv st (pc + 3)) : Y d x Q A nL ws k n lv (.ref v :: .ref a :: st) pc := by
  intro H locs ls hP hD hS hl
  obtain ⟨hx, hb, hml, hown, hts, hK, hN2, hRR, hA⟩ := C
  exact va_putF (ref := (clT c j).1) hx hb hts (cl_in hf.2.1) (clY c) (cl_ty hf.2.1) (cl_nm hf.2.1) hown hK hP hD hS q0 he (cl_at hf.2.1) j hf.2.2.1 (hts _ hf.1) (fun _ h => h) hF.1 I.1 hF.2.1 hF.2.2 hnr hfit hl0 hd (fun H1 locs1 hP1 hD1 hS1 => kk H1 locs1 ls hP1 hD1 hS1 hl)
theorem filt_of {α : Type} {f : Nat → Option α} : ∀ {is : List Nat} {w : List α}, is.map f = w.map some → is.filterMap f = w
  | [], [], _ => rfl
  | [], _ :: _, h => by cases h
  | _ :: _, [], h => by cases h
  | i :: is, a :: w, h => by
    simp only [List.map_cons, List.cons.injEq] at h
    rw [List.filterMap_cons, h.1, filt_of h.2]
/-- behind a constructor's call -/
theorem y_back (C : OkY d x cc own nL rm A) {mc ms : Nat} {wc wr : va_W} {post : va_W → Prop} {H : Heap} {locs : List Loc} {ls : Array Slot} {stk : List Value} {a : Array Value} (isC isR : List Nat) (hC : isC.map (fun i => ws[i]?) = wc.map some) (hR : isR.map (fun i => ws[i]?) = wr.map some) (hn : va_nd isR = true) (hdis : ∀ i ∈ isR, i ∉ isC)
    (hP : va_P d.1 vwCl ws H) (hD : va_D A ws) (hS : va_S A (Cx.s x).heap H locs) (hl : lv_has ls nL lv)
    (hr : va_Run (Cx.p x) (Cx.l x) (Cx.e x) (Cx.R x) (Cx.s x) (Cx.m x) (Cx.args x) (Cx.below x) (Cx.meth x) (Cx.c x) H locs k n mc ms (F0 (Cx.m x) pc ls stk) st (QcY d wc post H.size a) (va_A wc H.size))
    (kk : ∀ w1, post w1 → Y d x Q A nL (wr ++ w1) (k + mc) (n + ms) lv st (pc + 3)) : W (Cx.p x) (Cx.l x) (Cx.e x) (Cx.R x) (Cx.s x) (Cx.m x) (Cx.args x) (Cx.below x) (Cx.meth x) (Cx.c x) H locs k n Q (F0 (Cx.m x) pc ls stk) := by
  intro T hT X
  have hFc := va_free (wc := wc) hD hS C.2.2.2.2.2.2.2.2 isC hC
  obtain ⟨v, st₀, t, T', L, h0, X', hL, e1, e2, ⟨hv, ⟨w1, hw, hP1, hD1⟩, hz, hk⟩, stp⟩ := hr T hT X
  cases hv
  rw [h0] at hz hk
  obtain ⟨hP2, hD2⟩ := va_join hP hD isC isR hC hR hn hdis hk hFc hP1 hD1
  obtain ⟨t2, a1, b1⟩ := kk w1 hw T'.heap (locs ++ L) ls (by rw [e1]; exact hP2) hD2
    ⟨Nat.le_trans hS.1 (by rw [e1]; exact hz), fun q h1 h2 => by rw [e1, hk q (Nat.lt_of_lt_of_le h1 hS.1) (fun z => h2 (hFc q z))]; exact hS.2.1 q h1 h2, fun q hq => by
      rcases List.mem_append.mp hq with h | h
      · exact hS.2.2 q h
      · exact hFc _ (hL q h)⟩ hl T' rfl X'
  exact ⟨t2, stp t2 a1, b1⟩
theorem pcY_at (C : OkY d x cc own nL rm A) {wc : va_W} {H : Heap} (isC : List Nat) (hC : isC.map (fun i => ws[i]?) = wc.map some) (hnC : va_nd isC = true) (hP : va_P d.1 vwCl ws H) (hD : va_D A ws) (av : List Value) :
    ∀ U : State, U.heap = H → (Cx.s x).WarmedH U.vm → PcY d av wc H.size av.toArray U := by
  obtain ⟨hx, hb, hml, hown, hts, hK, hN, hRR, hA⟩ := C
  intro U hU hW
  exact ⟨rfl, by rw [hU], by rw [hU]; exact hP.sub isC (filt_of hC), va_K.moved hW.alike hK, (hD.sub isC hnC hC).weaken (fun _ _ _ _ => trivial), nst_warm hW hN⟩
/-- a nest mate's constructor is called -/
theorem y_callN (C : OkY d x cc own nL rm A) {y : MethodName} {cc' : ByteArray} {nL' idx b : Nat} {rm' : Room} {wc wr : va_W} {post : va_W → Prop} {host : String} (hct : Cy d y cc' nL' rm' [.ref b] wc post) (hm : KM y cc' nL' none 0) (hi : Cond.instanceMethod y ∈ wT) (hy : y.name = "<init>") (hl0 : va_Nw (.methodLinkNest own idx y host) (Cx.s x))
    (isC isR : List Nat) (hC : isC.map (fun i => ws[i]?) = wc.map some) (hnC : va_nd isC = true) (hR : isR.map (fun i => ws[i]?) = wr.map some) (hn : va_nd isR = true) (hdis : ∀ i ∈ isR, i ∉ isC) (hrm : rm'.frames + 1 ≤ rm.frames ∧ 8 + (nL' + 11) + rm'.locals ≤ rm.locals) (hW : (st.map fun v => v.category).sum ≤ 8) (hf : k + rm'.cells ≤ rm.cells ∧ n + rm'.slots ≤ rm.slots) (hd : decode cc pc = .ok (.invokespecial idx, 3))
    (kk : ∀ w1, post w1 → Y d x Q A nL (wr ++ w1) (k + rm'.cells) (n + rm'.slots) lv st (pc + 3)) : Y d x Q A nL ws k n lv (.ref b :: st) pc := by
  intro H locs ls hP hD hS hl
  obtain ⟨hx, hb, hml, hown, hts, hK, hN, hRR, hA⟩ := id C
  obtain ⟨m1, m2, m3, m4, m5⟩ := hm
  have cw := va_cnB (R := Cx.R x) (rm := rm') (host := host) 0 hts (goodIn_wT m1) rfl rfl rfl hl0 (hts _ m2) ⟨m3, m4, m5⟩ (by rw [hRR]; exact hrm)
  refine y_back C isC isR hC hR hn hdis hP hD hS hl (va_runIN (As := []) (rest := st) ⟨hx, hb, hml, hown, hts⟩ (hct (Cx.l x) H.size) ⟨cw, hy, hts _ hi⟩ ⟨pcY_blind _ _ _ _, pcY_at C isC hC hnC hP hD _⟩ rfl rfl hl.1 rfl (lv_room (m := Cx.m x) (pc := pc) (ls := ls) (rest := .ref b :: st) hW) hd (by rw [hRR]; exact hf)) kk
/-- a public constructor is called -/
theorem y_callI (C : OkY d x cc own nL rm A) {y : MethodName} {cc' : ByteArray} {nL' idx b : Nat} {rm' : Room} {wc wr : va_W} {post : va_W → Prop} (hct : Cy d y cc' nL' rm' [.ref b] wc post) (hm : KM y cc' nL' none 0) (hi : Cond.instanceMethod y ∈ wT) (hy : y.name = "<init>") (hl0 : Cond.methodLink own idx y ∈ wT)
    (isC isR : List Nat) (hC : isC.map (fun i => ws[i]?) = wc.map some) (hnC : va_nd isC = true) (hR : isR.map (fun i => ws[i]?) = wr.map some) (hn : va_nd isR = true) (hdis : ∀ i ∈ isR, i ∉ isC) (hrm : rm'.frames + 1 ≤ rm.frames ∧ 8 + (nL' + 11) + rm'.locals ≤ rm.locals) (hW : (st.map fun v => v.category).sum ≤ 8) (hf : k + rm'.cells ≤ rm.cells ∧ n + rm'.slots ≤ rm.slots) (hd : decode cc pc = .ok (.invokespecial idx, 3))
    (kk : ∀ w1, post w1 → Y d x Q A nL (wr ++ w1) (k + rm'.cells) (n + rm'.slots) lv st (pc + 3)) : Y d x Q A nL ws k n lv (.ref b :: st) pc := by
  intro H locs ls hP hD hS hl
  obtain ⟨hx, hb, hml, hown, hts, hK, hN, hRR, hA⟩ := id C
  obtain ⟨m1, m2, m3, m4, m5⟩ := hm
  have cb := callB_of (R := Cx.R x) (rm := rm') 0 hts (goodIn_wT m1) rfl rfl rfl (hts _ m2) (hts _ hl0) ⟨m3, m4, m5⟩ (by rw [hRR]; exact hrm)
  refine y_back C isC isR hC hR hn hdis hP hD hS hl (va_runI (As := []) (rest := st) ⟨hx, hb, hml, hown, hts⟩ (hct (Cx.l x) H.size) ⟨cb, hy, hts _ hi⟩ ⟨pcY_blind _ _ _ _, pcY_at C isC hC hnC hP hD _⟩ rfl rfl hl.1 rfl (lv_room (m := Cx.m x) (pc := pc) (ls := ls) (rest := .ref b :: st) hW) hd (by rw [hRR]; exact hf)) kk
theorem y_ret {w0 : va_W} {post : va_W → Prop} (C : OkY d x cc own nL rm (va_A w0 (Cx.s x).heap.size)) (I : OkI x) (hp : post ws) (hk : k ≤ rm.cells) (hn : n ≤ rm.slots) (hd : decode cc pc = .ok (.return_, 1)) : Y d x (qy d x w0 post rm) (va_A w0 (Cx.s x).heap.size) nL ws k n lv [] pc := by
  intro H locs ls hP hD hS hl
  obtain ⟨hx, hb, hml, hown, hts, hK, hN, hRR, hA⟩ := C
  refine W.widen hk hn ?_
  exact W.vret hx hb I.2.1 (fun t ht _ => ⟨rfl, ⟨ws, hp, by rw [ht]; exact hP, hD⟩, hS.F ht⟩) hS.2.2 hd I.2.2
end YR
