/-! ===== the judgement V over the kit's W ===== -/
/-- a machine's context: program, launch, env, room, start, method, args, frames below, method, code, cells and slots made so far -/
abbrev Cx : Type := Program × Launch × Env × Room × State × MethodId × Array Value × List Frame × Method × Code × Nat × Nat
abbrev Cx.p (x : Cx) : Program := x.1
abbrev Cx.l (x : Cx) : Launch := x.2.1
abbrev Cx.e (x : Cx) : Env := x.2.2.1
abbrev Cx.R (x : Cx) : Room := x.2.2.2.1
abbrev Cx.s (x : Cx) : State := x.2.2.2.2.1
abbrev Cx.m (x : Cx) : MethodId := x.2.2.2.2.2.1
abbrev Cx.args (x : Cx) : Array Value := x.2.2.2.2.2.2.1
abbrev Cx.below (x : Cx) : List Frame := x.2.2.2.2.2.2.2.1
abbrev Cx.meth (x : Cx) : Method := x.2.2.2.2.2.2.2.2.1
abbrev Cx.c (x : Cx) : Code := x.2.2.2.2.2.2.2.2.2.1
abbrev Cx.cells (x : Cx) : Nat := x.2.2.2.2.2.2.2.2.2.2.1
abbrev Cx.slots (x : Cx) : Nat := x.2.2.2.2.2.2.2.2.2.2.2
abbrev WX (x : Cx) (Q : State → Prop) (H : Heap) (locs : List Loc) (g : JFrame) : Prop := W (Cx.p x) (Cx.l x) (Cx.e x) (Cx.R x) (Cx.s x) (Cx.m x) (Cx.args x) (Cx.below x) (Cx.meth x) (Cx.c x) H locs (Cx.cells x) (Cx.slots x) Q g
def V (g : Geo) (x : Cx) (Q : State → Prop) (nL : Nat) (σ : St) (lv : List (Nat × Value)) (st : List Value) (pc : Nat) : Prop :=
  ∀ (H : Heap) (locs : List Loc) (ls : Array Slot), va_P g.2.1 vwCl (wsg g σ) H → va_S (Aof g) (Cx.s x).heap H locs → lv_has ls nL lv → WX x Q H locs (F0 (Cx.m x) pc ls st)
/-- what a method's walk stands on -/
def Ok (g : Geo) (x : Cx) (cc : ByteArray) (own : String) (nL : Nat) (ret : Option FieldType) (rm : Room) : Prop :=
  (Cx.p x).tables.exec = Jvm.exec ∧ (Cx.c x).code = cc ∧ (Cx.c x).maxLocals = nL ∧ (Cx.s x).vm.findClass own = some (Cx.m x).cls ∧ (∀ w ∈ wT, w.before (Cx.args x) (Cx.s x) = true) ∧ va_K g.2.1 vwCl (tys g) (Cx.s x) ∧ inj g ∧ stat g (Cx.s x) (Cx.s x).heap ∧ (Cx.meth x).locks = false ∧ (Cx.meth x).sig.returnType = ret ∧ Cx.R x = rm ∧ Cx.cells x ≤ rm.cells ∧ Cx.slots x ≤ rm.slots
def Pc0 (g : Geo) (av : List Value) (σ : St) : Array Value → State → Prop := fun a U => a = av.toArray ∧ va_P g.2.1 vwCl (wsg g σ) U.heap ∧ va_K g.2.1 vwCl (tys g) U ∧ inj g ∧ stat g U U.heap
def Qc0 (g : Geo) (r : Option Value) (σ : St) : Array Value → State → Outcome → State → Prop := fun _ st oc t => oc = .returned r ∧ va_P g.2.1 vwCl (wsg g σ) t.heap ∧ va_F (Aof g) st t
/-- a method's contract at a geometry: from world σ with these arguments it answers r and leaves world σ' -/
def Ct (g : Geo) (y : MethodName) (cc : ByteArray) (nL : Nat) (ret : Option FieldType) (rm : Room) (av : List Value) (σ : St) (r : Option Value) (σ' : St) : Prop :=
  ∀ l : Launch, Met l y (.code y cc nL ret :: wT) rm (Pc0 g av σ) (Qc0 g r σ') 0 0 (Aof g)
def qm (g : Geo) (x : Cx) (r : Option Value) (σ : St) : State → Prop := MQ (Cx.below x) (Qc0 g r σ) (Cx.args x) (Cx.s x) (Cx.cells x) (Cx.slots x) (Aof g)
theorem stat_moved {g : Geo} {u U : State} {H : Heap} (hvm : u.vm.Alike U.vm) (h : stat g u H) : stat g U H := ⟨h.1.moved hvm, h.2.moved hvm⟩
theorem stat_kept {g : Geo} {U : State} {H H1 : Heap} (h : stat g U H) (hq : ∀ a : Nat, a < H.size → ¬ Aof g a → H1[a]? = H[a]?) : stat g U H1 := ⟨h.1.kept hq, h.2.kept hq⟩
theorem pc0_blind (g : Geo) (av : List Value) (σ : St) : FrameBlind (Pc0 g av σ) := by
  intro a U f mk q
  obtain ⟨q0, qP, qK, qi, qs⟩ := q
  exact ⟨q0, qP, va_K.moved (u := U) (U := U.calling f mk a) (Vm.Alike.refl U.vm) qK, qi, stat_moved (u := U) (U := U.calling f mk a) (Vm.Alike.refl U.vm) qs⟩
theorem pc0_at {g : Geo} {x : Cx} {cc : ByteArray} {own : String} {nL : Nat} {ret : Option FieldType} {rm : Room} (C : Ok g x cc own nL ret rm) {σ : St} {H : Heap} {locs : List Loc} (hP : va_P g.2.1 vwCl (wsg g σ) H) (hS : va_S (Aof g) (Cx.s x).heap H locs) (av : List Value) :
    ∀ U : State, U.heap = H → (Cx.s x).WarmedH U.vm → Pc0 g av σ av.toArray U := by
  obtain ⟨hx, hb, hml, hown, hts, hK, hi, hs, -⟩ := C
  intro U hU hW
  refine ⟨rfl, by rw [hU]; exact hP, va_K.moved hW.alike hK, hi, ?_⟩
  rw [hU]
  exact stat_moved hW.alike (stat_kept hs hS.2.1)
theorem ct_of {g : Geo} {y : MethodName} {cc : ByteArray} {nL : Nat} {ret : Option FieldType} {rm : Room} {av : List Value} {σ : St} {r : Option Value} {σ' : St} {own : String} (hy : plainName y.cls = true) (ho : y.cls = own) (hfit : (lg_sl av).length ≤ nL)
    (h : ∀ x : Cx, Ok g x cc own nL ret rm → V g x (qm g x r σ') nL σ (lv_args 0 av) [] 0) (hrm : rm.cells = 0 ∧ rm.slots = 0) : Ct g y cc nL ret rm av σ r σ' := by
  intro l
  refine Met.ofW (cc := cc) (maxL := nL) (ret := ret) hy rfl ?_
  intro p e s m args below meth c s₁ B hml hv
  obtain ⟨rfl, hP, hK, hi, hs⟩ := hv
  have hts := atoms_spec (ws := .code y cc nL ret :: wT) B.pre
  have hown : s.vm.findClass own = some m.cls := by rw [← ho]; exact findClass_of_methodNamed B.named
  have hl := lv_entry av (n := nL) hfit
  rw [lg_entry_eq]
  have key := h (p, l, e, (headSpec (.code y cc nL ret :: wT) rm).room, s, m, av.toArray, below, meth, c, 0, 0) ⟨B.exec, B.bytes, hml, hown, fun w hw => hts w (List.mem_cons_of_mem _ hw), hK, hi, hs, B.notSynchronized, B.returns, rfl, Nat.zero_le _, Nat.zero_le _⟩ s.heap [] _ hP va_S.rf hl
  exact key
theorem V.sub {g : Geo} {x : Cx} {Q : State → Prop} {nL : Nat} {σ : St} {lv lv' : List (Nat × Value)} {st : List Value} {pc : Nat} (ks : List Nat) (hl : lv_pick lv ks = lv') (k : V g x Q nL σ lv' st pc) : V g x Q nL σ lv st pc :=
  fun H locs ls hP hS h => k H locs ls hP hS (lv_sub h ks hl)
section VR
variable {g : Geo} {x : Cx} {Q : State → Prop} {nL : Nat} {σ : St} {lv : List (Nat × Value)} {st : List Value} {pc : Nat} {cc : ByteArray} {own : String} {ret : Option FieldType} {rm : Room}
theorem v_iconst (C : Ok g x cc own nL ret rm) {n : Int} {v : Int32} (hd : decode cc pc = .ok (.iconst n, 1)) (hv : Int32.ofInt n = v) (k : V g x Q nL σ lv (.int v :: st) (pc + 1)) : V g x Q nL σ lv st pc :=
  fun H locs ls hP hS hl => lv_iconst C.1 C.2.1 hd hv (k H locs ls hP hS hl)
theorem v_bipush (C : Ok g x cc own nL ret rm) {n : Int} {v : Int32} (hd : decode cc pc = .ok (.bipush n, 2)) (hv : (Int8.ofInt n).toInt32 = v) (k : V g x Q nL σ lv (.int v :: st) (pc + 2)) : V g x Q nL σ lv st pc :=
  fun H locs ls hP hS hl => lv_bipush C.1 C.2.1 hd hv (k H locs ls hP hS hl)
theorem v_sipush (C : Ok g x cc own nL ret rm) {n : Int} {v : Int32} (hd : decode cc pc = .ok (.sipush n, 3)) (hv : (Int16.ofInt n).toInt32 = v) (k : V g x Q nL σ lv (.int v :: st) (pc + 3)) : V g x Q nL σ lv st pc :=
  fun H locs ls hP hS hl => lv_sipush C.1 C.2.1 hd hv (k H locs ls hP hS hl)
theorem v_lconst (C : Ok g x cc own nL ret rm) {n : Fin 2} {v : Int64} (hd : decode cc pc = .ok (.lconst n, 1)) (hv : Int64.ofNat (n : Nat) = v) (k : V g x Q nL σ lv (.long v :: st) (pc + 1)) : V g x Q nL σ lv st pc :=
  fun H locs ls hP hS hl => lv_lconst C.1 C.2.1 hd hv (k H locs ls hP hS hl)
theorem v_ldc (C : Ok g x cc own nL ret rm) {i : Nat} {v : Int32} (hc : Cond.constant own i v ∈ wT) (hd : decode cc pc = .ok (.ldc i, 2)) (k : V g x Q nL σ lv (.int v :: st) (pc + 2)) : V g x Q nL σ lv st pc :=
  fun H locs ls hP hS hl => lv_ldc C.1 C.2.1 C.2.2.2.1 (C.2.2.2.2.1 _ hc) hd (k H locs ls hP hS hl)
theorem v_ldc_w (C : Ok g x cc own nL ret rm) {i : Nat} {v : Int32} (hc : Cond.constant own i v ∈ wT) (hd : decode cc pc = .ok (.ldc_w i, 3)) (k : V g x Q nL σ lv (.int v :: st) (pc + 3)) : V g x Q nL σ lv st pc :=
  fun H locs ls hP hS hl => lv_ldcw C.1 C.2.1 C.2.2.2.1 (C.2.2.2.2.1 _ hc) hd (k H locs ls hP hS hl)
theorem v_ldc2_w (C : Ok g x cc own nL ret rm) {i : Nat} {v : Int64} (hc : Cond.constantLong own i v ∈ wT) (hd : decode cc pc = .ok (.ldc2_w i, 3)) (k : V g x Q nL σ lv (.long v :: st) (pc + 3)) : V g x Q nL σ lv st pc :=
  fun H locs ls hP hS hl => lv_ldc2 C.1 C.2.1 C.2.2.2.1 (C.2.2.2.2.1 _ hc) hd (k H locs ls hP hS hl)
theorem v_iload_n (C : Ok g x cc own nL ret rm) {n : Fin 4} {i : Nat} {a : Int32} (hd : decode cc pc = .ok (.iload_n n, 1)) (hi : (n : Nat) = i) (j : Nat) (hj : lv[j]? = some (i, .int a)) (k : V g x Q nL σ lv (.int a :: st) (pc + 1)) : V g x Q nL σ lv st pc :=
  fun H locs ls hP hS hl => lv_iload_n C.1 C.2.1 hd hi (lv_at hl j hj) (k H locs ls hP hS hl)
theorem v_iload (C : Ok g x cc own nL ret rm) {i : Nat} {a : Int32} (hd : decode cc pc = .ok (.iload i, 2)) (j : Nat) (hj : lv[j]? = some (i, .int a)) (k : V g x Q nL σ lv (.int a :: st) (pc + 2)) : V g x Q nL σ lv st pc :=
  fun H locs ls hP hS hl => lv_iload C.1 C.2.1 hd (lv_at hl j hj) (k H locs ls hP hS hl)
theorem v_lload_n (C : Ok g x cc own nL ret rm) {n : Fin 4} {i : Nat} {a : Int64} (hd : decode cc pc = .ok (.lload_n n, 1)) (hi : (n : Nat) = i) (j : Nat) (hj : lv[j]? = some (i, .long a)) (k : V g x Q nL σ lv (.long a :: st) (pc + 1)) : V g x Q nL σ lv st pc :=
  fun H locs ls hP hS hl => lv_lload_n C.1 C.2.1 hd hi (lv_at hl j hj) (k H locs ls hP hS hl)
theorem v_lload (C : Ok g x cc own nL ret rm) {i : Nat} {a : Int64} (hd : decode cc pc = .ok (.lload i, 2)) (j : Nat) (hj : lv[j]? = some (i, .long a)) (k : V g x Q nL σ lv (.long a :: st) (pc + 2)) : V g x Q nL σ lv st pc :=
  fun H locs ls hP hS hl => lv_lload C.1 C.2.1 hd (lv_at hl j hj) (k H locs ls hP hS hl)
theorem v_aload_n (C : Ok g x cc own nL ret rm) {n : Fin 4} {i : Nat} {a : Nat} (hd : decode cc pc = .ok (.aload_n n, 1)) (hi : (n : Nat) = i) (j : Nat) (hj : lv[j]? = some (i, .ref a)) (k : V g x Q nL σ lv (.ref a :: st) (pc + 1)) : V g x Q nL σ lv st pc :=
  fun H locs ls hP hS hl => lv_aload_n C.1 C.2.1 hd hi (lv_at hl j hj) (k H locs ls hP hS hl)
theorem v_aload (C : Ok g x cc own nL ret rm) {i : Nat} {a : Nat} (hd : decode cc pc = .ok (.aload i, 2)) (j : Nat) (hj : lv[j]? = some (i, .ref a)) (k : V g x Q nL σ lv (.ref a :: st) (pc + 2)) : V g x Q nL σ lv st pc :=
  fun H locs ls hP hS hl => lv_aload C.1 C.2.1 hd (lv_at hl j hj) (k H locs ls hP hS hl)
theorem v_istore_n (C : Ok g x cc own nL ret rm) {n : Fin 4} {i : Nat} {a : Int32} {lv' : List (Nat × Value)} (hd : decode cc pc = .ok (.istore_n n, 1)) (hi : (n : Nat) = i) (hn : i < nL) (hl' : (i, Value.int a) :: lv.filter (fun q => !(q.1 == i) && !(q.1 + 1 == i && q.2.category == 2)) = lv') (k : V g x Q nL σ lv' st (pc + 1)) : V g x Q nL σ lv (.int a :: st) pc :=
  fun H locs ls hP hS hl => lv_istore_n C.1 C.2.1 hd hi hl hn hl' (fun ls' h => k H locs ls' hP hS h)
theorem v_istore (C : Ok g x cc own nL ret rm) {i : Nat} {a : Int32} {lv' : List (Nat × Value)} (hd : decode cc pc = .ok (.istore i, 2)) (hn : i < nL) (hl' : (i, Value.int a) :: lv.filter (fun q => !(q.1 == i) && !(q.1 + 1 == i && q.2.category == 2)) = lv') (k : V g x Q nL σ lv' st (pc + 2)) : V g x Q nL σ lv (.int a :: st) pc :=
  fun H locs ls hP hS hl => lv_istore C.1 C.2.1 hd hl hn hl' (fun ls' h => k H locs ls' hP hS h)
theorem v_astore_n (C : Ok g x cc own nL ret rm) {n : Fin 4} {i : Nat} {a : Nat} {lv' : List (Nat × Value)} (hd : decode cc pc = .ok (.astore_n n, 1)) (hi : (n : Nat) = i) (hn : i < nL) (hl' : (i, Value.ref a) :: lv.filter (fun q => !(q.1 == i) && !(q.1 + 1 == i && q.2.category == 2)) = lv') (k : V g x Q nL σ lv' st (pc + 1)) : V g x Q nL σ lv (.ref a :: st) pc :=
  fun H locs ls hP hS hl => lv_astore_n C.1 C.2.1 hd hi hl hn hl' (fun ls' h => k H locs ls' hP hS h)
theorem v_astore (C : Ok g x cc own nL ret rm) {i : Nat} {a : Nat} {lv' : List (Nat × Value)} (hd : decode cc pc = .ok (.astore i, 2)) (hn : i < nL) (hl' : (i, Value.ref a) :: lv.filter (fun q => !(q.1 == i) && !(q.1 + 1 == i && q.2.category == 2)) = lv') (k : V g x Q nL σ lv' st (pc + 2)) : V g x Q nL σ lv (.ref a :: st) pc :=
  fun H locs ls hP hS hl => lv_astore C.1 C.2.1 hd hl hn hl' (fun ls' h => k H locs ls' hP hS h)
theorem v_lstore_n (C : Ok g x cc own nL ret rm) {n : Fin 4} {i : Nat} {a : Int64} {lv' : List (Nat × Value)} (hd : decode cc pc = .ok (.lstore_n n, 1)) (hi : (n : Nat) = i) (hn : i + 1 < nL) (hl' : (i, Value.long a) :: lv.filter (fun q => !(q.1 == i) && (!(q.1 == i + 1) && !(q.1 + 1 == i && q.2.category == 2))) = lv') (k : V g x Q nL σ lv' st (pc + 1)) : V g x Q nL σ lv (.long a :: st) pc :=
  fun H locs ls hP hS hl => lv_lstore_n C.1 C.2.1 hd hi hl hn hl' (fun ls' h => k H locs ls' hP hS h)
theorem v_lstore (C : Ok g x cc own nL ret rm) {i : Nat} {a : Int64} {lv' : List (Nat × Value)} (hd : decode cc pc = .ok (.lstore i, 2)) (hn : i + 1 < nL) (hl' : (i, Value.long a) :: lv.filter (fun q => !(q.1 == i) && (!(q.1 == i + 1) && !(q.1 + 1 == i && q.2.category == 2))) = lv') (k : V g x Q nL σ lv' st (pc + 2)) : V g x Q nL σ lv (.long a :: st) pc :=
  fun H locs ls hP hS hl => lv_lstore C.1 C.2.1 hd hl hn hl' (fun ls' h => k H locs ls' hP hS h)
theorem v_iinc (C : Ok g x cc own nL ret rm) {i : Nat} {n : Int} {a v : Int32} {lv' : List (Nat × Value)} (hd : decode cc pc = .ok (.iinc i n, 3)) (j : Nat) (hj : lv[j]? = some (i, .int a)) (hv : a + Int32.ofInt n = v) (hn : i < nL) (hl' : (i, Value.int v) :: lv.filter (fun q => !(q.1 == i) && !(q.1 + 1 == i && q.2.category == 2)) = lv') (k : V g x Q nL σ lv' st (pc + 3)) : V g x Q nL σ lv st pc :=
  fun H locs ls hP hS hl => lv_iinc C.1 C.2.1 hd hl hj hv hn hl' (fun ls' h => k H locs ls' hP hS h)
theorem v_goto (C : Ok g x cc own nL ret rm) {off : Int} {tgt : Nat} (hd : decode cc pc = .ok (.goto off, 3)) (ht : (pc : Int) + off = (tgt : Int)) (k : V g x Q nL σ lv st tgt) : V g x Q nL σ lv st pc :=
  fun H locs ls hP hS hl => lv_goto C.1 C.2.1 hd ht (k H locs ls hP hS hl)
theorem v_dup (C : Ok g x cc own nL ret rm) {va : Value} (hd : decode cc pc = .ok (.dup, 1)) (hva : va.category = 1) (k : V g x Q nL σ lv (va :: va :: st) (pc + 1)) : V g x Q nL σ lv (va :: st) pc :=
  fun H locs ls hP hS hl => lv_dup C.1 C.2.1 hd hva (k H locs ls hP hS hl)
theorem v_pop (C : Ok g x cc own nL ret rm) {va : Value} (hd : decode cc pc = .ok (.pop, 1)) (hva : va.category = 1) (k : V g x Q nL σ lv st (pc + 1)) : V g x Q nL σ lv (va :: st) pc :=
  fun H locs ls hP hS hl => lv_pop C.1 C.2.1 hd hva (k H locs ls hP hS hl)
theorem v_iadd (C : Ok g x cc own nL ret rm) {a b : Int32} (hd : decode cc pc = .ok (.iadd, 1)) (k : V g x Q nL σ lv (.int (a + b) :: st) (pc + 1)) : V g x Q nL σ lv (.int b :: .int a :: st) pc :=
  fun H locs ls hP hS hl => lv_iadd C.1 C.2.1 hd (k H locs ls hP hS hl)
theorem v_isub (C : Ok g x cc own nL ret rm) {a b : Int32} (hd : decode cc pc = .ok (.isub, 1)) (k : V g x Q nL σ lv (.int (a - b) :: st) (pc + 1)) : V g x Q nL σ lv (.int b :: .int a :: st) pc :=
  fun H locs ls hP hS hl => lv_isub C.1 C.2.1 hd (k H locs ls hP hS hl)
theorem v_imul (C : Ok g x cc own nL ret rm) {a b : Int32} (hd : decode cc pc = .ok (.imul, 1)) (k : V g x Q nL σ lv (.int (a * b) :: st) (pc + 1)) : V g x Q nL σ lv (.int b :: .int a :: st) pc :=
  fun H locs ls hP hS hl => lv_imul C.1 C.2.1 hd (k H locs ls hP hS hl)
theorem v_iand (C : Ok g x cc own nL ret rm) {a b : Int32} (hd : decode cc pc = .ok (.iand, 1)) (k : V g x Q nL σ lv (.int (a &&& b) :: st) (pc + 1)) : V g x Q nL σ lv (.int b :: .int a :: st) pc :=
  fun H locs ls hP hS hl => lv_iand C.1 C.2.1 hd (k H locs ls hP hS hl)
theorem v_ior (C : Ok g x cc own nL ret rm) {a b : Int32} (hd : decode cc pc = .ok (.ior, 1)) (k : V g x Q nL σ lv (.int (a ||| b) :: st) (pc + 1)) : V g x Q nL σ lv (.int b :: .int a :: st) pc :=
  fun H locs ls hP hS hl => lv_ior C.1 C.2.1 hd (k H locs ls hP hS hl)
theorem v_ixor (C : Ok g x cc own nL ret rm) {a b : Int32} (hd : decode cc pc = .ok (.ixor, 1)) (k : V g x Q nL σ lv (.int (a ^^^ b) :: st) (pc + 1)) : V g x Q nL σ lv (.int b :: .int a :: st) pc :=
  fun H locs ls hP hS hl => lv_ixor C.1 C.2.1 hd (k H locs ls hP hS hl)
theorem v_ladd (C : Ok g x cc own nL ret rm) {a b : Int64} (hd : decode cc pc = .ok (.ladd, 1)) (k : V g x Q nL σ lv (.long (a + b) :: st) (pc + 1)) : V g x Q nL σ lv (.long b :: .long a :: st) pc :=
  fun H locs ls hP hS hl => lv_ladd C.1 C.2.1 hd (k H locs ls hP hS hl)
theorem v_lsub (C : Ok g x cc own nL ret rm) {a b : Int64} (hd : decode cc pc = .ok (.lsub, 1)) (k : V g x Q nL σ lv (.long (a - b) :: st) (pc + 1)) : V g x Q nL σ lv (.long b :: .long a :: st) pc :=
  fun H locs ls hP hS hl => lv_lsub C.1 C.2.1 hd (k H locs ls hP hS hl)
theorem v_lmul (C : Ok g x cc own nL ret rm) {a b : Int64} (hd : decode cc pc = .ok (.lmul, 1)) (k : V g x Q nL σ lv (.long (a * b) :: st) (pc + 1)) : V g x Q nL σ lv (.long b :: .long a :: st) pc :=
  fun H locs ls hP hS hl => lv_lmul C.1 C.2.1 hd (k H locs ls hP hS hl)
theorem v_land (C : Ok g x cc own nL ret rm) {a b : Int64} (hd : decode cc pc = .ok (.land, 1)) (k : V g x Q nL σ lv (.long (a &&& b) :: st) (pc + 1)) : V g x Q nL σ lv (.long b :: .long a :: st) pc :=
  fun H locs ls hP hS hl => lv_land C.1 C.2.1 hd (k H locs ls hP hS hl)
theorem v_lor (C : Ok g x cc own nL ret rm) {a b : Int64} (hd : decode cc pc = .ok (.lor, 1)) (k : V g x Q nL σ lv (.long (a ||| b) :: st) (pc + 1)) : V g x Q nL σ lv (.long b :: .long a :: st) pc :=
  fun H locs ls hP hS hl => lv_lor C.1 C.2.1 hd (k H locs ls hP hS hl)
theorem v_lxor (C : Ok g x cc own nL ret rm) {a b : Int64} (hd : decode cc pc = .ok (.lxor, 1)) (k : V g x Q nL σ lv (.long (a ^^^ b) :: st) (pc + 1)) : V g x Q nL σ lv (.long b :: .long a :: st) pc :=
  fun H locs ls hP hS hl => lv_lxor C.1 C.2.1 hd (k H locs ls hP hS hl)
theorem v_ineg (C : Ok g x cc own nL ret rm) {a : Int32} (hd : decode cc pc = .ok (.ineg, 1)) (k : V g x Q nL σ lv (.int (-a) :: st) (pc + 1)) : V g x Q nL σ lv (.int a :: st) pc :=
  fun H locs ls hP hS hl => lv_ineg C.1 C.2.1 hd (k H locs ls hP hS hl)
theorem v_lneg (C : Ok g x cc own nL ret rm) {a : Int64} (hd : decode cc pc = .ok (.lneg, 1)) (k : V g x Q nL σ lv (.long (-a) :: st) (pc + 1)) : V g x Q nL σ lv (.long a :: st) pc :=
  fun H locs ls hP hS hl => lv_lneg C.1 C.2.1 hd (k H locs ls hP hS hl)
theorem v_idiv (C : Ok g x cc own nL ret rm) {a b : Int32} (hd : decode cc pc = .ok (.idiv, 1)) (hne : ¬ b = 0) (k : V g x Q nL σ lv (.int (a / b) :: st) (pc + 1)) : V g x Q nL σ lv (.int b :: .int a :: st) pc :=
  fun H locs ls hP hS hl => lv_idiv C.1 C.2.1 hd hne (k H locs ls hP hS hl)
def jrem (a b : Int32) : Int32 := a - a / b * b
theorem v_irem (C : Ok g x cc own nL ret rm) {a b : Int32} (hd : decode cc pc = .ok (.irem, 1)) (hne : ¬ b = 0) (k : V g x Q nL σ lv (.int (jrem a b) :: st) (pc + 1)) : V g x Q nL σ lv (.int b :: .int a :: st) pc :=
  fun H locs ls hP hS hl => lv_irem C.1 C.2.1 hd hne (k H locs ls hP hS hl)
theorem v_ldiv (C : Ok g x cc own nL ret rm) {a b : Int64} (hd : decode cc pc = .ok (.ldiv, 1)) (hne : ¬ b = 0) (k : V g x Q nL σ lv (.long (a / b) :: st) (pc + 1)) : V g x Q nL σ lv (.long b :: .long a :: st) pc :=
  fun H locs ls hP hS hl => lv_ldiv C.1 C.2.1 hd hne (k H locs ls hP hS hl)
def jlrem (a b : Int64) : Int64 := a - a / b * b
theorem v_lrem (C : Ok g x cc own nL ret rm) {a b : Int64} (hd : decode cc pc = .ok (.lrem, 1)) (hne : ¬ b = 0) (k : V g x Q nL σ lv (.long (jlrem a b) :: st) (pc + 1)) : V g x Q nL σ lv (.long b :: .long a :: st) pc :=
  fun H locs ls hP hS hl => lv_lrem C.1 C.2.1 hd hne (k H locs ls hP hS hl)
def jshl (a b : Int32) : Int32 := a <<< (b &&& 31)
def jshr (a b : Int32) : Int32 := a >>> (b &&& 31)
def jushr (a b : Int32) : Int32 := (a.toUInt32 >>> (b.toUInt32 &&& Int32.toUInt32 31)).toInt32
def lshl (a : Int64) (b : Int32) : Int64 := a <<< (b.toInt64 &&& 63)
def lshr (a : Int64) (b : Int32) : Int64 := a >>> (b.toInt64 &&& 63)
def lushr (a : Int64) (b : Int32) : Int64 := (a.toUInt64 >>> (b.toInt64.toUInt64 &&& Int64.toUInt64 63)).toInt64
theorem v_ishl (C : Ok g x cc own nL ret rm) {a b : Int32} (hd : decode cc pc = .ok (.ishl, 1)) (k : V g x Q nL σ lv (.int (jshl a b) :: st) (pc + 1)) : V g x Q nL σ lv (.int b :: .int a :: st) pc :=
  fun H locs ls hP hS hl => lv_ishl C.1 C.2.1 hd (k H locs ls hP hS hl)
theorem v_ishr (C : Ok g x cc own nL ret rm) {a b : Int32} (hd : decode cc pc = .ok (.ishr, 1)) (k : V g x Q nL σ lv (.int (jshr a b) :: st) (pc + 1)) : V g x Q nL σ lv (.int b :: .int a :: st) pc :=
  fun H locs ls hP hS hl => lv_ishr C.1 C.2.1 hd (k H locs ls hP hS hl)
theorem v_iushr (C : Ok g x cc own nL ret rm) {a b : Int32} (hd : decode cc pc = .ok (.iushr, 1)) (k : V g x Q nL σ lv (.int (jushr a b) :: st) (pc + 1)) : V g x Q nL σ lv (.int b :: .int a :: st) pc :=
  fun H locs ls hP hS hl => lv_iushr C.1 C.2.1 hd rfl (k H locs ls hP hS hl)
theorem v_lshl (C : Ok g x cc own nL ret rm) {a : Int64} {b : Int32} (hd : decode cc pc = .ok (.lshl, 1)) (k : V g x Q nL σ lv (.long (lshl a b) :: st) (pc + 1)) : V g x Q nL σ lv (.int b :: .long a :: st) pc :=
  fun H locs ls hP hS hl => lv_lshl C.1 C.2.1 hd rfl (k H locs ls hP hS hl)
theorem v_lshr (C : Ok g x cc own nL ret rm) {a : Int64} {b : Int32} (hd : decode cc pc = .ok (.lshr, 1)) (k : V g x Q nL σ lv (.long (lshr a b) :: st) (pc + 1)) : V g x Q nL σ lv (.int b :: .long a :: st) pc :=
  fun H locs ls hP hS hl => lv_lshr C.1 C.2.1 hd rfl (k H locs ls hP hS hl)
theorem v_lushr (C : Ok g x cc own nL ret rm) {a : Int64} {b : Int32} (hd : decode cc pc = .ok (.lushr, 1)) (k : V g x Q nL σ lv (.long (lushr a b) :: st) (pc + 1)) : V g x Q nL σ lv (.int b :: .long a :: st) pc :=
  fun H locs ls hP hS hl => lv_lushr C.1 C.2.1 hd rfl (k H locs ls hP hS hl)
theorem v_i2l (C : Ok g x cc own nL ret rm) {a : Int32} (hd : decode cc pc = .ok (.i2l, 1)) (k : V g x Q nL σ lv (.long a.toInt64 :: st) (pc + 1)) : V g x Q nL σ lv (.int a :: st) pc :=
  fun H locs ls hP hS hl => lv_i2l C.1 C.2.1 hd rfl (k H locs ls hP hS hl)
theorem v_l2i (C : Ok g x cc own nL ret rm) {a : Int64} (hd : decode cc pc = .ok (.l2i, 1)) (k : V g x Q nL σ lv (.int a.toInt32 :: st) (pc + 1)) : V g x Q nL σ lv (.long a :: st) pc :=
  fun H locs ls hP hS hl => lv_l2i C.1 C.2.1 hd rfl (k H locs ls hP hS hl)
theorem v_icmp_eq (C : Ok g x cc own nL ret rm) {a b : Int32} {off : Int} {tgt : Nat} (hd : decode cc pc = .ok (.if_icmp .eq off, 3)) (ht : (pc : Int) + off = (tgt : Int)) (kt : a = b → V g x Q nL σ lv st tgt) (kf : ¬ a = b → V g x Q nL σ lv st (pc + 3)) : V g x Q nL σ lv (.int b :: .int a :: st) pc :=
  fun H locs ls hP hS hl => lv_icmp_eq C.1 C.2.1 hd ht (fun h => kt h H locs ls hP hS hl) (fun h => kf h H locs ls hP hS hl)
theorem v_if_eq (C : Ok g x cc own nL ret rm) {a : Int32} {off : Int} {tgt : Nat} (hd : decode cc pc = .ok (.ifCond .eq off, 3)) (ht : (pc : Int) + off = (tgt : Int)) (kt : a = 0 → V g x Q nL σ lv st tgt) (kf : ¬ a = 0 → V g x Q nL σ lv st (pc + 3)) : V g x Q nL σ lv (.int a :: st) pc :=
  fun H locs ls hP hS hl => lv_if_eq C.1 C.2.1 hd ht (fun h => kt h H locs ls hP hS hl) (fun h => kf h H locs ls hP hS hl)
theorem v_icmp_ne (C : Ok g x cc own nL ret rm) {a b : Int32} {off : Int} {tgt : Nat} (hd : decode cc pc = .ok (.if_icmp .ne off, 3)) (ht : (pc : Int) + off = (tgt : Int)) (kt : ¬ a = b → V g x Q nL σ lv st tgt) (kf : a = b → V g x Q nL σ lv st (pc + 3)) : V g x Q nL σ lv (.int b :: .int a :: st) pc :=
  fun H locs ls hP hS hl => lv_icmp_ne C.1 C.2.1 hd ht (fun h => kt h H locs ls hP hS hl) (fun h => kf h H locs ls hP hS hl)
theorem v_if_ne (C : Ok g x cc own nL ret rm) {a : Int32} {off : Int} {tgt : Nat} (hd : decode cc pc = .ok (.ifCond .ne off, 3)) (ht : (pc : Int) + off = (tgt : Int)) (kt : ¬ a = 0 → V g x Q nL σ lv st tgt) (kf : a = 0 → V g x Q nL σ lv st (pc + 3)) : V g x Q nL σ lv (.int a :: st) pc :=
  fun H locs ls hP hS hl => lv_if_ne C.1 C.2.1 hd ht (fun h => kt h H locs ls hP hS hl) (fun h => kf h H locs ls hP hS hl)
theorem v_icmp_lt (C : Ok g x cc own nL ret rm) {a b : Int32} {off : Int} {tgt : Nat} (hd : decode cc pc = .ok (.if_icmp .lt off, 3)) (ht : (pc : Int) + off = (tgt : Int)) (kt : a < b → V g x Q nL σ lv st tgt) (kf : ¬ a < b → V g x Q nL σ lv st (pc + 3)) : V g x Q nL σ lv (.int b :: .int a :: st) pc :=
  fun H locs ls hP hS hl => lv_icmp_lt C.1 C.2.1 hd ht (fun h => kt h H locs ls hP hS hl) (fun h => kf h H locs ls hP hS hl)
theorem v_if_lt (C : Ok g x cc own nL ret rm) {a : Int32} {off : Int} {tgt : Nat} (hd : decode cc pc = .ok (.ifCond .lt off, 3)) (ht : (pc : Int) + off = (tgt : Int)) (kt : a < 0 → V g x Q nL σ lv st tgt) (kf : ¬ a < 0 → V g x Q nL σ lv st (pc + 3)) : V g x Q nL σ lv (.int a :: st) pc :=
  fun H locs ls hP hS hl => lv_if_lt C.1 C.2.1 hd ht (fun h => kt h H locs ls hP hS hl) (fun h => kf h H locs ls hP hS hl)
theorem v_icmp_ge (C : Ok g x cc own nL ret rm) {a b : Int32} {off : Int} {tgt : Nat} (hd : decode cc pc = .ok (.if_icmp .ge off, 3)) (ht : (pc : Int) + off = (tgt : Int)) (kt : b ≤ a → V g x Q nL σ lv st tgt) (kf : ¬ b ≤ a → V g x Q nL σ lv st (pc + 3)) : V g x Q nL σ lv (.int b :: .int a :: st) pc :=
  fun H locs ls hP hS hl => lv_icmp_ge C.1 C.2.1 hd ht (fun h => kt h H locs ls hP hS hl) (fun h => kf h H locs ls hP hS hl)
theorem v_if_ge (C : Ok g x cc own nL ret rm) {a : Int32} {off : Int} {tgt : Nat} (hd : decode cc pc = .ok (.ifCond .ge off, 3)) (ht : (pc : Int) + off = (tgt : Int)) (kt : 0 ≤ a → V g x Q nL σ lv st tgt) (kf : ¬ 0 ≤ a → V g x Q nL σ lv st (pc + 3)) : V g x Q nL σ lv (.int a :: st) pc :=
  fun H locs ls hP hS hl => lv_if_ge C.1 C.2.1 hd ht (fun h => kt h H locs ls hP hS hl) (fun h => kf h H locs ls hP hS hl)
theorem v_icmp_gt (C : Ok g x cc own nL ret rm) {a b : Int32} {off : Int} {tgt : Nat} (hd : decode cc pc = .ok (.if_icmp .gt off, 3)) (ht : (pc : Int) + off = (tgt : Int)) (kt : b < a → V g x Q nL σ lv st tgt) (kf : ¬ b < a → V g x Q nL σ lv st (pc + 3)) : V g x Q nL σ lv (.int b :: .int a :: st) pc :=
  fun H locs ls hP hS hl => lv_icmp_gt C.1 C.2.1 hd ht (fun h => kt h H locs ls hP hS hl) (fun h => kf h H locs ls hP hS hl)
theorem v_if_gt (C : Ok g x cc own nL ret rm) {a : Int32} {off : Int} {tgt : Nat} (hd : decode cc pc = .ok (.ifCond .gt off, 3)) (ht : (pc : Int) + off = (tgt : Int)) (kt : 0 < a → V g x Q nL σ lv st tgt) (kf : ¬ 0 < a → V g x Q nL σ lv st (pc + 3)) : V g x Q nL σ lv (.int a :: st) pc :=
  fun H locs ls hP hS hl => lv_if_gt C.1 C.2.1 hd ht (fun h => kt h H locs ls hP hS hl) (fun h => kf h H locs ls hP hS hl)
theorem v_icmp_le (C : Ok g x cc own nL ret rm) {a b : Int32} {off : Int} {tgt : Nat} (hd : decode cc pc = .ok (.if_icmp .le off, 3)) (ht : (pc : Int) + off = (tgt : Int)) (kt : a ≤ b → V g x Q nL σ lv st tgt) (kf : ¬ a ≤ b → V g x Q nL σ lv st (pc + 3)) : V g x Q nL σ lv (.int b :: .int a :: st) pc :=
  fun H locs ls hP hS hl => lv_icmp_le C.1 C.2.1 hd ht (fun h => kt h H locs ls hP hS hl) (fun h => kf h H locs ls hP hS hl)
theorem v_if_le (C : Ok g x cc own nL ret rm) {a : Int32} {off : Int} {tgt : Nat} (hd : decode cc pc = .ok (.ifCond .le off, 3)) (ht : (pc : Int) + off = (tgt : Int)) (kt : a ≤ 0 → V g x Q nL σ lv st tgt) (kf : ¬ a ≤ 0 → V g x Q nL σ lv st (pc + 3)) : V g x Q nL σ lv (.int a :: st) pc :=
  fun H locs ls hP hS hl => lv_if_le C.1 C.2.1 hd ht (fun h => kt h H locs ls hP hS hl) (fun h => kf h H locs ls hP hS hl)
end VR
