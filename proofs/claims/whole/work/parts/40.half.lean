/-! ===== the same machine over the 26 cells of the class alone ===== -/
/-- kinds of places: 0 to 6 the classes of vwCl, 7 int[], 8 long[], 9 boolean[], 10 the array of layings -/
def kdsh : List Nat := [5, 1, 3, 0, 4, 2, 2, 2, 2, 2, 2, 2, 2, 2, 10, 7, 7, 7, 7, 7, 8, 8, 7, 7, 7, 8]
def kdh (p : Nat) : Nat := kdsh.getD p 99
def fvsh (ad : Nat → Nat) (σ : St) (p : Nat) : List Value := (List.range (nf (kdh p))).map (fv ad σ p (kdh p))
def enth (g : Geo) (σ : St) (p : Nat) : va_E :=
  if kdh p < 7 then .inr (kdh p, fvsh g.1 σ p)
  else if kdh p = 7 then .inl (g.2.2.1, len p, .inl (σ.1 p))
  else if kdh p = 8 then .inl (g.2.2.2.1, len p, .inr (.inl (σ.2 p)))
  else if kdh p = 9 then .inl (g.2.2.2.2.1, len p, .inl (σ.1 p))
  else .inl (g.2.2.2.2.2, len p, .inr (.inr (.inr (.inr (fun j => some (g.1 (5 + j)))))))
def wsgh (g : Geo) (σ : St) : va_W := (List.range 26).map (fun p => (g.1 p, enth g σ p))
def Aofh (g : Geo) : Nat → Prop := fun q => ∃ k, k < 26 ∧ q = g.1 k
def injh (g : Geo) : Prop := ∀ i j, i < 26 → j < 26 → g.1 i = g.1 j → i = j
def stath (_ : Geo) (_ : State) (_ : Heap) : Prop := True
theorem kd_lth {p : Nat} (h : kdh p < 99) : p < 26 := by
  rcases Nat.lt_or_ge p 26 with h1 | h1
  · exact h1
  · exfalso
    have : kdh p = 99 := by
      unfold kdh
      rw [List.getD_eq_getElem?_getD, List.getElem?_eq_none (by simpa [kdsh] using h1)]
      rfl
    omega
theorem wsg_ath {g : Geo} {σ : St} {p : Nat} (h : p < 26) : (wsgh g σ)[p]? = some (g.1 p, enth g σ p) := by
  unfold wsgh
  rw [List.getElem?_map, List.getElem?_range h]
  rfl
theorem wsg_ofh {g : Geo} {σ : St} {k : Nat} {q : Nat × va_E} (h : (wsgh g σ)[k]? = some q) : k < 26 ∧ q = (g.1 k, enth g σ k) := by
  have hk : k < 26 := by
    have := (List.getElem?_eq_some_iff.mp h).1
    simpa [wsgh] using this
  rw [wsg_ath hk] at h
  exact ⟨hk, (Option.some.inj h).symm⟩
theorem wsg_Dh {g : Geo} {σ : St} (h : injh g) : va_D (Aofh g) (wsgh g σ) := by
  refine ⟨fun i j x y hi hj hxy => ?_, fun k q hk => ?_⟩
  · obtain ⟨h1, rfl⟩ := wsg_ofh hi
    obtain ⟨h2, rfl⟩ := wsg_ofh hj
    exact h i j h1 h2 hxy
  · obtain ⟨h1, rfl⟩ := wsg_ofh hk
    exact ⟨k, h1, rfl⟩
theorem wsg_seth {g : Geo} {σ σ' : St} {p : Nat} {e : va_E} (hp : p < 26) (he : enth g σ' p = e) (ho : ∀ q, q ≠ p → enth g σ' q = enth g σ q) : (wsgh g σ).set p (g.1 p, e) = wsgh g σ' := by
  apply List.ext_getElem?
  intro k
  by_cases hk : k = p
  · subst hk
    rw [List.getElem?_set_self (by simpa [wsgh] using hp), wsg_ath hp, he]
  · rw [List.getElem?_set_ne (Ne.symm hk)]
    by_cases h26 : k < 26
    · rw [wsg_ath h26, wsg_ath h26, ho k hk]
    · rw [List.getElem?_eq_none (by simpa [wsgh] using h26), List.getElem?_eq_none (by simpa [wsgh] using h26)]
theorem ent_objh {g : Geo} {σ : St} {p c : Nat} (h : kdh p = c) (hc : c < 7) : enth g σ p = .inr (c, fvsh g.1 σ p) := by
  unfold enth
  rw [h, if_pos hc]
theorem ent_Ih {g : Geo} {σ : St} {p : Nat} (h : kdh p = 7) : enth g σ p = .inl (g.2.2.1, len p, .inl (σ.1 p)) := by
  unfold enth
  rw [h]
  rfl
theorem ent_Jh {g : Geo} {σ : St} {p : Nat} (h : kdh p = 8) : enth g σ p = .inl (g.2.2.2.1, len p, .inr (.inl (σ.2 p))) := by
  unfold enth
  rw [h]
  rfl
theorem ent_Zh {g : Geo} {σ : St} {p : Nat} (h : kdh p = 9) : enth g σ p = .inl (g.2.2.2.2.1, len p, .inl (σ.1 p)) := by
  unfold enth
  rw [h]
  rfl
theorem ent_Oh {g : Geo} {σ : St} {p : Nat} (h : kdh p = 10) : enth g σ p = .inl (g.2.2.2.2.2, len p, .inr (.inr (.inr (.inr (fun j => some (g.1 (5 + j))))))) := by
  unfold enth
  rw [h]
  rfl
theorem fvs_ath {ad : Nat → Nat} {σ : St} {p c k : Nat} (h : kdh p = c) (hk : k < nf c) : (fvsh ad σ p)[k]? = some (fv ad σ p c k) := by
  unfold fvsh
  rw [h, List.getElem?_map, List.getElem?_range hk]
  rfl
theorem fvs_si_otherh {ad : Nat → Nat} {σ : St} {p k q : Nat} {v : Int32} (h : q ≠ p) : fvsh ad (si σ p k v) q = fvsh ad σ q := by
  unfold fvsh
  apply List.map_congr_left
  intro j _
  have e := congrFun (si_other (σ := σ) (k := k) (v := v) h) j
  simp only [fv, gi, gl, e]
  rfl
theorem fvs_sl_otherh {ad : Nat → Nat} {σ : St} {p k q : Nat} {v : Int64} (h : q ≠ p) : fvsh ad (sl σ p k v) q = fvsh ad σ q := by
  unfold fvsh
  apply List.map_congr_left
  intro j _
  have e := congrFun (sl_other (σ := σ) (k := k) (v := v) h) j
  simp only [fv, gi, gl, e]
  rfl
theorem ent_sih {g : Geo} {σ : St} {p k q : Nat} {v : Int32} (h : q ≠ p) : enth g (si σ p k v) q = enth g σ q := by
  unfold enth
  rw [fvs_si_otherh h, si_other h]
  rfl
theorem ent_slh {g : Geo} {σ : St} {p k q : Nat} {v : Int64} (h : q ≠ p) : enth g (sl σ p k v) q = enth g σ q := by
  unfold enth
  rw [fvs_sl_otherh h, sl_other h]
  rfl
theorem fvs_sih {ad : Nat → Nat} {σ : St} {p c k : Nat} {v : Int32} (h : kdh p = c) (hk : k < nf c) (h1 : fty c k ≠ 1) (h2 : fty c k ≠ 2) : (fvsh ad σ p).set k (.int v) = fvsh ad (si σ p k v) p := by
  apply List.ext_getElem?
  intro j
  have hl : (fvsh ad σ p).length = nf c := by simp [fvsh, h]
  by_cases hj : j = k
  · subst hj
    rw [List.getElem?_set_self (by omega), fvs_ath h hk]
    simp [fv, h1, h2, gi, si]
  · rw [List.getElem?_set_ne (Ne.symm hj)]
    by_cases hn : j < nf c
    · rw [fvs_ath h hn, fvs_ath h hn]
      simp [fv, gi, gl, si, hj]
    · rw [List.getElem?_eq_none (by omega), List.getElem?_eq_none (by simp [fvsh, h]; omega)]
theorem fvs_slh {ad : Nat → Nat} {σ : St} {p c k : Nat} {v : Int64} (h : kdh p = c) (hk : k < nf c) (h1 : fty c k = 1) : (fvsh ad σ p).set k (.long v) = fvsh ad (sl σ p k v) p := by
  apply List.ext_getElem?
  intro j
  have hl : (fvsh ad σ p).length = nf c := by simp [fvsh, h]
  by_cases hj : j = k
  · subst hj
    rw [List.getElem?_set_self (by omega), fvs_ath h hk]
    simp [fv, h1, gl, sl]
  · rw [List.getElem?_set_ne (Ne.symm hj)]
    by_cases hn : j < nf c
    · rw [fvs_ath h hn, fvs_ath h hn]
      simp [fv, gi, gl, sl, hj]
    · rw [List.getElem?_eq_none (by omega), List.getElem?_eq_none (by simp [fvsh, h]; omega)]
theorem upd_slh {σ : St} {p k : Nat} {v : Int64} : vp_updL (σ.2 p) k v = (sl σ p k v).2 p := by
  funext j
  simp [vp_updL, sl]
def Vh (g : Geo) (x : Cx) (Q : State → Prop) (nL : Nat) (σ : St) (lv : List (Nat × Value)) (st : List Value) (pc : Nat) : Prop :=
  ∀ (H : Heap) (locs : List Loc) (ls : Array Slot), va_P g.2.1 vwCl (wsgh g σ) H → va_S (Aofh g) (Cx.s x).heap H locs → lv_has ls nL lv → WX x Q H locs (F0 (Cx.m x) pc ls st)
/-- what a method's walk stands on -/
def Okh (g : Geo) (x : Cx) (cc : ByteArray) (own : String) (nL : Nat) (ret : Option FieldType) (rm : Room) : Prop :=
  (Cx.p x).tables.exec = Jvm.exec ∧ (Cx.c x).code = cc ∧ (Cx.c x).maxLocals = nL ∧ (Cx.s x).vm.findClass own = some (Cx.m x).cls ∧ (∀ w ∈ wT, w.before (Cx.args x) (Cx.s x) = true) ∧ va_K g.2.1 vwCl (tys g) (Cx.s x) ∧ injh g ∧ stath g (Cx.s x) (Cx.s x).heap ∧ (Cx.meth x).locks = false ∧ (Cx.meth x).sig.returnType = ret ∧ Cx.R x = rm ∧ Cx.cells x ≤ rm.cells ∧ Cx.slots x ≤ rm.slots
def Pc0h (g : Geo) (av : List Value) (σ : St) : Array Value → State → Prop := fun a U => a = av.toArray ∧ va_P g.2.1 vwCl (wsgh g σ) U.heap ∧ va_K g.2.1 vwCl (tys g) U ∧ injh g ∧ stath g U U.heap
def Qc0h (g : Geo) (r : Option Value) (σ : St) : Array Value → State → Outcome → State → Prop := fun _ st oc t => oc = .returned r ∧ va_P g.2.1 vwCl (wsgh g σ) t.heap ∧ va_F (Aofh g) st t
/-- a method's contract at a geometry: from world σ with these arguments it answers r and leaves world σ' -/
def Cth (g : Geo) (y : MethodName) (cc : ByteArray) (nL : Nat) (ret : Option FieldType) (rm : Room) (av : List Value) (σ : St) (r : Option Value) (σ' : St) : Prop :=
  ∀ l : Launch, Met l y (.code y cc nL ret :: wT) rm (Pc0h g av σ) (Qc0h g r σ') 0 0 (Aofh g)
def qmh (g : Geo) (x : Cx) (r : Option Value) (σ : St) : State → Prop := MQ (Cx.below x) (Qc0h g r σ) (Cx.args x) (Cx.s x) (Cx.cells x) (Cx.slots x) (Aofh g)
theorem pc0_blindh (g : Geo) (av : List Value) (σ : St) : FrameBlind (Pc0h g av σ) := by
  intro a U f mk q
  obtain ⟨q0, qP, qK, qi, qs⟩ := q
  exact ⟨q0, qP, va_K.moved (u := U) (U := U.calling f mk a) (Vm.Alike.refl U.vm) qK, qi, trivial⟩
theorem pc0_ath {g : Geo} {x : Cx} {cc : ByteArray} {own : String} {nL : Nat} {ret : Option FieldType} {rm : Room} (C : Okh g x cc own nL ret rm) {σ : St} {H : Heap} {locs : List Loc} (hP : va_P g.2.1 vwCl (wsgh g σ) H) (hS : va_S (Aofh g) (Cx.s x).heap H locs) (av : List Value) :
    ∀ U : State, U.heap = H → (Cx.s x).WarmedH U.vm → Pc0h g av σ av.toArray U := by
  obtain ⟨hx, hb, hml, hown, hts, hK, hi, hs, -⟩ := C
  intro U hU hW
  refine ⟨rfl, by rw [hU]; exact hP, va_K.moved hW.alike hK, hi, ?_⟩
  trivial
theorem ct_ofh {g : Geo} {y : MethodName} {cc : ByteArray} {nL : Nat} {ret : Option FieldType} {rm : Room} {av : List Value} {σ : St} {r : Option Value} {σ' : St} {own : String} (hy : plainName y.cls = true) (ho : y.cls = own) (hfit : (lg_sl av).length ≤ nL)
    (h : ∀ x : Cx, Okh g x cc own nL ret rm → Vh g x (qmh g x r σ') nL σ (lv_args 0 av) [] 0) (hrm : rm.cells = 0 ∧ rm.slots = 0) : Cth g y cc nL ret rm av σ r σ' := by
  intro l
  refine Met.ofW (cc := cc) (maxL := nL) (ret := ret) hy rfl ?_
  intro p e s m args below meth c s₁ B hml hv
  obtain ⟨rfl, hP, hK, hi, hs⟩ := hv
  have hts := atoms_spec (ws := .code y cc nL ret :: wT) B.pre
  have hown : s.vm.findClass own = some m.cls := by rw [← ho]; exact findClass_of_methodNamed B.named
  have hl := lv_entry av (n := nL) hfit
  rw [lg_entry_eq]
  have key := h (p, l, e, (headSpec (.code y cc nL ret :: wT) rm).room, s, m, av.toArray, below, meth, c, 0, 0) ⟨B.exec, B.bytes, hml, hown, fun w hw => hts w (List.mem_cons_of_mem _ hw), hK, hi, hs, B.notSynchronized, B.returns, rfl, Nat.zero_le _, Nat.zero_le _⟩ s.heap [] _ hP va_S.rf hl
  exact key
theorem Vh.sub {g : Geo} {x : Cx} {Q : State → Prop} {nL : Nat} {σ : St} {lv lv' : List (Nat × Value)} {st : List Value} {pc : Nat} (ks : List Nat) (hl : lv_pick lv ks = lv') (k : Vh g x Q nL σ lv' st pc) : Vh g x Q nL σ lv st pc :=
  fun H locs ls hP hS h => k H locs ls hP hS (lv_sub h ks hl)
section VR
variable {g : Geo} {x : Cx} {Q : State → Prop} {nL : Nat} {σ : St} {lv : List (Nat × Value)} {st : List Value} {pc : Nat} {cc : ByteArray} {own : String} {ret : Option FieldType} {rm : Room}
theorem v_iconsth (C : Okh g x cc own nL ret rm) {n : Int} {v : Int32} (hd : decode cc pc = .ok (.iconst n, 1)) (hv : Int32.ofInt n = v) (k : Vh g x Q nL σ lv (.int v :: st) (pc + 1)) : Vh g x Q nL σ lv st pc :=
  fun H locs ls hP hS hl => lv_iconst C.1 C.2.1 hd hv (k H locs ls hP hS hl)
theorem v_bipushh (C : Okh g x cc own nL ret rm) {n : Int} {v : Int32} (hd : decode cc pc = .ok (.bipush n, 2)) (hv : (Int8.ofInt n).toInt32 = v) (k : Vh g x Q nL σ lv (.int v :: st) (pc + 2)) : Vh g x Q nL σ lv st pc :=
  fun H locs ls hP hS hl => lv_bipush C.1 C.2.1 hd hv (k H locs ls hP hS hl)
theorem v_sipushh (C : Okh g x cc own nL ret rm) {n : Int} {v : Int32} (hd : decode cc pc = .ok (.sipush n, 3)) (hv : (Int16.ofInt n).toInt32 = v) (k : Vh g x Q nL σ lv (.int v :: st) (pc + 3)) : Vh g x Q nL σ lv st pc :=
  fun H locs ls hP hS hl => lv_sipush C.1 C.2.1 hd hv (k H locs ls hP hS hl)
theorem v_lconsth (C : Okh g x cc own nL ret rm) {n : Fin 2} {v : Int64} (hd : decode cc pc = .ok (.lconst n, 1)) (hv : Int64.ofNat (n : Nat) = v) (k : Vh g x Q nL σ lv (.long v :: st) (pc + 1)) : Vh g x Q nL σ lv st pc :=
  fun H locs ls hP hS hl => lv_lconst C.1 C.2.1 hd hv (k H locs ls hP hS hl)
theorem v_ldch (C : Okh g x cc own nL ret rm) {i : Nat} {v : Int32} (hc : Cond.constant own i v ∈ wT) (hd : decode cc pc = .ok (.ldc i, 2)) (k : Vh g x Q nL σ lv (.int v :: st) (pc + 2)) : Vh g x Q nL σ lv st pc :=
  fun H locs ls hP hS hl => lv_ldc C.1 C.2.1 C.2.2.2.1 (C.2.2.2.2.1 _ hc) hd (k H locs ls hP hS hl)
theorem v_ldc_wh (C : Okh g x cc own nL ret rm) {i : Nat} {v : Int32} (hc : Cond.constant own i v ∈ wT) (hd : decode cc pc = .ok (.ldc_w i, 3)) (k : Vh g x Q nL σ lv (.int v :: st) (pc + 3)) : Vh g x Q nL σ lv st pc :=
  fun H locs ls hP hS hl => lv_ldcw C.1 C.2.1 C.2.2.2.1 (C.2.2.2.2.1 _ hc) hd (k H locs ls hP hS hl)
theorem v_ldc2_wh (C : Okh g x cc own nL ret rm) {i : Nat} {v : Int64} (hc : Cond.constantLong own i v ∈ wT) (hd : decode cc pc = .ok (.ldc2_w i, 3)) (k : Vh g x Q nL σ lv (.long v :: st) (pc + 3)) : Vh g x Q nL σ lv st pc :=
  fun H locs ls hP hS hl => lv_ldc2 C.1 C.2.1 C.2.2.2.1 (C.2.2.2.2.1 _ hc) hd (k H locs ls hP hS hl)
theorem v_iload_nh (C : Okh g x cc own nL ret rm) {n : Fin 4} {i : Nat} {a : Int32} (hd : decode cc pc = .ok (.iload_n n, 1)) (hi : (n : Nat) = i) (j : Nat) (hj : lv[j]? = some (i, .int a)) (k : Vh g x Q nL σ lv (.int a :: st) (pc + 1)) : Vh g x Q nL σ lv st pc :=
  fun H locs ls hP hS hl => lv_iload_n C.1 C.2.1 hd hi (lv_at hl j hj) (k H locs ls hP hS hl)
theorem v_iloadh (C : Okh g x cc own nL ret rm) {i : Nat} {a : Int32} (hd : decode cc pc = .ok (.iload i, 2)) (j : Nat) (hj : lv[j]? = some (i, .int a)) (k : Vh g x Q nL σ lv (.int a :: st) (pc + 2)) : Vh g x Q nL σ lv st pc :=
  fun H locs ls hP hS hl => lv_iload C.1 C.2.1 hd (lv_at hl j hj) (k H locs ls hP hS hl)
theorem v_lload_nh (C : Okh g x cc own nL ret rm) {n : Fin 4} {i : Nat} {a : Int64} (hd : decode cc pc = .ok (.lload_n n, 1)) (hi : (n : Nat) = i) (j : Nat) (hj : lv[j]? = some (i, .long a)) (k : Vh g x Q nL σ lv (.long a :: st) (pc + 1)) : Vh g x Q nL σ lv st pc :=
  fun H locs ls hP hS hl => lv_lload_n C.1 C.2.1 hd hi (lv_at hl j hj) (k H locs ls hP hS hl)
theorem v_lloadh (C : Okh g x cc own nL ret rm) {i : Nat} {a : Int64} (hd : decode cc pc = .ok (.lload i, 2)) (j : Nat) (hj : lv[j]? = some (i, .long a)) (k : Vh g x Q nL σ lv (.long a :: st) (pc + 2)) : Vh g x Q nL σ lv st pc :=
  fun H locs ls hP hS hl => lv_lload C.1 C.2.1 hd (lv_at hl j hj) (k H locs ls hP hS hl)
theorem v_aload_nh (C : Okh g x cc own nL ret rm) {n : Fin 4} {i : Nat} {a : Nat} (hd : decode cc pc = .ok (.aload_n n, 1)) (hi : (n : Nat) = i) (j : Nat) (hj : lv[j]? = some (i, .ref a)) (k : Vh g x Q nL σ lv (.ref a :: st) (pc + 1)) : Vh g x Q nL σ lv st pc :=
  fun H locs ls hP hS hl => lv_aload_n C.1 C.2.1 hd hi (lv_at hl j hj) (k H locs ls hP hS hl)
theorem v_aloadh (C : Okh g x cc own nL ret rm) {i : Nat} {a : Nat} (hd : decode cc pc = .ok (.aload i, 2)) (j : Nat) (hj : lv[j]? = some (i, .ref a)) (k : Vh g x Q nL σ lv (.ref a :: st) (pc + 2)) : Vh g x Q nL σ lv st pc :=
  fun H locs ls hP hS hl => lv_aload C.1 C.2.1 hd (lv_at hl j hj) (k H locs ls hP hS hl)
theorem v_istore_nh (C : Okh g x cc own nL ret rm) {n : Fin 4} {i : Nat} {a : Int32} {lv' : List (Nat × Value)} (hd : decode cc pc = .ok (.istore_n n, 1)) (hi : (n : Nat) = i) (hn : i < nL) (hl' : (i, Value.int a) :: lv.filter (fun q => !(q.1 == i) && !(q.1 + 1 == i && q.2.category == 2)) = lv') (k : Vh g x Q nL σ lv' st (pc + 1)) : Vh g x Q nL σ lv (.int a :: st) pc :=
  fun H locs ls hP hS hl => lv_istore_n C.1 C.2.1 hd hi hl hn hl' (fun ls' h => k H locs ls' hP hS h)
theorem v_istoreh (C : Okh g x cc own nL ret rm) {i : Nat} {a : Int32} {lv' : List (Nat × Value)} (hd : decode cc pc = .ok (.istore i, 2)) (hn : i < nL) (hl' : (i, Value.int a) :: lv.filter (fun q => !(q.1 == i) && !(q.1 + 1 == i && q.2.category == 2)) = lv') (k : Vh g x Q nL σ lv' st (pc + 2)) : Vh g x Q nL σ lv (.int a :: st) pc :=
  fun H locs ls hP hS hl => lv_istore C.1 C.2.1 hd hl hn hl' (fun ls' h => k H locs ls' hP hS h)
theorem v_astore_nh (C : Okh g x cc own nL ret rm) {n : Fin 4} {i : Nat} {a : Nat} {lv' : List (Nat × Value)} (hd : decode cc pc = .ok (.astore_n n, 1)) (hi : (n : Nat) = i) (hn : i < nL) (hl' : (i, Value.ref a) :: lv.filter (fun q => !(q.1 == i) && !(q.1 + 1 == i && q.2.category == 2)) = lv') (k : Vh g x Q nL σ lv' st (pc + 1)) : Vh g x Q nL σ lv (.ref a :: st) pc :=
  fun H locs ls hP hS hl => lv_astore_n C.1 C.2.1 hd hi hl hn hl' (fun ls' h => k H locs ls' hP hS h)
theorem v_astoreh (C : Okh g x cc own nL ret rm) {i : Nat} {a : Nat} {lv' : List (Nat × Value)} (hd : decode cc pc = .ok (.astore i, 2)) (hn : i < nL) (hl' : (i, Value.ref a) :: lv.filter (fun q => !(q.1 == i) && !(q.1 + 1 == i && q.2.category == 2)) = lv') (k : Vh g x Q nL σ lv' st (pc + 2)) : Vh g x Q nL σ lv (.ref a :: st) pc :=
  fun H locs ls hP hS hl => lv_astore C.1 C.2.1 hd hl hn hl' (fun ls' h => k H locs ls' hP hS h)
theorem v_lstore_nh (C : Okh g x cc own nL ret rm) {n : Fin 4} {i : Nat} {a : Int64} {lv' : List (Nat × Value)} (hd : decode cc pc = .ok (.lstore_n n, 1)) (hi : (n : Nat) = i) (hn : i + 1 < nL) (hl' : (i, Value.long a) :: lv.filter (fun q => !(q.1 == i) && (!(q.1 == i + 1) && !(q.1 + 1 == i && q.2.category == 2))) = lv') (k : Vh g x Q nL σ lv' st (pc + 1)) : Vh g x Q nL σ lv (.long a :: st) pc :=
  fun H locs ls hP hS hl => lv_lstore_n C.1 C.2.1 hd hi hl hn hl' (fun ls' h => k H locs ls' hP hS h)
theorem v_lstoreh (C : Okh g x cc own nL ret rm) {i : Nat} {a : Int64} {lv' : List (Nat × Value)} (hd : decode cc pc = .ok (.lstore i, 2)) (hn : i + 1 < nL) (hl' : (i, Value.long a) :: lv.filter (fun q => !(q.1 == i) && (!(q.1 == i + 1) && !(q.1 + 1 == i && q.2.category == 2))) = lv') (k : Vh g x Q nL σ lv' st (pc + 2)) : Vh g x Q nL σ lv (.long a :: st) pc :=
  fun H locs ls hP hS hl => lv_lstore C.1 C.2.1 hd hl hn hl' (fun ls' h => k H locs ls' hP hS h)
theorem v_iinch (C : Okh g x cc own nL ret rm) {i : Nat} {n : Int} {a v : Int32} {lv' : List (Nat × Value)} (hd : decode cc pc = .ok (.iinc i n, 3)) (j : Nat) (hj : lv[j]? = some (i, .int a)) (hv : a + Int32.ofInt n = v) (hn : i < nL) (hl' : (i, Value.int v) :: lv.filter (fun q => !(q.1 == i) && !(q.1 + 1 == i && q.2.category == 2)) = lv') (k : Vh g x Q nL σ lv' st (pc + 3)) : Vh g x Q nL σ lv st pc :=
  fun H locs ls hP hS hl => lv_iinc C.1 C.2.1 hd hl hj hv hn hl' (fun ls' h => k H locs ls' hP hS h)
theorem v_gotoh (C : Okh g x cc own nL ret rm) {off : Int} {tgt : Nat} (hd : decode cc pc = .ok (.goto off, 3)) (ht : (pc : Int) + off = (tgt : Int)) (k : Vh g x Q nL σ lv st tgt) : Vh g x Q nL σ lv st pc :=
  fun H locs ls hP hS hl => lv_goto C.1 C.2.1 hd ht (k H locs ls hP hS hl)
theorem v_duph (C : Okh g x cc own nL ret rm) {va : Value} (hd : decode cc pc = .ok (.dup, 1)) (hva : va.category = 1) (k : Vh g x Q nL σ lv (va :: va :: st) (pc + 1)) : Vh g x Q nL σ lv (va :: st) pc :=
  fun H locs ls hP hS hl => lv_dup C.1 C.2.1 hd hva (k H locs ls hP hS hl)
theorem v_poph (C : Okh g x cc own nL ret rm) {va : Value} (hd : decode cc pc = .ok (.pop, 1)) (hva : va.category = 1) (k : Vh g x Q nL σ lv st (pc + 1)) : Vh g x Q nL σ lv (va :: st) pc :=
  fun H locs ls hP hS hl => lv_pop C.1 C.2.1 hd hva (k H locs ls hP hS hl)
theorem v_iaddh (C : Okh g x cc own nL ret rm) {a b : Int32} (hd : decode cc pc = .ok (.iadd, 1)) (k : Vh g x Q nL σ lv (.int (a + b) :: st) (pc + 1)) : Vh g x Q nL σ lv (.int b :: .int a :: st) pc :=
  fun H locs ls hP hS hl => lv_iadd C.1 C.2.1 hd (k H locs ls hP hS hl)
theorem v_isubh (C : Okh g x cc own nL ret rm) {a b : Int32} (hd : decode cc pc = .ok (.isub, 1)) (k : Vh g x Q nL σ lv (.int (a - b) :: st) (pc + 1)) : Vh g x Q nL σ lv (.int b :: .int a :: st) pc :=
  fun H locs ls hP hS hl => lv_isub C.1 C.2.1 hd (k H locs ls hP hS hl)
theorem v_imulh (C : Okh g x cc own nL ret rm) {a b : Int32} (hd : decode cc pc = .ok (.imul, 1)) (k : Vh g x Q nL σ lv (.int (a * b) :: st) (pc + 1)) : Vh g x Q nL σ lv (.int b :: .int a :: st) pc :=
  fun H locs ls hP hS hl => lv_imul C.1 C.2.1 hd (k H locs ls hP hS hl)
theorem v_iandh (C : Okh g x cc own nL ret rm) {a b : Int32} (hd : decode cc pc = .ok (.iand, 1)) (k : Vh g x Q nL σ lv (.int (a &&& b) :: st) (pc + 1)) : Vh g x Q nL σ lv (.int b :: .int a :: st) pc :=
  fun H locs ls hP hS hl => lv_iand C.1 C.2.1 hd (k H locs ls hP hS hl)
theorem v_iorh (C : Okh g x cc own nL ret rm) {a b : Int32} (hd : decode cc pc = .ok (.ior, 1)) (k : Vh g x Q nL σ lv (.int (a ||| b) :: st) (pc + 1)) : Vh g x Q nL σ lv (.int b :: .int a :: st) pc :=
  fun H locs ls hP hS hl => lv_ior C.1 C.2.1 hd (k H locs ls hP hS hl)
theorem v_ixorh (C : Okh g x cc own nL ret rm) {a b : Int32} (hd : decode cc pc = .ok (.ixor, 1)) (k : Vh g x Q nL σ lv (.int (a ^^^ b) :: st) (pc + 1)) : Vh g x Q nL σ lv (.int b :: .int a :: st) pc :=
  fun H locs ls hP hS hl => lv_ixor C.1 C.2.1 hd (k H locs ls hP hS hl)
theorem v_laddh (C : Okh g x cc own nL ret rm) {a b : Int64} (hd : decode cc pc = .ok (.ladd, 1)) (k : Vh g x Q nL σ lv (.long (a + b) :: st) (pc + 1)) : Vh g x Q nL σ lv (.long b :: .long a :: st) pc :=
  fun H locs ls hP hS hl => lv_ladd C.1 C.2.1 hd (k H locs ls hP hS hl)
theorem v_lsubh (C : Okh g x cc own nL ret rm) {a b : Int64} (hd : decode cc pc = .ok (.lsub, 1)) (k : Vh g x Q nL σ lv (.long (a - b) :: st) (pc + 1)) : Vh g x Q nL σ lv (.long b :: .long a :: st) pc :=
  fun H locs ls hP hS hl => lv_lsub C.1 C.2.1 hd (k H locs ls hP hS hl)
theorem v_lmulh (C : Okh g x cc own nL ret rm) {a b : Int64} (hd : decode cc pc = .ok (.lmul, 1)) (k : Vh g x Q nL σ lv (.long (a * b) :: st) (pc + 1)) : Vh g x Q nL σ lv (.long b :: .long a :: st) pc :=
  fun H locs ls hP hS hl => lv_lmul C.1 C.2.1 hd (k H locs ls hP hS hl)
theorem v_landh (C : Okh g x cc own nL ret rm) {a b : Int64} (hd : decode cc pc = .ok (.land, 1)) (k : Vh g x Q nL σ lv (.long (a &&& b) :: st) (pc + 1)) : Vh g x Q nL σ lv (.long b :: .long a :: st) pc :=
  fun H locs ls hP hS hl => lv_land C.1 C.2.1 hd (k H locs ls hP hS hl)
theorem v_lorh (C : Okh g x cc own nL ret rm) {a b : Int64} (hd : decode cc pc = .ok (.lor, 1)) (k : Vh g x Q nL σ lv (.long (a ||| b) :: st) (pc + 1)) : Vh g x Q nL σ lv (.long b :: .long a :: st) pc :=
  fun H locs ls hP hS hl => lv_lor C.1 C.2.1 hd (k H locs ls hP hS hl)
theorem v_lxorh (C : Okh g x cc own nL ret rm) {a b : Int64} (hd : decode cc pc = .ok (.lxor, 1)) (k : Vh g x Q nL σ lv (.long (a ^^^ b) :: st) (pc + 1)) : Vh g x Q nL σ lv (.long b :: .long a :: st) pc :=
  fun H locs ls hP hS hl => lv_lxor C.1 C.2.1 hd (k H locs ls hP hS hl)
theorem v_inegh (C : Okh g x cc own nL ret rm) {a : Int32} (hd : decode cc pc = .ok (.ineg, 1)) (k : Vh g x Q nL σ lv (.int (-a) :: st) (pc + 1)) : Vh g x Q nL σ lv (.int a :: st) pc :=
  fun H locs ls hP hS hl => lv_ineg C.1 C.2.1 hd (k H locs ls hP hS hl)
theorem v_lnegh (C : Okh g x cc own nL ret rm) {a : Int64} (hd : decode cc pc = .ok (.lneg, 1)) (k : Vh g x Q nL σ lv (.long (-a) :: st) (pc + 1)) : Vh g x Q nL σ lv (.long a :: st) pc :=
  fun H locs ls hP hS hl => lv_lneg C.1 C.2.1 hd (k H locs ls hP hS hl)
theorem v_idivh (C : Okh g x cc own nL ret rm) {a b : Int32} (hd : decode cc pc = .ok (.idiv, 1)) (hne : ¬ b = 0) (k : Vh g x Q nL σ lv (.int (a / b) :: st) (pc + 1)) : Vh g x Q nL σ lv (.int b :: .int a :: st) pc :=
  fun H locs ls hP hS hl => lv_idiv C.1 C.2.1 hd hne (k H locs ls hP hS hl)
theorem v_iremh (C : Okh g x cc own nL ret rm) {a b : Int32} (hd : decode cc pc = .ok (.irem, 1)) (hne : ¬ b = 0) (k : Vh g x Q nL σ lv (.int (jrem a b) :: st) (pc + 1)) : Vh g x Q nL σ lv (.int b :: .int a :: st) pc :=
  fun H locs ls hP hS hl => lv_irem C.1 C.2.1 hd hne (k H locs ls hP hS hl)
theorem v_ldivh (C : Okh g x cc own nL ret rm) {a b : Int64} (hd : decode cc pc = .ok (.ldiv, 1)) (hne : ¬ b = 0) (k : Vh g x Q nL σ lv (.long (a / b) :: st) (pc + 1)) : Vh g x Q nL σ lv (.long b :: .long a :: st) pc :=
  fun H locs ls hP hS hl => lv_ldiv C.1 C.2.1 hd hne (k H locs ls hP hS hl)
theorem v_lremh (C : Okh g x cc own nL ret rm) {a b : Int64} (hd : decode cc pc = .ok (.lrem, 1)) (hne : ¬ b = 0) (k : Vh g x Q nL σ lv (.long (jlrem a b) :: st) (pc + 1)) : Vh g x Q nL σ lv (.long b :: .long a :: st) pc :=
  fun H locs ls hP hS hl => lv_lrem C.1 C.2.1 hd hne (k H locs ls hP hS hl)
theorem v_ishlh (C : Okh g x cc own nL ret rm) {a b : Int32} (hd : decode cc pc = .ok (.ishl, 1)) (k : Vh g x Q nL σ lv (.int (jshl a b) :: st) (pc + 1)) : Vh g x Q nL σ lv (.int b :: .int a :: st) pc :=
  fun H locs ls hP hS hl => lv_ishl C.1 C.2.1 hd (k H locs ls hP hS hl)
theorem v_ishrh (C : Okh g x cc own nL ret rm) {a b : Int32} (hd : decode cc pc = .ok (.ishr, 1)) (k : Vh g x Q nL σ lv (.int (jshr a b) :: st) (pc + 1)) : Vh g x Q nL σ lv (.int b :: .int a :: st) pc :=
  fun H locs ls hP hS hl => lv_ishr C.1 C.2.1 hd (k H locs ls hP hS hl)
theorem v_iushrh (C : Okh g x cc own nL ret rm) {a b : Int32} (hd : decode cc pc = .ok (.iushr, 1)) (k : Vh g x Q nL σ lv (.int (jushr a b) :: st) (pc + 1)) : Vh g x Q nL σ lv (.int b :: .int a :: st) pc :=
  fun H locs ls hP hS hl => lv_iushr C.1 C.2.1 hd rfl (k H locs ls hP hS hl)
theorem v_lshlh (C : Okh g x cc own nL ret rm) {a : Int64} {b : Int32} (hd : decode cc pc = .ok (.lshl, 1)) (k : Vh g x Q nL σ lv (.long (lshl a b) :: st) (pc + 1)) : Vh g x Q nL σ lv (.int b :: .long a :: st) pc :=
  fun H locs ls hP hS hl => lv_lshl C.1 C.2.1 hd rfl (k H locs ls hP hS hl)
theorem v_lshrh (C : Okh g x cc own nL ret rm) {a : Int64} {b : Int32} (hd : decode cc pc = .ok (.lshr, 1)) (k : Vh g x Q nL σ lv (.long (lshr a b) :: st) (pc + 1)) : Vh g x Q nL σ lv (.int b :: .long a :: st) pc :=
  fun H locs ls hP hS hl => lv_lshr C.1 C.2.1 hd rfl (k H locs ls hP hS hl)
theorem v_lushrh (C : Okh g x cc own nL ret rm) {a : Int64} {b : Int32} (hd : decode cc pc = .ok (.lushr, 1)) (k : Vh g x Q nL σ lv (.long (lushr a b) :: st) (pc + 1)) : Vh g x Q nL σ lv (.int b :: .long a :: st) pc :=
  fun H locs ls hP hS hl => lv_lushr C.1 C.2.1 hd rfl (k H locs ls hP hS hl)
theorem v_i2lh (C : Okh g x cc own nL ret rm) {a : Int32} (hd : decode cc pc = .ok (.i2l, 1)) (k : Vh g x Q nL σ lv (.long a.toInt64 :: st) (pc + 1)) : Vh g x Q nL σ lv (.int a :: st) pc :=
  fun H locs ls hP hS hl => lv_i2l C.1 C.2.1 hd rfl (k H locs ls hP hS hl)
theorem v_l2ih (C : Okh g x cc own nL ret rm) {a : Int64} (hd : decode cc pc = .ok (.l2i, 1)) (k : Vh g x Q nL σ lv (.int a.toInt32 :: st) (pc + 1)) : Vh g x Q nL σ lv (.long a :: st) pc :=
  fun H locs ls hP hS hl => lv_l2i C.1 C.2.1 hd rfl (k H locs ls hP hS hl)
theorem v_icmp_eqh (C : Okh g x cc own nL ret rm) {a b : Int32} {off : Int} {tgt : Nat} (hd : decode cc pc = .ok (.if_icmp .eq off, 3)) (ht : (pc : Int) + off = (tgt : Int)) (kt : a = b → Vh g x Q nL σ lv st tgt) (kf : ¬ a = b → Vh g x Q nL σ lv st (pc + 3)) : Vh g x Q nL σ lv (.int b :: .int a :: st) pc :=
  fun H locs ls hP hS hl => lv_icmp_eq C.1 C.2.1 hd ht (fun h => kt h H locs ls hP hS hl) (fun h => kf h H locs ls hP hS hl)
theorem v_if_eqh (C : Okh g x cc own nL ret rm) {a : Int32} {off : Int} {tgt : Nat} (hd : decode cc pc = .ok (.ifCond .eq off, 3)) (ht : (pc : Int) + off = (tgt : Int)) (kt : a = 0 → Vh g x Q nL σ lv st tgt) (kf : ¬ a = 0 → Vh g x Q nL σ lv st (pc + 3)) : Vh g x Q nL σ lv (.int a :: st) pc :=
  fun H locs ls hP hS hl => lv_if_eq C.1 C.2.1 hd ht (fun h => kt h H locs ls hP hS hl) (fun h => kf h H locs ls hP hS hl)
theorem v_icmp_neh (C : Okh g x cc own nL ret rm) {a b : Int32} {off : Int} {tgt : Nat} (hd : decode cc pc = .ok (.if_icmp .ne off, 3)) (ht : (pc : Int) + off = (tgt : Int)) (kt : ¬ a = b → Vh g x Q nL σ lv st tgt) (kf : a = b → Vh g x Q nL σ lv st (pc + 3)) : Vh g x Q nL σ lv (.int b :: .int a :: st) pc :=
  fun H locs ls hP hS hl => lv_icmp_ne C.1 C.2.1 hd ht (fun h => kt h H locs ls hP hS hl) (fun h => kf h H locs ls hP hS hl)
theorem v_if_neh (C : Okh g x cc own nL ret rm) {a : Int32} {off : Int} {tgt : Nat} (hd : decode cc pc = .ok (.ifCond .ne off, 3)) (ht : (pc : Int) + off = (tgt : Int)) (kt : ¬ a = 0 → Vh g x Q nL σ lv st tgt) (kf : a = 0 → Vh g x Q nL σ lv st (pc + 3)) : Vh g x Q nL σ lv (.int a :: st) pc :=
  fun H locs ls hP hS hl => lv_if_ne C.1 C.2.1 hd ht (fun h => kt h H locs ls hP hS hl) (fun h => kf h H locs ls hP hS hl)
theorem v_icmp_lth (C : Okh g x cc own nL ret rm) {a b : Int32} {off : Int} {tgt : Nat} (hd : decode cc pc = .ok (.if_icmp .lt off, 3)) (ht : (pc : Int) + off = (tgt : Int)) (kt : a < b → Vh g x Q nL σ lv st tgt) (kf : ¬ a < b → Vh g x Q nL σ lv st (pc + 3)) : Vh g x Q nL σ lv (.int b :: .int a :: st) pc :=
  fun H locs ls hP hS hl => lv_icmp_lt C.1 C.2.1 hd ht (fun h => kt h H locs ls hP hS hl) (fun h => kf h H locs ls hP hS hl)
theorem v_if_lth (C : Okh g x cc own nL ret rm) {a : Int32} {off : Int} {tgt : Nat} (hd : decode cc pc = .ok (.ifCond .lt off, 3)) (ht : (pc : Int) + off = (tgt : Int)) (kt : a < 0 → Vh g x Q nL σ lv st tgt) (kf : ¬ a < 0 → Vh g x Q nL σ lv st (pc + 3)) : Vh g x Q nL σ lv (.int a :: st) pc :=
  fun H locs ls hP hS hl => lv_if_lt C.1 C.2.1 hd ht (fun h => kt h H locs ls hP hS hl) (fun h => kf h H locs ls hP hS hl)
theorem v_icmp_geh (C : Okh g x cc own nL ret rm) {a b : Int32} {off : Int} {tgt : Nat} (hd : decode cc pc = .ok (.if_icmp .ge off, 3)) (ht : (pc : Int) + off = (tgt : Int)) (kt : b ≤ a → Vh g x Q nL σ lv st tgt) (kf : ¬ b ≤ a → Vh g x Q nL σ lv st (pc + 3)) : Vh g x Q nL σ lv (.int b :: .int a :: st) pc :=
  fun H locs ls hP hS hl => lv_icmp_ge C.1 C.2.1 hd ht (fun h => kt h H locs ls hP hS hl) (fun h => kf h H locs ls hP hS hl)
theorem v_if_geh (C : Okh g x cc own nL ret rm) {a : Int32} {off : Int} {tgt : Nat} (hd : decode cc pc = .ok (.ifCond .ge off, 3)) (ht : (pc : Int) + off = (tgt : Int)) (kt : 0 ≤ a → Vh g x Q nL σ lv st tgt) (kf : ¬ 0 ≤ a → Vh g x Q nL σ lv st (pc + 3)) : Vh g x Q nL σ lv (.int a :: st) pc :=
  fun H locs ls hP hS hl => lv_if_ge C.1 C.2.1 hd ht (fun h => kt h H locs ls hP hS hl) (fun h => kf h H locs ls hP hS hl)
theorem v_icmp_gth (C : Okh g x cc own nL ret rm) {a b : Int32} {off : Int} {tgt : Nat} (hd : decode cc pc = .ok (.if_icmp .gt off, 3)) (ht : (pc : Int) + off = (tgt : Int)) (kt : b < a → Vh g x Q nL σ lv st tgt) (kf : ¬ b < a → Vh g x Q nL σ lv st (pc + 3)) : Vh g x Q nL σ lv (.int b :: .int a :: st) pc :=
  fun H locs ls hP hS hl => lv_icmp_gt C.1 C.2.1 hd ht (fun h => kt h H locs ls hP hS hl) (fun h => kf h H locs ls hP hS hl)
theorem v_if_gth (C : Okh g x cc own nL ret rm) {a : Int32} {off : Int} {tgt : Nat} (hd : decode cc pc = .ok (.ifCond .gt off, 3)) (ht : (pc : Int) + off = (tgt : Int)) (kt : 0 < a → Vh g x Q nL σ lv st tgt) (kf : ¬ 0 < a → Vh g x Q nL σ lv st (pc + 3)) : Vh g x Q nL σ lv (.int a :: st) pc :=
  fun H locs ls hP hS hl => lv_if_gt C.1 C.2.1 hd ht (fun h => kt h H locs ls hP hS hl) (fun h => kf h H locs ls hP hS hl)
theorem v_icmp_leh (C : Okh g x cc own nL ret rm) {a b : Int32} {off : Int} {tgt : Nat} (hd : decode cc pc = .ok (.if_icmp .le off, 3)) (ht : (pc : Int) + off = (tgt : Int)) (kt : a ≤ b → Vh g x Q nL σ lv st tgt) (kf : ¬ a ≤ b → Vh g x Q nL σ lv st (pc + 3)) : Vh g x Q nL σ lv (.int b :: .int a :: st) pc :=
  fun H locs ls hP hS hl => lv_icmp_le C.1 C.2.1 hd ht (fun h => kt h H locs ls hP hS hl) (fun h => kf h H locs ls hP hS hl)
theorem v_if_leh (C : Okh g x cc own nL ret rm) {a : Int32} {off : Int} {tgt : Nat} (hd : decode cc pc = .ok (.ifCond .le off, 3)) (ht : (pc : Int) + off = (tgt : Int)) (kt : a ≤ 0 → Vh g x Q nL σ lv st tgt) (kf : ¬ a ≤ 0 → Vh g x Q nL σ lv st (pc + 3)) : Vh g x Q nL σ lv (.int a :: st) pc :=
  fun H locs ls hP hS hl => lv_if_le C.1 C.2.1 hd ht (fun h => kt h H locs ls hP hS hl) (fun h => kf h H locs ls hP hS hl)
end VR
section VW
variable {g : Geo} {x : Cx} {Q : State → Prop} {nL : Nat} {σ : St} {lv : List (Nat × Value)} {st : List Value} {pc : Nat} {cc : ByteArray} {own : String} {ret : Option FieldType} {rm : Room}
theorem v_lcmp_eqh (C : Okh g x cc own nL ret rm) {a b : Int64} {off : Int} {tgt : Nat} (hd0 : decode cc pc = .ok (.lcmp, 1)) (hd : decode cc (pc + 1) = .ok (.ifCond .eq off, 3)) (ht : ((pc + 1 : Nat) : Int) + off = (tgt : Int)) (kt : a = b → Vh g x Q nL σ lv st tgt) (kf : ¬ a = b → Vh g x Q nL σ lv st (pc + 1 + 3)) : Vh g x Q nL σ lv (.long b :: .long a :: st) pc :=
  fun H locs ls hP hS hl => W.lcmp C.1 C.2.1 hd0 (lv_if_eq C.1 C.2.1 hd ht (fun h => kt ((lg_cmp_eq a b).mp h) H locs ls hP hS hl) (fun h => kf (fun z => h ((lg_cmp_eq a b).mpr z)) H locs ls hP hS hl))
theorem v_lcmp_neh (C : Okh g x cc own nL ret rm) {a b : Int64} {off : Int} {tgt : Nat} (hd0 : decode cc pc = .ok (.lcmp, 1)) (hd : decode cc (pc + 1) = .ok (.ifCond .ne off, 3)) (ht : ((pc + 1 : Nat) : Int) + off = (tgt : Int)) (kt : ¬ a = b → Vh g x Q nL σ lv st tgt) (kf : a = b → Vh g x Q nL σ lv st (pc + 1 + 3)) : Vh g x Q nL σ lv (.long b :: .long a :: st) pc :=
  fun H locs ls hP hS hl => W.lcmp C.1 C.2.1 hd0 (lv_if_ne C.1 C.2.1 hd ht (fun h => kt (fun z => h ((lg_cmp_eq a b).mpr z)) H locs ls hP hS hl) (fun h => kf ((lg_cmp_eq a b).mp h) H locs ls hP hS hl))
theorem v_lcmp_lth (C : Okh g x cc own nL ret rm) {a b : Int64} {off : Int} {tgt : Nat} (hd0 : decode cc pc = .ok (.lcmp, 1)) (hd : decode cc (pc + 1) = .ok (.ifCond .lt off, 3)) (ht : ((pc + 1 : Nat) : Int) + off = (tgt : Int)) (kt : a < b → Vh g x Q nL σ lv st tgt) (kf : ¬ a < b → Vh g x Q nL σ lv st (pc + 1 + 3)) : Vh g x Q nL σ lv (.long b :: .long a :: st) pc :=
  fun H locs ls hP hS hl => W.lcmp C.1 C.2.1 hd0 (lv_if_lt C.1 C.2.1 hd ht (fun h => kt ((lg_cmp_lt a b).mp h) H locs ls hP hS hl) (fun h => kf (fun z => h ((lg_cmp_lt a b).mpr z)) H locs ls hP hS hl))
theorem v_lcmp_geh (C : Okh g x cc own nL ret rm) {a b : Int64} {off : Int} {tgt : Nat} (hd0 : decode cc pc = .ok (.lcmp, 1)) (hd : decode cc (pc + 1) = .ok (.ifCond .ge off, 3)) (ht : ((pc + 1 : Nat) : Int) + off = (tgt : Int)) (kt : b ≤ a → Vh g x Q nL σ lv st tgt) (kf : ¬ b ≤ a → Vh g x Q nL σ lv st (pc + 1 + 3)) : Vh g x Q nL σ lv (.long b :: .long a :: st) pc :=
  fun H locs ls hP hS hl => W.lcmp C.1 C.2.1 hd0 (lv_if_ge C.1 C.2.1 hd ht (fun h => kt ((lg_cmp_ge a b).mp h) H locs ls hP hS hl) (fun h => kf (fun z => h ((lg_cmp_ge a b).mpr z)) H locs ls hP hS hl))
theorem v_lcmp_gth (C : Okh g x cc own nL ret rm) {a b : Int64} {off : Int} {tgt : Nat} (hd0 : decode cc pc = .ok (.lcmp, 1)) (hd : decode cc (pc + 1) = .ok (.ifCond .gt off, 3)) (ht : ((pc + 1 : Nat) : Int) + off = (tgt : Int)) (kt : b < a → Vh g x Q nL σ lv st tgt) (kf : ¬ b < a → Vh g x Q nL σ lv st (pc + 1 + 3)) : Vh g x Q nL σ lv (.long b :: .long a :: st) pc :=
  fun H locs ls hP hS hl => W.lcmp C.1 C.2.1 hd0 (lv_if_gt C.1 C.2.1 hd ht (fun h => kt ((lg_cmp_gt a b).mp h) H locs ls hP hS hl) (fun h => kf (fun z => h ((lg_cmp_gt a b).mpr z)) H locs ls hP hS hl))
theorem v_lcmp_leh (C : Okh g x cc own nL ret rm) {a b : Int64} {off : Int} {tgt : Nat} (hd0 : decode cc pc = .ok (.lcmp, 1)) (hd : decode cc (pc + 1) = .ok (.ifCond .le off, 3)) (ht : ((pc + 1 : Nat) : Int) + off = (tgt : Int)) (kt : a ≤ b → Vh g x Q nL σ lv st tgt) (kf : ¬ a ≤ b → Vh g x Q nL σ lv st (pc + 1 + 3)) : Vh g x Q nL σ lv (.long b :: .long a :: st) pc :=
  fun H locs ls hP hS hl => W.lcmp C.1 C.2.1 hd0 (lv_if_le C.1 C.2.1 hd ht (fun h => kt ((lg_cmp_le a b).mp h) H locs ls hP hS hl) (fun h => kf (fun z => h ((lg_cmp_le a b).mpr z)) H locs ls hP hS hl))
theorem v_geth (C : Okh g x cc own nL ret rm) {idx p c k t : Nat} (hf : FL own idx c k t) (hk : kdh p = c) (hd : decode cc pc = .ok (.getfield idx, 3)) (kk : Vh g x Q nL σ lv (fv g.1 σ p c k :: st) (pc + 3)) : Vh g x Q nL σ lv (.ref (g.1 p) :: st) pc := by
  intro H locs ls hP hS hl
  obtain ⟨hx, hb, -, hown, hts, hK, -⟩ := C
  obtain ⟨f1, f2, f3, f4⟩ := hf
  have hp : p < 26 := kd_lth (by omega)
  exact va_get (ref := (clT c k).1) hx hb hts (cl_in f2) hown hK hP p (by rw [wsg_ath hp, ent_objh hk f2]) (cl_at f2) k f3 (hts _ f1) (fun _ h => h) (fvs_ath hk f3) hd (kk H locs ls hP hS hl)
theorem v_getIh (C : Okh g x cc own nL ret rm) {idx p c k : Nat} (hf : FL own idx c k 0) (hk : kdh p = c) (hd : decode cc pc = .ok (.getfield idx, 3)) (kk : Vh g x Q nL σ lv (.int (gi σ p k) :: st) (pc + 3)) : Vh g x Q nL σ lv (.ref (g.1 p) :: st) pc :=
  v_geth C hf hk hd (by have e : fv g.1 σ p c k = .int (gi σ p k) := (by simp [fv, hf.2.2.2]); rw [e]; exact kk)
theorem v_getZh (C : Okh g x cc own nL ret rm) {idx p c k : Nat} (hf : FL own idx c k 3) (hk : kdh p = c) (hd : decode cc pc = .ok (.getfield idx, 3)) (kk : Vh g x Q nL σ lv (.int (gi σ p k) :: st) (pc + 3)) : Vh g x Q nL σ lv (.ref (g.1 p) :: st) pc :=
  v_geth C hf hk hd (by have e : fv g.1 σ p c k = .int (gi σ p k) := (by simp [fv, hf.2.2.2]); rw [e]; exact kk)
theorem v_getLh (C : Okh g x cc own nL ret rm) {idx p c k : Nat} (hf : FL own idx c k 1) (hk : kdh p = c) (hd : decode cc pc = .ok (.getfield idx, 3)) (kk : Vh g x Q nL σ lv (.long (gl σ p k) :: st) (pc + 3)) : Vh g x Q nL σ lv (.ref (g.1 p) :: st) pc :=
  v_geth C hf hk hd (by have e : fv g.1 σ p c k = .long (gl σ p k) := (by simp [fv, hf.2.2.2]); rw [e]; exact kk)
theorem v_getRh (C : Okh g x cc own nL ret rm) {idx p c k p' : Nat} (hf : FL own idx c k 2) (hk : kdh p = c) (hr : rf p k = p') (hd : decode cc pc = .ok (.getfield idx, 3)) (kk : Vh g x Q nL σ lv (.ref (g.1 p') :: st) (pc + 3)) : Vh g x Q nL σ lv (.ref (g.1 p) :: st) pc :=
  v_geth C hf hk hd (by have e : fv g.1 σ p c k = .ref (g.1 p') := (by simp [fv, hf.2.2.2, hr]); rw [e]; exact kk)
theorem v_putIh (C : Okh g x cc own nL ret rm) {idx p c k : Nat} {v : Int32} (hf : FL own idx c k 0) (hw : FW c k .int) (hk : kdh p = c) (hd : decode cc pc = .ok (.putfield idx, 3)) (kk : Vh g x Q nL (si σ p k v) lv st (pc + 3)) : Vh g x Q nL σ lv (.int v :: .ref (g.1 p) :: st) pc := by
  intro H locs ls hP hS hl
  obtain ⟨hx, hb, -, hown, hts, hK, hi, -⟩ := C
  obtain ⟨f1, f2, f3, f4⟩ := hf
  have hp : p < 26 := kd_lth (by omega)
  refine va_put (ref := (clT c k).1) (ty := .int) hx hb hts (cl_in f2) (clY c) (cl_ty f2) (cl_nm f2) hown hK hP (wsg_Dh hi) hS p (fs := fvsh g.1 σ p) (by rw [wsg_ath hp, ent_objh hk f2]) (cl_at f2) k f3 (hts _ f1) (fun _ h => h) hw.1 hw.2 rfl rfl (by simp [fvsh, hk, f3]) hd (fun H1 locs1 hP1 hD1 hS1 => ?_)
  rw [wsg_seth (σ' := si σ p k v) hp (by rw [ent_objh hk f2, fvs_sih hk f3 (by omega) (by omega)]) (fun q hq => ent_sih hq)] at hP1
  exact kk H1 locs1 ls hP1 hS1 hl
theorem v_putZh (C : Okh g x cc own nL ret rm) {idx p c k : Nat} {v : Int32} (hf : FL own idx c k 3) (hw : FW c k .boolean) (hk : kdh p = c) (hv : v = 0 ∨ v = 1) (hd : decode cc pc = .ok (.putfield idx, 3)) (kk : Vh g x Q nL (si σ p k v) lv st (pc + 3)) : Vh g x Q nL σ lv (.int v :: .ref (g.1 p) :: st) pc := by
  intro H locs ls hP hS hl
  obtain ⟨hx, hb, -, hown, hts, hK, hi, -⟩ := C
  obtain ⟨f1, f2, f3, f4⟩ := hf
  have hp : p < 26 := kd_lth (by omega)
  refine va_put (ref := (clT c k).1) (ty := .boolean) hx hb hts (cl_in f2) (clY c) (cl_ty f2) (cl_nm f2) hown hK hP (wsg_Dh hi) hS p (fs := fvsh g.1 σ p) (by rw [wsg_ath hp, ent_objh hk f2]) (cl_at f2) k f3 (hts _ f1) (fun _ h => h) hw.1 hw.2 (nar_z hv) (fit_z hv) (by simp [fvsh, hk, f3]) hd (fun H1 locs1 hP1 hD1 hS1 => ?_)
  rw [wsg_seth (σ' := si σ p k v) hp (by rw [ent_objh hk f2, fvs_sih hk f3 (by omega) (by omega)]) (fun q hq => ent_sih hq)] at hP1
  exact kk H1 locs1 ls hP1 hS1 hl
theorem v_putLh (C : Okh g x cc own nL ret rm) {idx p c k : Nat} {v : Int64} (hf : FL own idx c k 1) (hw : FW c k .long) (hk : kdh p = c) (hd : decode cc pc = .ok (.putfield idx, 3)) (kk : Vh g x Q nL (sl σ p k v) lv st (pc + 3)) : Vh g x Q nL σ lv (.long v :: .ref (g.1 p) :: st) pc := by
  intro H locs ls hP hS hl
  obtain ⟨hx, hb, -, hown, hts, hK, hi, -⟩ := C
  obtain ⟨f1, f2, f3, f4⟩ := hf
  have hp : p < 26 := kd_lth (by omega)
  refine va_put (ref := (clT c k).1) (ty := .long) hx hb hts (cl_in f2) (clY c) (cl_ty f2) (cl_nm f2) hown hK hP (wsg_Dh hi) hS p (fs := fvsh g.1 σ p) (by rw [wsg_ath hp, ent_objh hk f2]) (cl_at f2) k f3 (hts _ f1) (fun _ h => h) hw.1 hw.2 rfl rfl (by simp [fvsh, hk, f3]) hd (fun H1 locs1 hP1 hD1 hS1 => ?_)
  rw [wsg_seth (σ' := sl σ p k v) hp (by rw [ent_objh hk f2, fvs_slh hk f3 f4]) (fun q hq => ent_slh hq)] at hP1
  exact kk H1 locs1 ls hP1 hS1 hl
/-- behind a call -/
theorem v_backh (C : Okh g x cc own nL ret rm) {H : Heap} {locs : List Loc} {ls : Array Slot} {stk : List Value} {r : Option Value} {σ1 : St} {a : Array Value} (hl : lv_has ls nL lv) (hS : va_S (Aofh g) (Cx.s x).heap H locs)
    (hr : va_Run (Cx.p x) (Cx.l x) (Cx.e x) (Cx.R x) (Cx.s x) (Cx.m x) (Cx.args x) (Cx.below x) (Cx.meth x) (Cx.c x) H locs (Cx.cells x) (Cx.slots x) 0 0 (F0 (Cx.m x) pc ls stk) st (Qc0h g r σ1 a) (Aofh g))
    (kk : Vh g x Q nL σ1 lv (r.toList ++ st) (pc + 3)) : WX x Q H locs (F0 (Cx.m x) pc ls stk) := by
  intro T hT X
  obtain ⟨v, st₀, t, T', L, h0, X', hL, e1, e2, ⟨hv, hP1, hz, hk⟩, stp⟩ := hr T hT X
  cases hv
  rw [h0] at hz hk
  obtain ⟨t2, a1, b1⟩ := kk T'.heap (locs ++ L) ls (by rw [e1]; exact hP1)
    ⟨Nat.le_trans hS.1 (by rw [e1]; exact hz), fun q h1 h2 => by rw [e1, hk q (Nat.lt_of_lt_of_le h1 hS.1) h2]; exact hS.2.1 q h1 h2, fun q hq => by
      rcases List.mem_append.mp hq with h | h
      · exact hS.2.2 q h
      · exact hL q h⟩ hl T' rfl X'
  exact ⟨t2, stp t2 a1, b1⟩
theorem v_callVh (C : Okh g x cc own nL ret rm) {y : MethodName} {cc' : ByteArray} {nL' n idx p c : Nat} {ret' : Option FieldType} {rm' : Room} {As stk : List Value} {r : Option Value} {σ1 : St} (hct : Cth g y cc' nL' ret' rm' (.ref (g.1 p) :: As) σ r σ1)
    (hm : KM y cc' nL' ret' n) (hv : KV y c) (hk : kdh p = c) (hl0 : Cond.methodLink own idx y ∈ wT) (hn : As.length = n) (hstk : stk = As.reverse ++ .ref (g.1 p) :: st) (hrm : (rm'.cells = 0 ∧ rm'.slots = 0) ∧ rm'.frames + 1 ≤ rm.frames ∧ 8 + (nL' + 11) + rm'.locals ≤ rm.locals) (hW : (st.map fun v => v.category).sum ≤ 8)
    (hd : decode cc pc = .ok (.invokevirtual idx, 3)) (kk : Vh g x Q nL σ1 lv (r.toList ++ st) (pc + 3)) : Vh g x Q nL σ lv stk pc := by
  intro H locs ls hP hS hl
  obtain ⟨hx, hb, hml, hown, hts, hK, hi, hs, hlk, hrt, hR, hc1, hc2⟩ := id C
  obtain ⟨m1, m2, m3, m4, m5⟩ := hm
  obtain ⟨v1, v2, v3⟩ := hv
  have hp : p < 26 := kd_lth (by omega)
  have cw : CallW (Cx.R x) (Cx.s x) (Cx.args x) own (clN c) idx y cc' nL' ret' (.code y cc' nL' ret' :: wT) rm' 0 0 n :=
    ⟨callB_of n hts (goodIn_wT m1) rfl hrm.1.1 hrm.1.2 (hts _ m2) (hts _ hl0) ⟨m3, m4, m5⟩ (by rw [hR]; exact hrm.2), hts _ v1, hts _ v2⟩
  refine v_backh C hl hS (va_runV (As := As) (rest := st) ⟨hx, hb, hml, hown, hts⟩ (hct (Cx.l x)) cw ⟨pc0_blindh _ _ _, va_recv hK hP (q := (clN c, clT c, nf c)) (cl_at v3) (by rw [wsg_ath hp, ent_objh hk v3]), pc0_ath C hP hS _⟩ rfl hn hl.1 hstk (lv_room (m := Cx.m x) (pc := pc) (ls := ls) (rest := stk) hW) hd ⟨?_, ?_⟩) kk
  · rw [hR]; exact hc1
  · rw [hR]; exact hc2
theorem v_endh {H : Heap} {locs : List Loc} (hP : va_P g.2.1 vwCl (wsgh g σ) H) (hS : va_S (Aofh g) (Cx.s x).heap H locs) (r : Option Value) : ∀ t : State, t.heap = H → (Cx.s x).WarmedH t.vm → Qc0h g r σ (Cx.args x) (Cx.s x) (.returned r) t :=
  fun t ht _ => ⟨rfl, by rw [ht]; exact hP, hS.F ht⟩
theorem v_ireth (C : Okh g x cc own nL (some .int) rm) {v : Int32} (hd : decode cc pc = .ok (.ireturn, 1)) : Vh g x (qmh g x (some (.int v)) σ) nL σ lv [.int v] pc := by
  intro H locs ls hP hS hl
  obtain ⟨hx, hb, hml, hown, hts, hK, hi, hs, hlk, hrt, hR, hc1, hc2⟩ := C
  exact W.iret hx hb hrt (v_endh hP hS _) hS.2.2 hd hlk
theorem v_zreth (C : Okh g x cc own nL (some .boolean) rm) {v : Int32} (hv : v = 0 ∨ v = 1) (hd : decode cc pc = .ok (.ireturn, 1)) : Vh g x (qmh g x (some (.int v)) σ) nL σ lv [.int v] pc := by
  intro H locs ls hP hS hl
  obtain ⟨hx, hb, hml, hown, hts, hK, hi, hs, hlk, hrt, hR, hc1, hc2⟩ := C
  exact W.zret hx hb hrt (nar_z hv) (v_endh hP hS _) hS.2.2 hd hlk
theorem v_lreth (C : Okh g x cc own nL (some .long) rm) {v : Int64} (hd : decode cc pc = .ok (.lreturn, 1)) : Vh g x (qmh g x (some (.long v)) σ) nL σ lv [.long v] pc := by
  intro H locs ls hP hS hl
  obtain ⟨hx, hb, hml, hown, hts, hK, hi, hs, hlk, hrt, hR, hc1, hc2⟩ := C
  exact W.lret hx hb hrt (v_endh hP hS _) hS.2.2 hd hlk
theorem v_vreth (C : Okh g x cc own nL none rm) (hd : decode cc pc = .ok (.return_, 1)) : Vh g x (qmh g x none σ) nL σ lv [] pc := by
  intro H locs ls hP hS hl
  obtain ⟨hx, hb, hml, hown, hts, hK, hi, hs, hlk, hrt, hR, hc1, hc2⟩ := C
  exact W.vret hx hb hrt (v_endh hP hS _) hS.2.2 hd hlk
end VW
section VX
variable {g : Geo} {x : Cx} {Q : State → Prop} {nL : Nat} {σ τ : St} {lv : List (Nat × Value)} {st : List Value} {pc : Nat} {cc : ByteArray} {own : String} {ret : Option FieldType} {rm : Room}
theorem x_putIh (C : Okh g x cc own nL ret rm) {idx p c k : Nat} {v : Int32} (hf : FL own idx c k 0) (hw : FW c k .int) (hk : kdh p = c) (e : τ = si σ p k v) (hd : decode cc pc = .ok (.putfield idx, 3)) (kk : Vh g x Q nL τ lv st (pc + 3)) : Vh g x Q nL σ lv (.int v :: .ref (g.1 p) :: st) pc := v_putIh C hf hw hk hd (e ▸ kk)
theorem x_putZh (C : Okh g x cc own nL ret rm) {idx p c k : Nat} {v : Int32} (hf : FL own idx c k 3) (hw : FW c k .boolean) (hk : kdh p = c) (hv : v = 0 ∨ v = 1) (e : τ = si σ p k v) (hd : decode cc pc = .ok (.putfield idx, 3)) (kk : Vh g x Q nL τ lv st (pc + 3)) : Vh g x Q nL σ lv (.int v :: .ref (g.1 p) :: st) pc := v_putZh C hf hw hk hv hd (e ▸ kk)
theorem x_putLh (C : Okh g x cc own nL ret rm) {idx p c k : Nat} {v : Int64} (hf : FL own idx c k 1) (hw : FW c k .long) (hk : kdh p = c) (e : τ = sl σ p k v) (hd : decode cc pc = .ok (.putfield idx, 3)) (kk : Vh g x Q nL τ lv st (pc + 3)) : Vh g x Q nL σ lv (.long v :: .ref (g.1 p) :: st) pc := v_putLh C hf hw hk hd (e ▸ kk)
theorem x_idivh (C : Okh g x cc own nL ret rm) {a b v : Int32} (hne : ¬ b = 0) (e : v = a / b) (hd : decode cc pc = .ok (.idiv, 1)) (k : Vh g x Q nL σ lv (.int v :: st) (pc + 1)) : Vh g x Q nL σ lv (.int b :: .int a :: st) pc := v_idivh C hd hne (e ▸ k)
theorem x_iremh (C : Okh g x cc own nL ret rm) {a b v : Int32} (hne : ¬ b = 0) (e : v = jrem a b) (hd : decode cc pc = .ok (.irem, 1)) (k : Vh g x Q nL σ lv (.int v :: st) (pc + 1)) : Vh g x Q nL σ lv (.int b :: .int a :: st) pc := v_iremh C hd hne (e ▸ k)
theorem x_ldivh (C : Okh g x cc own nL ret rm) {a b v : Int64} (hne : ¬ b = 0) (e : v = a / b) (hd : decode cc pc = .ok (.ldiv, 1)) (k : Vh g x Q nL σ lv (.long v :: st) (pc + 1)) : Vh g x Q nL σ lv (.long b :: .long a :: st) pc := v_ldivh C hd hne (e ▸ k)
theorem x_lremh (C : Okh g x cc own nL ret rm) {a b v : Int64} (hne : ¬ b = 0) (e : v = jlrem a b) (hd : decode cc pc = .ok (.lrem, 1)) (k : Vh g x Q nL σ lv (.long v :: st) (pc + 1)) : Vh g x Q nL σ lv (.long b :: .long a :: st) pc := v_lremh C hd hne (e ▸ k)
theorem v_dup2h (C : Okh g x cc own nL ret rm) {va vb : Value} (hd : decode cc pc = .ok (.dup2, 1)) (h1 : va.category = 1) (h2 : vb.category = 1) (k : Vh g x Q nL σ lv (va :: vb :: va :: vb :: st) (pc + 1)) : Vh g x Q nL σ lv (va :: vb :: st) pc :=
  fun H locs ls hP hS hl => lv_dup2_11 C.1 C.2.1 hd h1 h2 (k H locs ls hP hS hl)
variable {y : MethodName} {cc' : ByteArray} {nL' n idx p c : Nat} {ret' : Option FieldType} {rm' : Room} {As stk : List Value} {σ1 : St}
theorem callVih (C : Okh g x cc own nL ret rm) {r : Int32} (hct : Cth g y cc' nL' ret' rm' (.ref (g.1 p) :: As) σ (some (.int r)) σ1) (hm : KM y cc' nL' ret' n) (hv : KV y c) (hk : kdh p = c) (hl0 : Cond.methodLink own idx y ∈ wT) (hn : As.length = n) (hstk : stk = As.reverse ++ .ref (g.1 p) :: st) (hrm : (rm'.cells = 0 ∧ rm'.slots = 0) ∧ rm'.frames + 1 ≤ rm.frames ∧ 8 + (nL' + 11) + rm'.locals ≤ rm.locals) (hW : (st.map fun v => v.category).sum ≤ 8) (hd : decode cc pc = .ok (.invokevirtual idx, 3)) (kk : Vh g x Q nL σ1 lv (.int r :: st) (pc + 3)) : Vh g x Q nL σ lv stk pc := v_callVh C hct hm hv hk hl0 hn hstk hrm hW hd kk
theorem callVlh (C : Okh g x cc own nL ret rm) {r : Int64} (hct : Cth g y cc' nL' ret' rm' (.ref (g.1 p) :: As) σ (some (.long r)) σ1) (hm : KM y cc' nL' ret' n) (hv : KV y c) (hk : kdh p = c) (hl0 : Cond.methodLink own idx y ∈ wT) (hn : As.length = n) (hstk : stk = As.reverse ++ .ref (g.1 p) :: st) (hrm : (rm'.cells = 0 ∧ rm'.slots = 0) ∧ rm'.frames + 1 ≤ rm.frames ∧ 8 + (nL' + 11) + rm'.locals ≤ rm.locals) (hW : (st.map fun v => v.category).sum ≤ 8) (hd : decode cc pc = .ok (.invokevirtual idx, 3)) (kk : Vh g x Q nL σ1 lv (.long r :: st) (pc + 3)) : Vh g x Q nL σ lv stk pc := v_callVh C hct hm hv hk hl0 hn hstk hrm hW hd kk
theorem callVvh (C : Okh g x cc own nL ret rm) (hct : Cth g y cc' nL' ret' rm' (.ref (g.1 p) :: As) σ none σ1) (hm : KM y cc' nL' ret' n) (hv : KV y c) (hk : kdh p = c) (hl0 : Cond.methodLink own idx y ∈ wT) (hn : As.length = n) (hstk : stk = As.reverse ++ .ref (g.1 p) :: st) (hrm : (rm'.cells = 0 ∧ rm'.slots = 0) ∧ rm'.frames + 1 ≤ rm.frames ∧ 8 + (nL' + 11) + rm'.locals ≤ rm.locals) (hW : (st.map fun v => v.category).sum ≤ 8) (hd : decode cc pc = .ok (.invokevirtual idx, 3)) (kk : Vh g x Q nL σ1 lv st (pc + 3)) : Vh g x Q nL σ lv stk pc := v_callVh C hct hm hv hk hl0 hn hstk hrm hW hd kk
end VX
set_option maxRecDepth 100000 in
set_option maxHeartbeats 4000000 in
theorem b_X1_pointBit_30h {g : Geo} {x : Cx} (C : Okh g x cX1_pointBit RX1 3 (some .long) rm_X1_pointBit) : ∀ (s0 : Int64) (σ : St) (r : Int64) (σ' : St), f_X1_pointBit_30 s0 σ = some (r, σ') → Vh g x (qmh g x (some (.long r)) σ') 3 σ [] [.long s0] 30 := by
  intro s0 σ r σ' h
  unfold f_X1_pointBit_30 at h
  cases h
  exact v_lreth C dX1_pointBit_30
set_option maxRecDepth 100000 in
set_option maxHeartbeats 4000000 in
theorem b_X1_pointBit_29h {g : Geo} {x : Cx} (C : Okh g x cX1_pointBit RX1 3 (some .long) rm_X1_pointBit) : ∀ (σ : St) (r : Int64) (σ' : St), f_X1_pointBit_29 σ = some (r, σ') → Vh g x (qmh g x (some (.long r)) σ') 3 σ [] [] 29 := by
  intro σ r σ' h
  unfold f_X1_pointBit_29 at h
  refine v_lconsth C (v := (0 : Int64)) dX1_pointBit_29 (by decide) ?_
  refine Vh.sub (lv' := []) [] rfl ?_
  exact b_X1_pointBit_30h C _  _ _ _ h
set_option maxRecDepth 100000 in
set_option maxHeartbeats 4000000 in
theorem c_X1_pointBith {g : Geo} {a1 : Int32} {a2 : Int32} {σ : St} {r : Int64} {σ' : St} (h : f_X1_pointBit a1 a2 σ = some (r, σ')) : Cth g yX1_pointBit cX1_pointBit 3 (some .long) rm_X1_pointBit [.ref (g.1 1), .int a1, .int a2] σ (some (.long r)) σ' := by
  refine ct_ofh (own := RX1) (by decide) rfl (Nat.le_of_ble_eq_true rfl) (fun x C => ?_) ⟨rfl, rfl⟩
  show Vh g x _ 3 σ [(0, .ref (g.1 1)), (1, .int a1), (2, .int a2)] [] 0
  unfold f_X1_pointBit at h
  refine v_iload_nh C dX1_pointBit_0 rfl 1 rfl ?_
  refine v_aload_nh C dX1_pointBit_1 rfl 0 rfl ?_
  refine v_getIh C fl_RX1_9 rfl dX1_pointBit_2 ?_
  refine v_icmp_geh C (tgt := 29) dX1_pointBit_5 (by decide) (fun q2 => ?_) (fun q2 => ?_)
  · rw [if_pos q2] at h
    refine Vh.sub (lv' := []) [] rfl ?_
    exact b_X1_pointBit_29h C  _ _ _ h
  · rw [if_neg q2] at h
    refine v_iload_nh C dX1_pointBit_8 rfl 2 rfl ?_
    refine v_aload_nh C dX1_pointBit_9 rfl 0 rfl ?_
    refine v_getIh C fl_RX1_15 rfl dX1_pointBit_10 ?_
    refine v_icmp_geh C (tgt := 29) dX1_pointBit_13 (by decide) (fun q1 => ?_) (fun q1 => ?_)
    · rw [if_pos q1] at h
      refine Vh.sub (lv' := []) [] rfl ?_
      exact b_X1_pointBit_29h C  _ _ _ h
    · rw [if_neg q1] at h
      refine v_lconsth C (v := (1 : Int64)) dX1_pointBit_16 (by decide) ?_
      refine v_iload_nh C dX1_pointBit_17 rfl 2 rfl ?_
      refine v_aload_nh C dX1_pointBit_18 rfl 0 rfl ?_
      refine v_getIh C fl_RX1_9 rfl dX1_pointBit_19 ?_
      refine v_imulh C dX1_pointBit_22 ?_
      refine v_iload_nh C dX1_pointBit_23 rfl 1 rfl ?_
      refine v_iaddh C dX1_pointBit_24 ?_
      refine v_lshlh C dX1_pointBit_25 ?_
      refine v_gotoh C (tgt := 30) dX1_pointBit_26 (by decide) ?_
      refine Vh.sub (lv' := []) [] rfl ?_
      exact b_X1_pointBit_30h C _  _ _ _ h
set_option maxRecDepth 100000 in
set_option maxHeartbeats 4000000 in
theorem c_X1_findInnerh {g : Geo} {σ : St} {r : Unit} {σ' : St} (h : f_X1_findInner σ = some (r, σ')) : Cth g yX1_findInner cX1_findInner 5 none rm_X1_findInner [.ref (g.1 1)] σ none σ' := by
  refine ct_ofh (own := RX1) (by decide) rfl (Nat.le_of_ble_eq_true rfl) (fun x C => ?_) ⟨rfl, rfl⟩
  show Vh g x _ 5 σ [(0, .ref (g.1 1))] [] 0
  unfold f_X1_findInner at h
  refine v_aload_nh C dX1_findInner_0 rfl 0 rfl ?_
  refine v_getLh C fl_RX1_31 rfl dX1_findInner_1 ?_
  refine v_aload_nh C dX1_findInner_4 rfl 0 rfl ?_
  refine v_getLh C fl_RX1_31 rfl dX1_findInner_5 ?_
  refine v_iconsth C (v := (1 : Int32)) dX1_findInner_8 (by decide) ?_
  refine v_lshlh C dX1_findInner_9 ?_
  refine v_landh C dX1_findInner_10 ?_
  refine v_aload_nh C dX1_findInner_11 rfl 0 rfl ?_
  refine v_getLh C fl_RX1_31 rfl dX1_findInner_12 ?_
  refine v_aload_nh C dX1_findInner_15 rfl 0 rfl ?_
  refine v_getIh C fl_RX1_9 rfl dX1_findInner_16 ?_
  refine v_lshlh C dX1_findInner_19 ?_
  refine v_landh C dX1_findInner_20 ?_
  refine v_lstore_nh C (lv' := [(1, .long _), (0, .ref _)]) dX1_findInner_21 rfl (by decide) rfl ?_
  refine v_aload_nh C dX1_findInner_22 rfl 1 rfl ?_
  refine v_getLh C fl_RX1_34 rfl dX1_findInner_23 ?_
  refine v_iconsth C (v := (1 : Int32)) dX1_findInner_26 (by decide) ?_
  refine v_lshlh C dX1_findInner_27 ?_
  refine v_aload_nh C dX1_findInner_28 rfl 1 rfl ?_
  refine v_getLh C fl_RX1_34 rfl dX1_findInner_29 ?_
  refine v_aload_nh C dX1_findInner_32 rfl 1 rfl ?_
  refine v_getIh C fl_RX1_9 rfl dX1_findInner_33 ?_
  refine v_lshlh C dX1_findInner_36 ?_
  refine v_landh C dX1_findInner_37 ?_
  refine v_aload_nh C dX1_findInner_38 rfl 1 rfl ?_
  refine v_getLh C fl_RX1_34 rfl dX1_findInner_39 ?_
  refine v_aload_nh C dX1_findInner_42 rfl 1 rfl ?_
  refine v_getIh C fl_RX1_9 rfl dX1_findInner_43 ?_
  refine v_iconsth C (v := (1 : Int32)) dX1_findInner_46 (by decide) ?_
  refine v_iaddh C dX1_findInner_47 ?_
  refine v_lshlh C dX1_findInner_48 ?_
  refine v_landh C dX1_findInner_49 ?_
  refine v_lstore_nh C (lv' := [(3, .long _), (1, .long _), (0, .ref _)]) dX1_findInner_50 rfl (by decide) rfl ?_
  refine v_aload_nh C dX1_findInner_51 rfl 2 rfl ?_
  refine v_lload_nh C dX1_findInner_52 rfl 1 rfl ?_
  refine v_lload_nh C dX1_findInner_53 rfl 0 rfl ?_
  refine v_landh C dX1_findInner_54 ?_
  refine v_aload_nh C dX1_findInner_55 rfl 2 rfl ?_
  refine v_getLh C fl_RX1_21 rfl dX1_findInner_56 ?_
  refine v_landh C dX1_findInner_59 ?_
  obtain ⟨σ1, eσ1, h⟩ := fL_ex h
  refine x_putLh C fl_RX1_44 fw_1_6 rfl eσ1 dX1_findInner_60 ?_
  cases h
  exact v_vreth C dX1_findInner_63
set_option maxRecDepth 100000 in
set_option maxHeartbeats 4000000 in
theorem b_X1_shape_35h {g : Geo} {x : Cx} (C : Okh g x cX1_shape RX1 5 none rm_X1_shape) (k24 : Int32 → St → Option (Unit × St)) (hk24 : ∀ (x3 : Int32) (τ : St) (r : Unit) (τ' : St), k24 x3 τ = some (r, τ') → Vh g x (qmh g x none τ') 5 τ [(0, .ref (g.1 1)), (3, .int x3)] [] 24) : ∀ (n : Nat) (x3 : Int32) (x4 : Int32) (σ : St) (r : Unit) (σ' : St), f_X1_shape_35 k24 n x3 x4 σ = some (r, σ') → Vh g x (qmh g x none σ') 5 σ [(0, .ref (g.1 1)), (3, .int x3), (4, .int x4)] [] 35 := by
  intro n
  induction n with
  | zero =>
    intro x3 x4 σ r σ' h
    rw [f_X1_shape_35] at h
    cases h
  | succ n ih =>
    intro x3 x4 σ r σ' h
    rw [f_X1_shape_35] at h
    refine v_iloadh C dX1_shape_35 2 rfl ?_
    refine v_aload_nh C dX1_shape_37 rfl 0 rfl ?_
    refine v_getIh C fl_RX1_9 rfl dX1_shape_38 ?_
    refine v_icmp_geh C (tgt := 66) dX1_shape_41 (by decide) (fun q4 => ?_) (fun q4 => ?_)
    · rw [if_pos q4] at h
      refine v_iinch C (v := (x3 + 1)) (lv' := [(3, .int _), (0, .ref _), (4, .int _)]) dX1_shape_66 1 rfl rfl (by decide) rfl ?_
      refine v_gotoh C (tgt := 24) dX1_shape_69 (by decide) ?_
      refine Vh.sub (lv' := [(0, .ref _), (3, .int _)]) [1, 0] rfl ?_
      exact hk24 _  _ _ _ h
    · rw [if_neg q4] at h
      refine v_aload_nh C dX1_shape_44 rfl 0 rfl ?_
      refine v_duph C dX1_shape_45 rfl ?_
      refine v_getLh C fl_RX1_21 rfl dX1_shape_46 ?_
      refine v_aload_nh C dX1_shape_49 rfl 0 rfl ?_
      refine v_iloadh C dX1_shape_50 2 rfl ?_
      refine v_iload_nh C dX1_shape_52 rfl 1 rfl ?_
      obtain ⟨v1, σ2, cσ2, h⟩ := bd_some h
      refine callVlh C (c_X1_pointBith cσ2) km_X1_pointBit kv_X1_pointBit rfl ml_RX1_25 rfl rfl (by decide) (Nat.le_of_ble_eq_true rfl) dX1_shape_53 ?_
      refine v_lorh C dX1_shape_56 ?_
      obtain ⟨σ3, eσ3, h⟩ := fL_ex h
      refine x_putLh C fl_RX1_21 fw_1_5 rfl eσ3 dX1_shape_57 ?_
      refine v_iinch C (v := (x4 + 1)) (lv' := [(4, .int _), (0, .ref _), (3, .int _)]) dX1_shape_60 2 rfl rfl (by decide) rfl ?_
      refine v_gotoh C (tgt := 35) dX1_shape_63 (by decide) ?_
      refine Vh.sub (lv' := [(0, .ref _), (3, .int _), (4, .int _)]) [1, 2, 0] rfl ?_
      exact ih _ _  _ _ _ h
set_option maxRecDepth 100000 in
set_option maxHeartbeats 4000000 in
theorem b_X1_shape_24h {g : Geo} {x : Cx} (C : Okh g x cX1_shape RX1 5 none rm_X1_shape) : ∀ (n : Nat) (x3 : Int32) (σ : St) (r : Unit) (σ' : St), f_X1_shape_24 n x3 σ = some (r, σ') → Vh g x (qmh g x none σ') 5 σ [(0, .ref (g.1 1)), (3, .int x3)] [] 24 := by
  intro n
  induction n with
  | zero =>
    intro x3 σ r σ' h
    rw [f_X1_shape_24] at h
    cases h
  | succ n ih =>
    intro x3 σ r σ' h
    rw [f_X1_shape_24] at h
    refine v_iload_nh C dX1_shape_24 rfl 1 rfl ?_
    refine v_aload_nh C dX1_shape_25 rfl 0 rfl ?_
    refine v_getIh C fl_RX1_15 rfl dX1_shape_26 ?_
    refine v_icmp_geh C (tgt := 72) dX1_shape_29 (by decide) (fun q5 => ?_) (fun q5 => ?_)
    · rw [if_pos q5] at h
      refine v_aload_nh C dX1_shape_72 rfl 0 rfl ?_
      refine v_ldc2_wh C (v := (-1 : Int64)) conl_RX1_29 dX1_shape_73 ?_
      refine v_bipushh C (v := (64 : Int32)) dX1_shape_76 (by decide) ?_
      refine v_aload_nh C dX1_shape_78 rfl 0 rfl ?_
      refine v_getIh C fl_RX1_18 rfl dX1_shape_79 ?_
      refine v_isubh C dX1_shape_82 ?_
      refine v_lushrh C dX1_shape_83 ?_
      obtain ⟨σ1, eσ1, h⟩ := fL_ex h
      refine x_putLh C fl_RX1_31 fw_1_3 rfl eσ1 dX1_shape_84 ?_
      refine v_aload_nh C dX1_shape_87 rfl 0 rfl ?_
      refine v_aload_nh C dX1_shape_88 rfl 0 rfl ?_
      refine v_getLh C fl_RX1_31 rfl dX1_shape_89 ?_
      obtain ⟨σ2, eσ2, h⟩ := fL_ex h
      refine x_putLh C fl_RX1_34 fw_1_4 rfl eσ2 dX1_shape_92 ?_
      refine v_aload_nh C dX1_shape_95 rfl 0 rfl ?_
      obtain ⟨v3, σ4, cσ4, h⟩ := bd_some h
      refine callVvh C (c_X1_findInnerh cσ4) km_X1_findInner kv_X1_findInner rfl ml_RX1_37 rfl rfl (by decide) (Nat.le_of_ble_eq_true rfl) dX1_shape_96 ?_
      cases h
      exact v_vreth C dX1_shape_99
    · rw [if_neg q5] at h
      refine v_iconsth C (v := (1 : Int32)) dX1_shape_32 (by decide) ?_
      refine v_istoreh C (lv' := [(4, .int _), (0, .ref _), (3, .int _)]) dX1_shape_33 (by decide) rfl ?_
      refine Vh.sub (lv' := [(0, .ref _), (3, .int _), (4, .int _)]) [1, 2, 0] rfl ?_
      exact b_X1_shape_35h C _ ih FU _ _  _ _ _ h
set_option maxRecDepth 100000 in
set_option maxHeartbeats 4000000 in
theorem c_X1_shapeh {g : Geo} {a1 : Int32} {a2 : Int32} {σ : St} {r : Unit} {σ' : St} (h : f_X1_shape a1 a2 σ = some (r, σ')) : Cth g yX1_shape cX1_shape 5 none rm_X1_shape [.ref (g.1 1), .int a1, .int a2] σ none σ' := by
  refine ct_ofh (own := RX1) (by decide) rfl (Nat.le_of_ble_eq_true rfl) (fun x C => ?_) ⟨rfl, rfl⟩
  show Vh g x _ 5 σ [(0, .ref (g.1 1)), (1, .int a1), (2, .int a2)] [] 0
  unfold f_X1_shape at h
  refine v_aload_nh C dX1_shape_0 rfl 0 rfl ?_
  refine v_iload_nh C dX1_shape_1 rfl 1 rfl ?_
  obtain ⟨σ1, eσ1, h⟩ := fI_ex h
  refine x_putIh C fl_RX1_9 fw_1_0 rfl eσ1 dX1_shape_2 ?_
  refine v_aload_nh C dX1_shape_5 rfl 0 rfl ?_
  refine v_iload_nh C dX1_shape_6 rfl 2 rfl ?_
  obtain ⟨σ2, eσ2, h⟩ := fI_ex h
  refine x_putIh C fl_RX1_15 fw_1_1 rfl eσ2 dX1_shape_7 ?_
  refine v_aload_nh C dX1_shape_10 rfl 0 rfl ?_
  refine v_iload_nh C dX1_shape_11 rfl 1 rfl ?_
  refine v_iload_nh C dX1_shape_12 rfl 2 rfl ?_
  refine v_imulh C dX1_shape_13 ?_
  obtain ⟨σ3, eσ3, h⟩ := fI_ex h
  refine x_putIh C fl_RX1_18 fw_1_2 rfl eσ3 dX1_shape_14 ?_
  refine v_aload_nh C dX1_shape_17 rfl 0 rfl ?_
  refine v_lconsth C (v := (0 : Int64)) dX1_shape_18 (by decide) ?_
  obtain ⟨σ4, eσ4, h⟩ := fL_ex h
  refine x_putLh C fl_RX1_21 fw_1_5 rfl eσ4 dX1_shape_19 ?_
  refine v_iconsth C (v := (0 : Int32)) dX1_shape_22 (by decide) ?_
  refine v_istore_nh C (lv' := [(3, .int _), (0, .ref _), (1, .int _), (2, .int _)]) dX1_shape_23 rfl (by decide) rfl ?_
  refine Vh.sub (lv' := [(0, .ref _), (3, .int _)]) [1, 0] rfl ?_
  exact b_X1_shape_24h C FU _  _ _ _ h
