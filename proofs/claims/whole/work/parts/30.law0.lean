def R_law : String := "LozengeGroundsLaw"
def lw_P (b : Addr) (xs : List Int32) (args : Array Value) (s : State) : Prop := args = #[.ref b] ∧ s.IntsAt b xs ∧ xs.length ≤ 2048 ∧ (Jvm.Cond.and given_1 narrow_1).before args s = true
def lw_Q (_ : Array Value) (s : State) (o : Outcome) (t : State) : Prop := o = .returned (some (.int 1)) ∧ Framed s o t [] 600000 7302250
def lw_Z (below : List Frame) (a : Array Value) (s : State) : State → Prop := fun t => ∃ o, t.status = .running ∧ Ended t below o ∧ lw_Q a s o t
/-- the law's own end, with 1 on the stack, nothing written that was there before, its room as the claim has it -/
theorem lw_ret {p : Program} {l : Launch} {e : Env} {s : State} {m : MethodId} {below : List Frame} {meth : Method} {c : Code} {b : Nat} (hx : p.tables.exec = Jvm.exec) (hb : c.code = code) (hr : meth.sig.returnType = ret) (hlocks : meth.locks = false) {pc : Nat} {H : Heap} {ls : Array Slot} (hdg : decode code pc = .ok (.ireturn, 1)) : W p l e room_1 s m #[Value.ref b] below meth c H [] 600000 7302250 (lw_Z below #[Value.ref b] s) (F0 m pc ls [.int 1]) := by
  intro T hT X
  obtain ⟨fs, hret, hrun, hended, hW, hframe⟩ := X.leave (v := some (.int 1)) (hlocks := hlocks) (fun h => by rw [hr] at h; cases h)
  have hmeth' : T.vm.method? m = some meth := X.method'
  refine ⟨T.setFrames fs, ?_, .returned (some (.int 1)), hrun, hended, rfl, ⟨_, rfl⟩, hW, hframe⟩
  jvm_step X.here [X.here.top, hx, hb, hdg, hmeth', hr, ret, narrow_b1]
  (try refine ⟨rfl, ?_⟩); (try refine ⟨rfl, ?_⟩)
  first | (intro acts; rw [hret _ acts rfl rfl rfl]) | rw [hret _ _ rfl rfl rfl]
  exact Steps.refl _
/-- what holds at the law's entry: the machine, the code, the tables' words (any of lw_tbl by 'hts w (by decide +kernel)'), the script of L ints xs at the cell b, what the Statement gives of the start (any of its parts by flat_of_before) -/
def lw_At (p : Program) (s : State) (m : MethodId) (meth : Method) (c : Code) (b L : Nat) (xs : Nat → Int32) : Prop :=
  p.tables.exec = Jvm.exec ∧ c.code = code ∧ meth.sig.returnType = ret ∧ c.maxLocals = 4 ∧ s.vm.findClass R_law = some m.cls ∧ (∀ w ∈ lw_tbl, w.before #[Value.ref b] s = true) ∧ va_X b L xs s s.heap ∧ b < s.heap.size ∧ meth.locks = false ∧ (Jvm.Cond.and given_1 narrow_1).before #[Value.ref b] s = true
/-! ===== the law: script reads, the switch, its end ===== -/
def rdS {α : Type} (xs : Nat → Int32) (L : Nat) (i : Int32) (k : Int32 → Option α) : Option α := if i < 0 ∨ L ≤ i.toNatClampNeg then none else k (xs i.toNatClampNeg)
theorem rdS_ex {α : Type} {xs : Nat → Int32} {L : Nat} {i : Int32} {k : Int32 → Option α} {z : α} (h : rdS xs L i k = some z) : vp_in i L ∧ ∃ v, v = xs i.toNatClampNeg ∧ k v = some z := by
  unfold rdS at h
  split at h
  · cases h
  · exact ⟨by assumption, _, rfl, h⟩
def swt {α : Type} (v : Int32) (k : Nat → Option α) : Option α := k v.toNatClampNeg
def Sc (g : Geo) (x : Cx) (b L : Nat) (xs : Nat → Int32) : Prop := va_X b L xs (Cx.s x) (Cx.s x).heap ∧ b < (Cx.s x).heap.size ∧ (∀ q, Aof g q → (Cx.s x).heap.size ≤ q) ∧ Cx.args x = #[Value.ref b]
section VLAW
variable {g : Geo} {x : Cx} {Q : State → Prop} {nL : Nat} {σ τ : St} {lv : List (Nat × Value)} {st : List Value} {pc : Nat} {cc : ByteArray} {own : String} {rt : Option FieldType} {rm : Room} {b L : Nat} {xs : Nat → Int32}
theorem x_sld (C : Ok g x cc own nL rt rm) (S : Sc g x b L xs) {i v : Int32} (hin : vp_in i L) (e : v = xs i.toNatClampNeg) (hd : decode cc pc = .ok (.iaload, 1)) (kk : V g x Q nL σ lv (.int v :: st) (pc + 1)) : V g x Q nL σ lv (.int i :: .ref b :: st) pc := by
  intro H locs ls hP hS hl
  subst e
  exact va_sld C.1 C.2.1 S.1 S.2.1 (fun z => Nat.not_le.mpr S.2.1 (S.2.2.1 b z)) hS hin hd (kk H locs ls hP hS hl)
theorem v_slen (C : Ok g x cc own nL rt rm) (S : Sc g x b L xs) (hd : decode cc pc = .ok (.arraylength, 1)) (kk : V g x Q nL σ lv (.int (Int32.ofNat L) :: st) (pc + 1)) : V g x Q nL σ lv (.ref b :: st) pc := by
  intro H locs ls hP hS hl
  exact va_slen C.1 C.2.1 S.1 S.2.1 (fun z => Nat.not_le.mpr S.2.1 (S.2.2.1 b z)) hS hd (kk H locs ls hP hS hl)
theorem v_table (C : Ok g x cc own nL rt rm) {dflt lo hi : Int} {offs : Array Int} {len : Nat} {a : Int32} {off : Int} {tgt : Nat} (hd : decode cc pc = .ok (.tableswitch dflt lo hi offs, len)) (h1 : ¬ a.toInt < lo) (h2 : ¬ hi < a.toInt) (ho : offs[(a.toInt - lo).toNat]? = some off) (ht : (pc : Int) + off = (tgt : Int)) (k : V g x Q nL σ lv st tgt) : V g x Q nL σ lv (.int a :: st) pc :=
  fun H locs ls hP hS hl => lv_tableIn C.1 C.2.1 hd h1 h2 ho ht (k H locs ls hP hS hl)
theorem v_lawret (C : Ok g x cL_law RL nL ret room_1) (S : Sc g x b L xs) (hd : decode cL_law pc = .ok (.ireturn, 1)) : V g x (lw_Z (Cx.below x) #[Value.ref b] (Cx.s x)) nL σ lv [.int 1] pc := by
  intro H locs ls hP hS hl
  obtain ⟨hx, hb, hml, hown, hts, hK, hi, hs, hlk, hrt, hR, hc1, hc2⟩ := C
  obtain ⟨s1, s2, s3, s4⟩ := S
  refine va_forget (fun q hq => s3 _ (hS.2.2 q hq)) ?_
  refine W.widen (k := 600000) (n := 7302250) hc1 hc2 ?_
  have key := lw_ret (p := Cx.p x) (l := Cx.l x) (e := Cx.e x) (s := Cx.s x) (m := Cx.m x) (below := Cx.below x) (meth := Cx.meth x) (c := Cx.c x) (b := b) hx hb hrt hlk (H := H) (ls := ls) hd
  rw [← hR, ← s4] at key
  rw [s4] at key ⊢
  exact key
end VLAW
set_option maxRecDepth 100000 in
theorem conl_RL_78 : Cond.constantLong RL 78 (4294967295) ∈ wT := wT_of ⟨List.mem_of_getElem? (i := 1021) (by decide +kernel), by decide +kernel⟩
set_option maxRecDepth 100000 in
theorem ml_RL_101 : Cond.methodLink RL 101 yX6_kind ∈ wT := wT_of ⟨List.mem_of_getElem? (i := 885) (by decide +kernel), by decide +kernel⟩
set_option maxRecDepth 100000 in
theorem ml_RL_102 : Cond.methodLink RL 102 yX5_count ∈ wT := wT_of ⟨List.mem_of_getElem? (i := 494) (by decide +kernel), by decide +kernel⟩
set_option maxRecDepth 100000 in
theorem ml_RL_105 : Cond.methodLink RL 105 yX6_count_ ∈ wT := wT_of ⟨List.mem_of_getElem? (i := 889) (by decide +kernel), by decide +kernel⟩
set_option maxRecDepth 100000 in
theorem ml_RL_106 : Cond.methodLink RL 106 yX5_weighs ∈ wT := wT_of ⟨List.mem_of_getElem? (i := 502) (by decide +kernel), by decide +kernel⟩
set_option maxRecDepth 100000 in
theorem ml_RL_109 : Cond.methodLink RL 109 yX6_weighs ∈ wT := wT_of ⟨List.mem_of_getElem? (i := 893) (by decide +kernel), by decide +kernel⟩
set_option maxRecDepth 100000 in
theorem ml_RL_110 : Cond.methodLink RL 110 yX5_point ∈ wT := wT_of ⟨List.mem_of_getElem? (i := 506) (by decide +kernel), by decide +kernel⟩
set_option maxRecDepth 100000 in
theorem ml_RL_113 : Cond.methodLink RL 113 yX6_point ∈ wT := wT_of ⟨List.mem_of_getElem? (i := 897) (by decide +kernel), by decide +kernel⟩
set_option maxRecDepth 100000 in
theorem ml_RL_114 : Cond.methodLink RL 114 yX5_free ∈ wT := wT_of ⟨List.mem_of_getElem? (i := 523) (by decide +kernel), by decide +kernel⟩
set_option maxRecDepth 100000 in
theorem ml_RL_117 : Cond.methodLink RL 117 yX6_free ∈ wT := wT_of ⟨List.mem_of_getElem? (i := 917) (by decide +kernel), by decide +kernel⟩
set_option maxRecDepth 100000 in
theorem ml_RL_118 : Cond.methodLink RL 118 yX5_turn ∈ wT := wT_of ⟨List.mem_of_getElem? (i := 527) (by decide +kernel), by decide +kernel⟩
set_option maxRecDepth 100000 in
theorem ml_RL_121 : Cond.methodLink RL 121 yX6_turn ∈ wT := wT_of ⟨List.mem_of_getElem? (i := 921) (by decide +kernel), by decide +kernel⟩
set_option maxRecDepth 100000 in
theorem ml_RL_122 : Cond.methodLink RL 122 yX5_apart ∈ wT := wT_of ⟨List.mem_of_getElem? (i := 535) (by decide +kernel), by decide +kernel⟩
set_option maxRecDepth 100000 in
theorem ml_RL_125 : Cond.methodLink RL 125 yX6_apart ∈ wT := wT_of ⟨List.mem_of_getElem? (i := 929) (by decide +kernel), by decide +kernel⟩
set_option maxRecDepth 100000 in
theorem ml_RL_126 : Cond.methodLink RL 126 yX5_end ∈ wT := wT_of ⟨List.mem_of_getElem? (i := 558) (by decide +kernel), by decide +kernel⟩
set_option maxRecDepth 100000 in
theorem ml_RL_129 : Cond.methodLink RL 129 yX6_end ∈ wT := wT_of ⟨List.mem_of_getElem? (i := 949) (by decide +kernel), by decide +kernel⟩
set_option maxRecDepth 100000 in
theorem ml_RL_13 : Cond.methodLink RL 13 yX5_ground ∈ wT := wT_of ⟨List.mem_of_getElem? (i := 253) (by decide +kernel), by decide +kernel⟩
set_option maxRecDepth 100000 in
theorem ml_RL_130 : Cond.methodLink RL 130 yX5_reach ∈ wT := wT_of ⟨List.mem_of_getElem? (i := 568) (by decide +kernel), by decide +kernel⟩
set_option maxRecDepth 100000 in
theorem ml_RL_133 : Cond.methodLink RL 133 yX6_reach ∈ wT := wT_of ⟨List.mem_of_getElem? (i := 953) (by decide +kernel), by decide +kernel⟩
set_option maxRecDepth 100000 in
theorem ml_RL_134 : Cond.methodLink RL 134 yX5_mirror ∈ wT := wT_of ⟨List.mem_of_getElem? (i := 586) (by decide +kernel), by decide +kernel⟩
set_option maxRecDepth 100000 in
theorem ml_RL_137 : Cond.methodLink RL 137 yX6_mirror ∈ wT := wT_of ⟨List.mem_of_getElem? (i := 977) (by decide +kernel), by decide +kernel⟩
set_option maxRecDepth 100000 in
theorem ml_RL_138 : Cond.methodLink RL 138 yX5_most ∈ wT := wT_of ⟨List.mem_of_getElem? (i := 603) (by decide +kernel), by decide +kernel⟩
set_option maxRecDepth 100000 in
theorem ml_RL_141 : Cond.methodLink RL 141 yX6_most ∈ wT := wT_of ⟨List.mem_of_getElem? (i := 981) (by decide +kernel), by decide +kernel⟩
set_option maxRecDepth 100000 in
theorem ml_RL_142 : Cond.methodLink RL 142 yX5_lack ∈ wT := wT_of ⟨List.mem_of_getElem? (i := 645) (by decide +kernel), by decide +kernel⟩
set_option maxRecDepth 100000 in
theorem ml_RL_145 : Cond.methodLink RL 145 yX6_lack ∈ wT := wT_of ⟨List.mem_of_getElem? (i := 1005) (by decide +kernel), by decide +kernel⟩
set_option maxRecDepth 100000 in
theorem ml_RL_146 : Cond.methodLink RL 146 yX5_bar ∈ wT := wT_of ⟨List.mem_of_getElem? (i := 649) (by decide +kernel), by decide +kernel⟩
set_option maxRecDepth 100000 in
theorem ml_RL_149 : Cond.methodLink RL 149 yX6_bar ∈ wT := wT_of ⟨List.mem_of_getElem? (i := 1009) (by decide +kernel), by decide +kernel⟩
set_option maxRecDepth 100000 in
theorem ml_RL_150 : Cond.methodLink RL 150 yX5_barred ∈ wT := wT_of ⟨List.mem_of_getElem? (i := 653) (by decide +kernel), by decide +kernel⟩
set_option maxRecDepth 100000 in
theorem ml_RL_153 : Cond.methodLink RL 153 yX6_barred ∈ wT := wT_of ⟨List.mem_of_getElem? (i := 1017) (by decide +kernel), by decide +kernel⟩
set_option maxRecDepth 100000 in
theorem ml_RL_17 : Cond.methodLink RL 17 yX6_ground ∈ wT := wT_of ⟨List.mem_of_getElem? (i := 736) (by decide +kernel), by decide +kernel⟩
set_option maxRecDepth 100000 in
theorem ml_RL_18 : Cond.methodLink RL 18 yX5_hexagon ∈ wT := wT_of ⟨List.mem_of_getElem? (i := 278) (by decide +kernel), by decide +kernel⟩
set_option maxRecDepth 100000 in
theorem ml_RL_22 : Cond.methodLink RL 22 yX6_hexagon ∈ wT := wT_of ⟨List.mem_of_getElem? (i := 745) (by decide +kernel), by decide +kernel⟩
set_option maxRecDepth 100000 in
theorem ml_RL_23 : Cond.methodLink RL 23 yX5_set ∈ wT := wT_of ⟨List.mem_of_getElem? (i := 296) (by decide +kernel), by decide +kernel⟩
set_option maxRecDepth 100000 in
theorem ml_RL_27 : Cond.methodLink RL 27 yX6_set ∈ wT := wT_of ⟨List.mem_of_getElem? (i := 757) (by decide +kernel), by decide +kernel⟩
set_option maxRecDepth 100000 in
theorem ml_RL_28 : Cond.methodLink RL 28 yX5_isIn ∈ wT := wT_of ⟨List.mem_of_getElem? (i := 313) (by decide +kernel), by decide +kernel⟩
set_option maxRecDepth 100000 in
theorem ml_RL_32 : Cond.methodLink RL 32 yX6_isIn ∈ wT := wT_of ⟨List.mem_of_getElem? (i := 762) (by decide +kernel), by decide +kernel⟩
set_option maxRecDepth 100000 in
theorem ml_RL_33 : Cond.methodLink RL 33 yX5_ups ∈ wT := wT_of ⟨List.mem_of_getElem? (i := 317) (by decide +kernel), by decide +kernel⟩
set_option maxRecDepth 100000 in
theorem ml_RL_37 : Cond.methodLink RL 37 yX6_ups ∈ wT := wT_of ⟨List.mem_of_getElem? (i := 766) (by decide +kernel), by decide +kernel⟩
set_option maxRecDepth 100000 in
theorem ml_RL_38 : Cond.methodLink RL 38 yX5_size ∈ wT := wT_of ⟨List.mem_of_getElem? (i := 321) (by decide +kernel), by decide +kernel⟩
set_option maxRecDepth 100000 in
theorem ml_RL_41 : Cond.methodLink RL 41 yX6_size ∈ wT := wT_of ⟨List.mem_of_getElem? (i := 774) (by decide +kernel), by decide +kernel⟩
set_option maxRecDepth 100000 in
theorem ml_RL_42 : Cond.methodLink RL 42 yX5_product ∈ wT := wT_of ⟨List.mem_of_getElem? (i := 325) (by decide +kernel), by decide +kernel⟩
set_option maxRecDepth 100000 in
theorem ml_RL_46 : Cond.methodLink RL 46 yX6_product ∈ wT := wT_of ⟨List.mem_of_getElem? (i := 778) (by decide +kernel), by decide +kernel⟩
set_option maxRecDepth 100000 in
theorem ml_RL_47 : Cond.methodLink RL 47 yX5_layings ∈ wT := wT_of ⟨List.mem_of_getElem? (i := 338) (by decide +kernel), by decide +kernel⟩
set_option maxRecDepth 100000 in
theorem ml_RL_51 : Cond.methodLink RL 51 yX6_layings ∈ wT := wT_of ⟨List.mem_of_getElem? (i := 786) (by decide +kernel), by decide +kernel⟩
set_option maxRecDepth 100000 in
theorem ml_RL_52 : Cond.methodLink RL 52 yX5_with ∈ wT := wT_of ⟨List.mem_of_getElem? (i := 370) (by decide +kernel), by decide +kernel⟩
set_option maxRecDepth 100000 in
theorem ml_RL_56 : Cond.methodLink RL 56 yX6_with ∈ wT := wT_of ⟨List.mem_of_getElem? (i := 807) (by decide +kernel), by decide +kernel⟩
set_option maxRecDepth 100000 in
theorem ml_RL_57 : Cond.methodLink RL 57 yX5_kinds ∈ wT := wT_of ⟨List.mem_of_getElem? (i := 386) (by decide +kernel), by decide +kernel⟩
set_option maxRecDepth 100000 in
theorem ml_RL_60 : Cond.methodLink RL 60 yX6_kinds ∈ wT := wT_of ⟨List.mem_of_getElem? (i := 825) (by decide +kernel), by decide +kernel⟩
set_option maxRecDepth 100000 in
theorem ml_RL_61 : Cond.methodLink RL 61 yX5_forced ∈ wT := wT_of ⟨List.mem_of_getElem? (i := 395) (by decide +kernel), by decide +kernel⟩
set_option maxRecDepth 100000 in
theorem ml_RL_65 : Cond.methodLink RL 65 yX6_forced ∈ wT := wT_of ⟨List.mem_of_getElem? (i := 833) (by decide +kernel), by decide +kernel⟩
set_option maxRecDepth 100000 in
theorem ml_RL_66 : Cond.methodLink RL 66 yX5_span ∈ wT := wT_of ⟨List.mem_of_getElem? (i := 405) (by decide +kernel), by decide +kernel⟩
set_option maxRecDepth 100000 in
theorem ml_RL_69 : Cond.methodLink RL 69 yX6_span ∈ wT := wT_of ⟨List.mem_of_getElem? (i := 837) (by decide +kernel), by decide +kernel⟩
set_option maxRecDepth 100000 in
theorem ml_RL_70 : Cond.methodLink RL 70 yX5_weight ∈ wT := wT_of ⟨List.mem_of_getElem? (i := 422) (by decide +kernel), by decide +kernel⟩
set_option maxRecDepth 100000 in
theorem ml_RL_73 : Cond.methodLink RL 73 yX6_weight ∈ wT := wT_of ⟨List.mem_of_getElem? (i := 849) (by decide +kernel), by decide +kernel⟩
set_option maxRecDepth 100000 in
theorem ml_RL_74 : Cond.methodLink RL 74 yX5_dearest ∈ wT := wT_of ⟨List.mem_of_getElem? (i := 426) (by decide +kernel), by decide +kernel⟩
set_option maxRecDepth 100000 in
theorem ml_RL_77 : Cond.methodLink RL 77 yX6_dearest ∈ wT := wT_of ⟨List.mem_of_getElem? (i := 855) (by decide +kernel), by decide +kernel⟩
set_option maxRecDepth 100000 in
theorem ml_RL_80 : Cond.methodLink RL 80 yX5_lay ∈ wT := wT_of ⟨List.mem_of_getElem? (i := 430) (by decide +kernel), by decide +kernel⟩
set_option maxRecDepth 100000 in
theorem ml_RL_84 : Cond.methodLink RL 84 yX6_lay ∈ wT := wT_of ⟨List.mem_of_getElem? (i := 859) (by decide +kernel), by decide +kernel⟩
set_option maxRecDepth 100000 in
theorem ml_RL_85 : Cond.methodLink RL 85 yX5_layDearest ∈ wT := wT_of ⟨List.mem_of_getElem? (i := 455) (by decide +kernel), by decide +kernel⟩
set_option maxRecDepth 100000 in
theorem ml_RL_88 : Cond.methodLink RL 88 yX6_layDearest ∈ wT := wT_of ⟨List.mem_of_getElem? (i := 867) (by decide +kernel), by decide +kernel⟩
set_option maxRecDepth 100000 in
theorem ml_RL_89 : Cond.methodLink RL 89 yX5_copy ∈ wT := wT_of ⟨List.mem_of_getElem? (i := 468) (by decide +kernel), by decide +kernel⟩
set_option maxRecDepth 100000 in
theorem ml_RL_92 : Cond.methodLink RL 92 yX6_copy ∈ wT := wT_of ⟨List.mem_of_getElem? (i := 876) (by decide +kernel), by decide +kernel⟩
set_option maxRecDepth 100000 in
theorem ml_RL_93 : Cond.methodLink RL 93 yX5_place ∈ wT := wT_of ⟨List.mem_of_getElem? (i := 476) (by decide +kernel), by decide +kernel⟩
set_option maxRecDepth 100000 in
theorem ml_RL_97 : Cond.methodLink RL 97 yX6_place ∈ wT := wT_of ⟨List.mem_of_getElem? (i := 880) (by decide +kernel), by decide +kernel⟩
set_option maxRecDepth 100000 in
theorem ml_RL_98 : Cond.methodLink RL 98 yX5_kind ∈ wT := wT_of ⟨List.mem_of_getElem? (i := 489) (by decide +kernel), by decide +kernel⟩
