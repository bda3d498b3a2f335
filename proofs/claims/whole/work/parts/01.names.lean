-- ===== PART A: goes FIRST, ahead of the names: the tables' words, and 'selects' of the private methods out of them =====
/-- a private method of a class that the tables say can be made, by its rows of tables_1 -/
def lw_okq (q : MethodName × Nat) : Prop := (q.1.cls ≠ "java/lang/invoke/MethodHandle" ∧ q.1.cls ≠ "java/lang/invoke/VarHandle") ∧ Cond.instantiable q.1.cls q.2 ∈ tables_1 ∧ Cond.privateMethod q.1 ∈ tables_1 ∧ Cond.instanceMethod q.1 ∈ tables_1
theorem lw_p0 : lw_okq (⟨"LozengeGrounds", "forgetWeights", "()V"⟩, 10) := ⟨⟨by decide +kernel, by decide +kernel⟩, List.mem_of_getElem? (i := 13) (by decide +kernel), List.mem_of_getElem? (i := 221) (by decide +kernel), List.mem_of_getElem? (i := 222) (by decide +kernel)⟩
theorem lw_p1 : lw_okq (⟨"LozengeGrounds", "forgetGround", "()V"⟩, 10) := ⟨⟨by decide +kernel, by decide +kernel⟩, List.mem_of_getElem? (i := 13) (by decide +kernel), List.mem_of_getElem? (i := 228) (by decide +kernel), List.mem_of_getElem? (i := 229) (by decide +kernel)⟩
theorem lw_p2 : lw_okq (⟨"LozengeGrounds", "makeSteps", "()V"⟩, 10) := ⟨⟨by decide +kernel, by decide +kernel⟩, List.mem_of_getElem? (i := 13) (by decide +kernel), List.mem_of_getElem? (i := 305) (by decide +kernel), List.mem_of_getElem? (i := 306) (by decide +kernel)⟩
theorem lw_p3 : lw_okq (⟨"LozengeGrounds", "makeJoining", "()V"⟩, 10) := ⟨⟨by decide +kernel, by decide +kernel⟩, List.mem_of_getElem? (i := 13) (by decide +kernel), List.mem_of_getElem? (i := 570) (by decide +kernel), List.mem_of_getElem? (i := 571) (by decide +kernel)⟩
theorem lw_p4 : lw_okq (⟨"LozengeGroundsModel", "layGround", "(II)V"⟩, 21) := ⟨⟨by decide +kernel, by decide +kernel⟩, List.mem_of_getElem? (i := 620) (by decide +kernel), List.mem_of_getElem? (i := 626) (by decide +kernel), List.mem_of_getElem? (i := 627) (by decide +kernel)⟩
theorem lw_p5 : lw_okq (⟨"LozengeGroundsModel", "empty", "()V"⟩, 21) := ⟨⟨by decide +kernel, by decide +kernel⟩, List.mem_of_getElem? (i := 620) (by decide +kernel), List.mem_of_getElem? (i := 630) (by decide +kernel), List.mem_of_getElem? (i := 631) (by decide +kernel)⟩
theorem lw_p6 : lw_okq (⟨"LozengeGroundsModel", "cells", "()I"⟩, 21) := ⟨⟨by decide +kernel, by decide +kernel⟩, List.mem_of_getElem? (i := 620) (by decide +kernel), List.mem_of_getElem? (i := 716) (by decide +kernel), List.mem_of_getElem? (i := 717) (by decide +kernel)⟩
theorem lw_p7 : lw_okq (⟨"LozengeGroundsModel", "count", "(Z)I"⟩, 21) := ⟨⟨by decide +kernel, by decide +kernel⟩, List.mem_of_getElem? (i := 620) (by decide +kernel), List.mem_of_getElem? (i := 733) (by decide +kernel), List.mem_of_getElem? (i := 734) (by decide +kernel)⟩
theorem lw_p8 : lw_okq (⟨"LozengeGroundsModel", "layWays", "()V"⟩, 21) := ⟨⟨by decide +kernel, by decide +kernel⟩, List.mem_of_getElem? (i := 620) (by decide +kernel), List.mem_of_getElem? (i := 753) (by decide +kernel), List.mem_of_getElem? (i := 754) (by decide +kernel)⟩
theorem lw_p9 : lw_okq (⟨"LozengeGroundsModel", "then", "(III)I"⟩, 21) := ⟨⟨by decide +kernel, by decide +kernel⟩, List.mem_of_getElem? (i := 620) (by decide +kernel), List.mem_of_getElem? (i := 757) (by decide +kernel), List.mem_of_getElem? (i := 758) (by decide +kernel)⟩
theorem lw_p10 : lw_okq (⟨"LozengeGroundsModel", "isUp", "(I)Z"⟩, 21) := ⟨⟨by decide +kernel, by decide +kernel⟩, List.mem_of_getElem? (i := 620) (by decide +kernel), List.mem_of_getElem? (i := 761) (by decide +kernel), List.mem_of_getElem? (i := 762) (by decide +kernel)⟩
theorem lw_p11 : lw_okq (⟨"LozengeGroundsModel", "isDown", "(I)Z"⟩, 21) := ⟨⟨by decide +kernel, by decide +kernel⟩, List.mem_of_getElem? (i := 620) (by decide +kernel), List.mem_of_getElem? (i := 766) (by decide +kernel), List.mem_of_getElem? (i := 767) (by decide +kernel)⟩
theorem lw_p12 : lw_okq (⟨"LozengeGroundsModel", "isCell", "(I)Z"⟩, 21) := ⟨⟨by decide +kernel, by decide +kernel⟩, List.mem_of_getElem? (i := 620) (by decide +kernel), List.mem_of_getElem? (i := 774) (by decide +kernel), List.mem_of_getElem? (i := 775) (by decide +kernel)⟩
theorem lw_p13 : lw_okq (⟨"LozengeGroundsModel", "layCome", "()V"⟩, 21) := ⟨⟨by decide +kernel, by decide +kernel⟩, List.mem_of_getElem? (i := 620) (by decide +kernel), List.mem_of_getElem? (i := 780) (by decide +kernel), List.mem_of_getElem? (i := 781) (by decide +kernel)⟩
theorem lw_p14 : lw_okq (⟨"LozengeGroundsModel", "withKind", "(II)J"⟩, 21) := ⟨⟨by decide +kernel, by decide +kernel⟩, List.mem_of_getElem? (i := 620) (by decide +kernel), List.mem_of_getElem? (i := 784) (by decide +kernel), List.mem_of_getElem? (i := 785) (by decide +kernel)⟩
theorem lw_p15 : lw_okq (⟨"LozengeGroundsModel", "kindsOf", "(I)I"⟩, 21) := ⟨⟨by decide +kernel, by decide +kernel⟩, List.mem_of_getElem? (i := 620) (by decide +kernel), List.mem_of_getElem? (i := 792) (by decide +kernel), List.mem_of_getElem? (i := 793) (by decide +kernel)⟩
def lw_privs_1 : List (MethodName × Nat) := [(⟨"LozengeGrounds", "forgetWeights", "()V"⟩, 10), (⟨"LozengeGrounds", "forgetGround", "()V"⟩, 10), (⟨"LozengeGrounds", "makeSteps", "()V"⟩, 10), (⟨"LozengeGrounds", "makeJoining", "()V"⟩, 10), (⟨"LozengeGroundsModel", "layGround", "(II)V"⟩, 21), (⟨"LozengeGroundsModel", "empty", "()V"⟩, 21), (⟨"LozengeGroundsModel", "cells", "()I"⟩, 21), (⟨"LozengeGroundsModel", "count", "(Z)I"⟩, 21), (⟨"LozengeGroundsModel", "layWays", "()V"⟩, 21), (⟨"LozengeGroundsModel", "then", "(III)I"⟩, 21), (⟨"LozengeGroundsModel", "isUp", "(I)Z"⟩, 21), (⟨"LozengeGroundsModel", "isDown", "(I)Z"⟩, 21), (⟨"LozengeGroundsModel", "isCell", "(I)Z"⟩, 21), (⟨"LozengeGroundsModel", "layCome", "()V"⟩, 21), (⟨"LozengeGroundsModel", "withKind", "(II)J"⟩, 21), (⟨"LozengeGroundsModel", "kindsOf", "(I)I"⟩, 21)]
theorem lw_r1 : ∀ q ∈ lw_privs_1, lw_okq q := List.forall_mem_cons.mpr ⟨lw_p0, List.forall_mem_cons.mpr ⟨lw_p1, List.forall_mem_cons.mpr ⟨lw_p2, List.forall_mem_cons.mpr ⟨lw_p3, List.forall_mem_cons.mpr ⟨lw_p4, List.forall_mem_cons.mpr ⟨lw_p5, List.forall_mem_cons.mpr ⟨lw_p6, List.forall_mem_cons.mpr ⟨lw_p7, List.forall_mem_cons.mpr ⟨lw_p8, List.forall_mem_cons.mpr ⟨lw_p9, List.forall_mem_cons.mpr ⟨lw_p10, List.forall_mem_cons.mpr ⟨lw_p11, List.forall_mem_cons.mpr ⟨lw_p12, List.forall_mem_cons.mpr ⟨lw_p13, List.forall_mem_cons.mpr ⟨lw_p14, List.forall_mem_cons.mpr ⟨lw_p15, fun _ h => absurd h List.not_mem_nil⟩⟩⟩⟩⟩⟩⟩⟩⟩⟩⟩⟩⟩⟩⟩⟩
theorem lw_p16 : lw_okq (⟨"LozengeGroundsModel", "layBest", "(IZ)V"⟩, 21) := ⟨⟨by decide +kernel, by decide +kernel⟩, List.mem_of_getElem? (i := 620) (by decide +kernel), List.mem_of_getElem? (i := 804) (by decide +kernel), List.mem_of_getElem? (i := 805) (by decide +kernel)⟩
theorem lw_p17 : lw_okq (⟨"LozengeGroundsModel", "worth", "(IIIZ)I"⟩, 21) := ⟨⟨by decide +kernel, by decide +kernel⟩, List.mem_of_getElem? (i := 620) (by decide +kernel), List.mem_of_getElem? (i := 808) (by decide +kernel), List.mem_of_getElem? (i := 809) (by decide +kernel)⟩
theorem lw_p18 : lw_okq (⟨"LozengeGroundsModel", "isBest", "(III)Z"⟩, 21) := ⟨⟨by decide +kernel, by decide +kernel⟩, List.mem_of_getElem? (i := 620) (by decide +kernel), List.mem_of_getElem? (i := 835) (by decide +kernel), List.mem_of_getElem? (i := 836) (by decide +kernel)⟩
theorem lw_p19 : lw_okq (⟨"LozengeGroundsModel", "isPoint", "(II)Z"⟩, 21) := ⟨⟨by decide +kernel, by decide +kernel⟩, List.mem_of_getElem? (i := 620) (by decide +kernel), List.mem_of_getElem? (i := 864) (by decide +kernel), List.mem_of_getElem? (i := 865) (by decide +kernel)⟩
theorem lw_p20 : lw_okq (⟨"LozengeGroundsModel", "pointOf", "(III)I"⟩, 21) := ⟨⟨by decide +kernel, by decide +kernel⟩, List.mem_of_getElem? (i := 620) (by decide +kernel), List.mem_of_getElem? (i := 868) (by decide +kernel), List.mem_of_getElem? (i := 869) (by decide +kernel)⟩
theorem lw_p21 : lw_okq (⟨"LozengeGroundsModel", "isInner", "(II)Z"⟩, 21) := ⟨⟨by decide +kernel, by decide +kernel⟩, List.mem_of_getElem? (i := 620) (by decide +kernel), List.mem_of_getElem? (i := 872) (by decide +kernel), List.mem_of_getElem? (i := 873) (by decide +kernel)⟩
theorem lw_p22 : lw_okq (⟨"LozengeGroundsModel", "isThere", "(IIZ)Z"⟩, 21) := ⟨⟨by decide +kernel, by decide +kernel⟩, List.mem_of_getElem? (i := 620) (by decide +kernel), List.mem_of_getElem? (i := 876) (by decide +kernel), List.mem_of_getElem? (i := 877) (by decide +kernel)⟩
theorem lw_p23 : lw_okq (⟨"LozengeGroundsModel", "turnOver", "(III)V"⟩, 21) := ⟨⟨by decide +kernel, by decide +kernel⟩, List.mem_of_getElem? (i := 620) (by decide +kernel), List.mem_of_getElem? (i := 888) (by decide +kernel), List.mem_of_getElem? (i := 889) (by decide +kernel)⟩
theorem lw_p24 : lw_okq (⟨"LozengeGroundsModel", "spread", "(II)V"⟩, 21) := ⟨⟨by decide +kernel, by decide +kernel⟩, List.mem_of_getElem? (i := 620) (by decide +kernel), List.mem_of_getElem? (i := 896) (by decide +kernel), List.mem_of_getElem? (i := 897) (by decide +kernel)⟩
theorem lw_p25 : lw_okq (⟨"LozengeGroundsModel", "stepCell", "(IIII)Z"⟩, 21) := ⟨⟨by decide +kernel, by decide +kernel⟩, List.mem_of_getElem? (i := 620) (by decide +kernel), List.mem_of_getElem? (i := 900) (by decide +kernel), List.mem_of_getElem? (i := 901) (by decide +kernel)⟩
theorem lw_p26 : lw_okq (⟨"LozengeGroundsModel", "crossed", "(IIII)I"⟩, 21) := ⟨⟨by decide +kernel, by decide +kernel⟩, List.mem_of_getElem? (i := 620) (by decide +kernel), List.mem_of_getElem? (i := 904) (by decide +kernel), List.mem_of_getElem? (i := 905) (by decide +kernel)⟩
theorem lw_p27 : lw_okq (⟨"LozengeGroundsModel", "step", "(III)Z"⟩, 21) := ⟨⟨by decide +kernel, by decide +kernel⟩, List.mem_of_getElem? (i := 620) (by decide +kernel), List.mem_of_getElem? (i := 908) (by decide +kernel), List.mem_of_getElem? (i := 909) (by decide +kernel)⟩
theorem lw_p28 : lw_okq (⟨"LozengeGroundsModel", "meet", "(I)Z"⟩, 21) := ⟨⟨by decide +kernel, by decide +kernel⟩, List.mem_of_getElem? (i := 620) (by decide +kernel), List.mem_of_getElem? (i := 920) (by decide +kernel), List.mem_of_getElem? (i := 921) (by decide +kernel)⟩
theorem lw_p29 : lw_okq (⟨"LozengeGroundsModel", "packed", "(II)J"⟩, 21) := ⟨⟨by decide +kernel, by decide +kernel⟩, List.mem_of_getElem? (i := 620) (by decide +kernel), List.mem_of_getElem? (i := 924) (by decide +kernel), List.mem_of_getElem? (i := 925) (by decide +kernel)⟩
theorem lw_p30 : lw_okq (⟨"LozengeGroundsModel", "meetAll", "(II)Z"⟩, 21) := ⟨⟨by decide +kernel, by decide +kernel⟩, List.mem_of_getElem? (i := 620) (by decide +kernel), List.mem_of_getElem? (i := 931) (by decide +kernel), List.mem_of_getElem? (i := 932) (by decide +kernel)⟩
theorem lw_p31 : lw_okq (⟨"LozengeGroundsModel", "unpack", "(II)V"⟩, 21) := ⟨⟨by decide +kernel, by decide +kernel⟩, List.mem_of_getElem? (i := 620) (by decide +kernel), List.mem_of_getElem? (i := 935) (by decide +kernel), List.mem_of_getElem? (i := 936) (by decide +kernel)⟩
def lw_privs_2 : List (MethodName × Nat) := [(⟨"LozengeGroundsModel", "layBest", "(IZ)V"⟩, 21), (⟨"LozengeGroundsModel", "worth", "(IIIZ)I"⟩, 21), (⟨"LozengeGroundsModel", "isBest", "(III)Z"⟩, 21), (⟨"LozengeGroundsModel", "isPoint", "(II)Z"⟩, 21), (⟨"LozengeGroundsModel", "pointOf", "(III)I"⟩, 21), (⟨"LozengeGroundsModel", "isInner", "(II)Z"⟩, 21), (⟨"LozengeGroundsModel", "isThere", "(IIZ)Z"⟩, 21), (⟨"LozengeGroundsModel", "turnOver", "(III)V"⟩, 21), (⟨"LozengeGroundsModel", "spread", "(II)V"⟩, 21), (⟨"LozengeGroundsModel", "stepCell", "(IIII)Z"⟩, 21), (⟨"LozengeGroundsModel", "crossed", "(IIII)I"⟩, 21), (⟨"LozengeGroundsModel", "step", "(III)Z"⟩, 21), (⟨"LozengeGroundsModel", "meet", "(I)Z"⟩, 21), (⟨"LozengeGroundsModel", "packed", "(II)J"⟩, 21), (⟨"LozengeGroundsModel", "meetAll", "(II)Z"⟩, 21), (⟨"LozengeGroundsModel", "unpack", "(II)V"⟩, 21)]
theorem lw_r2 : ∀ q ∈ lw_privs_2, lw_okq q := List.forall_mem_cons.mpr ⟨lw_p16, List.forall_mem_cons.mpr ⟨lw_p17, List.forall_mem_cons.mpr ⟨lw_p18, List.forall_mem_cons.mpr ⟨lw_p19, List.forall_mem_cons.mpr ⟨lw_p20, List.forall_mem_cons.mpr ⟨lw_p21, List.forall_mem_cons.mpr ⟨lw_p22, List.forall_mem_cons.mpr ⟨lw_p23, List.forall_mem_cons.mpr ⟨lw_p24, List.forall_mem_cons.mpr ⟨lw_p25, List.forall_mem_cons.mpr ⟨lw_p26, List.forall_mem_cons.mpr ⟨lw_p27, List.forall_mem_cons.mpr ⟨lw_p28, List.forall_mem_cons.mpr ⟨lw_p29, List.forall_mem_cons.mpr ⟨lw_p30, List.forall_mem_cons.mpr ⟨lw_p31, fun _ h => absurd h List.not_mem_nil⟩⟩⟩⟩⟩⟩⟩⟩⟩⟩⟩⟩⟩⟩⟩⟩
theorem lw_p32 : lw_okq (⟨"LozengeGroundsModel", "layMost", "()V"⟩, 21) := ⟨⟨by decide +kernel, by decide +kernel⟩, List.mem_of_getElem? (i := 620) (by decide +kernel), List.mem_of_getElem? (i := 948) (by decide +kernel), List.mem_of_getElem? (i := 949) (by decide +kernel)⟩
theorem lw_p33 : lw_okq (⟨"LozengeGroundsModel", "look", "(I)I"⟩, 21) := ⟨⟨by decide +kernel, by decide +kernel⟩, List.mem_of_getElem? (i := 620) (by decide +kernel), List.mem_of_getElem? (i := 952) (by decide +kernel), List.mem_of_getElem? (i := 953) (by decide +kernel)⟩
theorem lw_p34 : lw_okq (⟨"LozengeGroundsModel", "downOf", "(II)I"⟩, 21) := ⟨⟨by decide +kernel, by decide +kernel⟩, List.mem_of_getElem? (i := 620) (by decide +kernel), List.mem_of_getElem? (i := 956) (by decide +kernel), List.mem_of_getElem? (i := 957) (by decide +kernel)⟩
theorem lw_p35 : lw_okq (⟨"LozengeGroundsModel", "join", "(I)V"⟩, 21) := ⟨⟨by decide +kernel, by decide +kernel⟩, List.mem_of_getElem? (i := 620) (by decide +kernel), List.mem_of_getElem? (i := 960) (by decide +kernel), List.mem_of_getElem? (i := 961) (by decide +kernel)⟩
theorem lw_p36 : lw_okq (⟨"LozengeGroundsModel", "mostNow", "()I"⟩, 21) := ⟨⟨by decide +kernel, by decide +kernel⟩, List.mem_of_getElem? (i := 620) (by decide +kernel), List.mem_of_getElem? (i := 964) (by decide +kernel), List.mem_of_getElem? (i := 965) (by decide +kernel)⟩
theorem lw_p37 : lw_okq (⟨"LozengeGroundsModel", "layBar", "()I"⟩, 21) := ⟨⟨by decide +kernel, by decide +kernel⟩, List.mem_of_getElem? (i := 620) (by decide +kernel), List.mem_of_getElem? (i := 976) (by decide +kernel), List.mem_of_getElem? (i := 977) (by decide +kernel)⟩
def lw_privs_3 : List (MethodName × Nat) := [(⟨"LozengeGroundsModel", "layMost", "()V"⟩, 21), (⟨"LozengeGroundsModel", "look", "(I)I"⟩, 21), (⟨"LozengeGroundsModel", "downOf", "(II)I"⟩, 21), (⟨"LozengeGroundsModel", "join", "(I)V"⟩, 21), (⟨"LozengeGroundsModel", "mostNow", "()I"⟩, 21), (⟨"LozengeGroundsModel", "layBar", "()I"⟩, 21)]
theorem lw_r3 : ∀ q ∈ lw_privs_3, lw_okq q := List.forall_mem_cons.mpr ⟨lw_p32, List.forall_mem_cons.mpr ⟨lw_p33, List.forall_mem_cons.mpr ⟨lw_p34, List.forall_mem_cons.mpr ⟨lw_p35, List.forall_mem_cons.mpr ⟨lw_p36, List.forall_mem_cons.mpr ⟨lw_p37, fun _ h => absurd h List.not_mem_nil⟩⟩⟩⟩⟩⟩
def lw_privs : List (MethodName × Nat) := lw_privs_1 ++ (lw_privs_2 ++ (lw_privs_3))
def lw_tbl : List Cond := k2_sels lw_privs ++ tables_1
theorem lw_privs_ok : ∀ q ∈ lw_privs, lw_okq q := by
  show ∀ q ∈ lw_privs_1 ++ (lw_privs_2 ++ (lw_privs_3)), lw_okq q
  exact List.forall_mem_append.mpr ⟨lw_r1, List.forall_mem_append.mpr ⟨lw_r2, lw_r3⟩⟩
/-! ===== BEGIN words of one list among another's, by their places ===== -/
theorem goodIn_r {big : List Cond} (ws : List Cond) (ps : List Nat) (hp : ws = ps.filterMap (fun i => big[i]?)) (h : ws.all goodWord = true) : GoodIn big ws := by
  intro w hw
  have h1 := List.all_eq_true.mp h w hw
  rw [hp] at hw
  obtain ⟨i, -, hi⟩ := List.mem_filterMap.mp hw
  have hm : w ∈ big := by first | exact List.mem_of_getElem? hi | exact List.getElem?_mem hi
  exact ⟨hm, good_of_word h1⟩
theorem goodIn_app {big a b : List Cond} (ha : GoodIn big a) (hb : GoodIn big b) : GoodIn big (a ++ b) := fun w h => (List.mem_append.mp h).elim (ha w) (hb w)
theorem goodIn_ca {big a b : List Cond} {c : Cond} (ha : GoodIn big (c :: a)) (hb : GoodIn big b) : GoodIn big (c :: (a ++ b)) := fun w h => (List.mem_cons.mp h).elim (fun e => ha w (List.mem_cons.mpr (Or.inl e))) (fun h => (List.mem_append.mp h).elim (fun h => ha w (List.mem_cons.mpr (Or.inr h))) (hb w))
theorem goodIn_sub {big ws : List Cond} (hm : ∀ w ∈ ws, w ∈ big) (h : ws.all goodWord = true) : GoodIn big ws := fun w hw => ⟨hm w hw, good_of_word (List.all_eq_true.mp h w hw)⟩
/-! ===== names ===== -/
/-! ===== BEGIN printed: names, fields, word lists, decode rows ===== -/
def RX0 : String := "LozengeGrounds$Joining"
def TX0 : u_T := fun k => match k with
  | 0 => ("LozengeGrounds$Joining", "laid", "LLozengeGrounds$Laying;", true)
  | 1 => ("LozengeGrounds$Joining", "layers", "[J", true)
  | _ => ("LozengeGrounds$Joining", "barring", "J", false)
def tyX0 : Nat → FieldType := fun k => match k with
  | 0 => .object "LozengeGrounds$Laying"
  | 1 => .array .long
  | _ => .long
abbrev wsX00 : List Cond := u_ws RX0 TX0 3
theorem nmX0 : ∀ a, a < 3 → ∀ b, b < 3 → a ≠ b → (TX0 a).2.1 ≠ (TX0 b).2.1 := by decide +kernel
theorem tyX0_ok : ∀ k, k < 3 → parseFieldDescriptor (TX0 k).2.2.1 = some (tyX0 k) := by decide +kernel
abbrev cX0_init : ByteArray := prog_2_method_1_code
def yX0_init : MethodName := ⟨RX0, "<init>", "()V"⟩
abbrev cX0_solve : ByteArray := prog_2_method_2_code
def yX0_solve : MethodName := ⟨RX0, "solve", "(LLozengeGrounds$Land;)V"⟩
abbrev cX0_joined : ByteArray := prog_2_method_3_code
def yX0_joined : MethodName := ⟨RX0, "joined", "()I"⟩
abbrev cX0_layGreedily : ByteArray := prog_2_method_4_code
def yX0_layGreedily : MethodName := ⟨RX0, "layGreedily", "(LLozengeGrounds$Land;)V"⟩
abbrev cX0_search : ByteArray := prog_2_method_5_code
def yX0_search : MethodName := ⟨RX0, "search", "(LLozengeGrounds$Land;)I"⟩
abbrev cX0_downsBeside : ByteArray := prog_2_method_6_code
def yX0_downsBeside : MethodName := ⟨RX0, "downsBeside", "(LLozengeGrounds$Land;J)J"⟩
abbrev cX0_mates : ByteArray := prog_2_method_7_code
def yX0_mates : MethodName := ⟨RX0, "mates", "(LLozengeGrounds$Land;J)J"⟩
abbrev cX0_shift : ByteArray := prog_2_method_8_code
def yX0_shift : MethodName := ⟨RX0, "shift", "(LLozengeGrounds$Land;I)V"⟩
abbrev cX0_mateOf : ByteArray := prog_2_method_9_code
def yX0_mateOf : MethodName := ⟨RX0, "mateOf", "(LLozengeGrounds$Land;J)J"⟩
def RX1 : String := "LozengeGrounds$Land"
def TX1 : u_T := fun k => match k with
  | 0 => ("LozengeGrounds$Land", "w", "I", false)
  | 1 => ("LozengeGrounds$Land", "h", "I", false)
  | 2 => ("LozengeGrounds$Land", "cells", "I", false)
  | 3 => ("LozengeGrounds$Land", "up", "J", false)
  | 4 => ("LozengeGrounds$Land", "down", "J", false)
  | 5 => ("LozengeGrounds$Land", "east", "J", false)
  | _ => ("LozengeGrounds$Land", "inner", "J", false)
def tyX1 : Nat → FieldType := fun k => match k with
  | 0 => .int
  | 1 => .int
  | 2 => .int
  | 3 => .long
  | 4 => .long
  | 5 => .long
  | _ => .long
abbrev wsX10 : List Cond := u_ws RX1 TX1 7
theorem nmX1 : ∀ a, a < 7 → ∀ b, b < 7 → a ≠ b → (TX1 a).2.1 ≠ (TX1 b).2.1 := by decide +kernel
theorem tyX1_ok : ∀ k, k < 7 → parseFieldDescriptor (TX1 k).2.2.1 = some (tyX1 k) := by decide +kernel
abbrev cX1_init : ByteArray := prog_3_method_1_code
def yX1_init : MethodName := ⟨RX1, "<init>", "()V"⟩
abbrev cX1_shape : ByteArray := prog_3_method_2_code
def yX1_shape : MethodName := ⟨RX1, "shape", "(II)V"⟩
abbrev cX1_shapeHexagon : ByteArray := prog_3_method_3_code
def yX1_shapeHexagon : MethodName := ⟨RX1, "shapeHexagon", "(III)V"⟩
abbrev cX1_hasTriangle : ByteArray := prog_3_method_4_code
def yX1_hasTriangle : MethodName := ⟨RX1, "hasTriangle", "(I)Z"⟩
abbrev cX1_hasCell : ByteArray := prog_3_method_5_code
def yX1_hasCell : MethodName := ⟨RX1, "hasCell", "(I)Z"⟩
abbrev cX1_hasPoint : ByteArray := prog_3_method_6_code
def yX1_hasPoint : MethodName := ⟨RX1, "hasPoint", "(II)Z"⟩
abbrev cX1_pointBit : ByteArray := prog_3_method_7_code
def yX1_pointBit : MethodName := ⟨RX1, "pointBit", "(II)J"⟩
abbrev cX1_holds : ByteArray := prog_3_method_8_code
def yX1_holds : MethodName := ⟨RX1, "holds", "(I)Z"⟩
abbrev cX1_change : ByteArray := prog_3_method_9_code
def yX1_change : MethodName := ⟨RX1, "change", "(I)V"⟩
abbrev cX1_findInner : ByteArray := prog_3_method_10_code
def yX1_findInner : MethodName := ⟨RX1, "findInner", "()V"⟩
abbrev cX1_isSymmetric : ByteArray := prog_3_method_11_code
def yX1_isSymmetric : MethodName := ⟨RX1, "isSymmetric", "()Z"⟩
abbrev cX1_across : ByteArray := prog_3_method_12_code
def yX1_across : MethodName := ⟨RX1, "across", "(J)J"⟩
def RX2 : String := "LozengeGrounds$Laying"
def TX2 : u_T := fun k => match k with
  | 0 => ("LozengeGrounds$Laying", "held", "Z", false)
  | 1 => ("LozengeGrounds$Laying", "zero", "J", false)
  | 2 => ("LozengeGrounds$Laying", "one", "J", false)
  | _ => ("LozengeGrounds$Laying", "two", "J", false)
def tyX2 : Nat → FieldType := fun k => match k with
  | 0 => .boolean
  | 1 => .long
  | 2 => .long
  | _ => .long
abbrev wsX20 : List Cond := u_ws RX2 TX2 4
theorem nmX2 : ∀ a, a < 4 → ∀ b, b < 4 → a ≠ b → (TX2 a).2.1 ≠ (TX2 b).2.1 := by decide +kernel
theorem tyX2_ok : ∀ k, k < 4 → parseFieldDescriptor (TX2 k).2.2.1 = some (tyX2 k) := by decide +kernel
abbrev cX2_init : ByteArray := prog_4_method_1_code
def yX2_init : MethodName := ⟨RX2, "<init>", "()V"⟩
abbrev cX2_clear : ByteArray := prog_4_method_2_code
def yX2_clear : MethodName := ⟨RX2, "clear", "()V"⟩
abbrev cX2_take : ByteArray := prog_4_method_3_code
def yX2_take : MethodName := ⟨RX2, "take", "(LLozengeGrounds$Laying;)V"⟩
abbrev cX2_cellsOf : ByteArray := prog_4_method_4_code
def yX2_cellsOf : MethodName := ⟨RX2, "cellsOf", "(I)J"⟩
abbrev cX2_kindAt : ByteArray := prog_4_method_5_code
def yX2_kindAt : MethodName := ⟨RX2, "kindAt", "(I)I"⟩
abbrev cX2_put : ByteArray := prog_4_method_6_code
def yX2_put : MethodName := ⟨RX2, "put", "(JI)V"⟩
abbrev cX2_isLike : ByteArray := prog_4_method_7_code
def yX2_isLike : MethodName := ⟨RX2, "isLike", "(LLozengeGrounds$Laying;)Z"⟩
abbrev cX2_alikeIn : ByteArray := prog_4_method_8_code
def yX2_alikeIn : MethodName := ⟨RX2, "alikeIn", "(LLozengeGrounds$Laying;)J"⟩
abbrev cX2_lows : ByteArray := prog_4_method_9_code
def yX2_lows : MethodName := ⟨RX2, "lows", "(LLozengeGrounds$Land;)J"⟩
abbrev cX2_highs : ByteArray := prog_4_method_10_code
def yX2_highs : MethodName := ⟨RX2, "highs", "(LLozengeGrounds$Land;)J"⟩
abbrev cX2_flip : ByteArray := prog_4_method_11_code
def yX2_flip : MethodName := ⟨RX2, "flip", "(JI)V"⟩
def RX3 : String := "LozengeGrounds$Steps"
def TX3 : u_T := fun k => match k with
  | 0 => ("LozengeGrounds$Steps", "first", "[I", true)
  | 1 => ("LozengeGrounds$Steps", "open", "[I", true)
  | 2 => ("LozengeGrounds$Steps", "next", "[I", true)
  | 3 => ("LozengeGrounds$Steps", "onward", "[J", true)
  | 4 => ("LozengeGrounds$Steps", "hither", "[J", true)
  | 5 => ("LozengeGrounds$Steps", "best", "[I", true)
  | 6 => ("LozengeGrounds$Steps", "nodeOfOpen", "[I", true)
  | _ => ("LozengeGrounds$Steps", "nodes", "I", false)
def tyX3 : Nat → FieldType := fun k => match k with
  | 0 => .array .int
  | 1 => .array .int
  | 2 => .array .int
  | 3 => .array .long
  | 4 => .array .long
  | 5 => .array .int
  | 6 => .array .int
  | _ => .int
abbrev wsX30 : List Cond := u_ws RX3 TX3 8
theorem nmX3 : ∀ a, a < 8 → ∀ b, b < 8 → a ≠ b → (TX3 a).2.1 ≠ (TX3 b).2.1 := by decide +kernel
theorem tyX3_ok : ∀ k, k < 8 → parseFieldDescriptor (TX3 k).2.2.1 = some (tyX3 k) := by decide +kernel
abbrev cX3_init : ByteArray := prog_5_method_1_code
def yX3_init : MethodName := ⟨RX3, "<init>", "()V"⟩
abbrev cX3_build : ByteArray := prog_5_method_2_code
def yX3_build : MethodName := ⟨RX3, "build", "(LLozengeGrounds$Land;)V"⟩
abbrev cX3_openAfter : ByteArray := prog_5_method_3_code
def yX3_openAfter : MethodName := ⟨RX3, "openAfter", "(LLozengeGrounds$Land;III)I"⟩
abbrev cX3_nodeFor : ByteArray := prog_5_method_4_code
def yX3_nodeFor : MethodName := ⟨RX3, "nodeFor", "(I)I"⟩
abbrev cX3_countOnward : ByteArray := prog_5_method_5_code
def yX3_countOnward : MethodName := ⟨RX3, "countOnward", "(LLozengeGrounds$Land;)V"⟩
abbrev cX3_countHither : ByteArray := prog_5_method_6_code
def yX3_countHither : MethodName := ⟨RX3, "countHither", "(LLozengeGrounds$Land;)V"⟩
abbrev cX3_total : ByteArray := prog_5_method_7_code
def yX3_total : MethodName := ⟨RX3, "total", "()J"⟩
abbrev cX3_waysThrough : ByteArray := prog_5_method_8_code
def yX3_waysThrough : MethodName := ⟨RX3, "waysThrough", "(LLozengeGrounds$Land;II)J"⟩
abbrev cX3_kindSet : ByteArray := prog_5_method_9_code
def yX3_kindSet : MethodName := ⟨RX3, "kindSet", "(LLozengeGrounds$Land;I)I"⟩
abbrev cX3_rank : ByteArray := prog_5_method_10_code
def yX3_rank : MethodName := ⟨RX3, "rank", "(LLozengeGrounds$Land;[I)I"⟩
abbrev cX3_worthBy : ByteArray := prog_5_method_11_code
def yX3_worthBy : MethodName := ⟨RX3, "worthBy", "(LLozengeGrounds$Land;[IIII)I"⟩
abbrev cX3_walkTo : ByteArray := prog_5_method_12_code
def yX3_walkTo : MethodName := ⟨RX3, "walkTo", "(LLozengeGrounds$Land;JLLozengeGrounds$Laying;)V"⟩
abbrev cX3_walkDearest : ByteArray := prog_5_method_13_code
def yX3_walkDearest : MethodName := ⟨RX3, "walkDearest", "(LLozengeGrounds$Land;[ILLozengeGrounds$Laying;)V"⟩
abbrev cX3_isBest : ByteArray := prog_5_method_14_code
def yX3_isBest : MethodName := ⟨RX3, "isBest", "(LLozengeGrounds$Land;[IIII)Z"⟩
abbrev cX3_step : ByteArray := prog_5_method_15_code
def yX3_step : MethodName := ⟨RX3, "step", "(LLozengeGrounds$Land;LLozengeGrounds$Laying;III)I"⟩
abbrev cX3_onwardBy : ByteArray := prog_5_method_16_code
def yX3_onwardBy : MethodName := ⟨RX3, "onwardBy", "(II)J"⟩
abbrev cX3_waysAhead : ByteArray := prog_5_method_17_code
def yX3_waysAhead : MethodName := ⟨RX3, "waysAhead", "(LLozengeGrounds$Land;LLozengeGrounds$Laying;)J"⟩
def RX4 : String := "LozengeGrounds$Turner"
def TX4 : u_T := fun k => match k with
  | 0 => ("LozengeGrounds$Turner", "here", "LLozengeGrounds$Laying;", true)
  | 1 => ("LozengeGrounds$Turner", "there", "LLozengeGrounds$Laying;", true)
  | 2 => ("LozengeGrounds$Turner", "knownBottom", "LLozengeGrounds$Laying;", true)
  | 3 => ("LozengeGrounds$Turner", "tally", "[I", true)
  | _ => ("LozengeGrounds$Turner", "knownFamily", "I", false)
def tyX4 : Nat → FieldType := fun k => match k with
  | 0 => .object "LozengeGrounds$Laying"
  | 1 => .object "LozengeGrounds$Laying"
  | 2 => .object "LozengeGrounds$Laying"
  | 3 => .array .int
  | _ => .int
abbrev wsX40 : List Cond := u_ws RX4 TX4 5
theorem nmX4 : ∀ a, a < 5 → ∀ b, b < 5 → a ≠ b → (TX4 a).2.1 ≠ (TX4 b).2.1 := by decide +kernel
theorem tyX4_ok : ∀ k, k < 5 → parseFieldDescriptor (TX4 k).2.2.1 = some (tyX4 k) := by decide +kernel
abbrev cX4_init : ByteArray := prog_6_method_1_code
def yX4_init : MethodName := ⟨RX4, "<init>", "()V"⟩
abbrev cX4_forget : ByteArray := prog_6_method_2_code
def yX4_forget : MethodName := ⟨RX4, "forget", "()V"⟩
abbrev cX4_toEnd : ByteArray := prog_6_method_3_code
def yX4_toEnd : MethodName := ⟨RX4, "toEnd", "(LLozengeGrounds$Land;LLozengeGrounds$Laying;Z)I"⟩
abbrev cX4_between : ByteArray := prog_6_method_4_code
def yX4_between : MethodName := ⟨RX4, "between", "(LLozengeGrounds$Land;LLozengeGrounds$Laying;LLozengeGrounds$Laying;)I"⟩
abbrev cX4_sinkTallied : ByteArray := prog_6_method_5_code
def yX4_sinkTallied : MethodName := ⟨RX4, "sinkTallied", "(LLozengeGrounds$Land;LLozengeGrounds$Laying;I)V"⟩
abbrev cX4_family : ByteArray := prog_6_method_6_code
def yX4_family : MethodName := ⟨RX4, "family", "(LLozengeGrounds$Land;LLozengeGrounds$Laying;I)I"⟩
abbrev cX4_countFrom : ByteArray := prog_6_method_7_code
def yX4_countFrom : MethodName := ⟨RX4, "countFrom", "(LLozengeGrounds$Land;I)I"⟩
abbrev cX4_firstBranch : ByteArray := prog_6_method_8_code
def yX4_firstBranch : MethodName := ⟨RX4, "firstBranch", "(JJI)J"⟩
def RX5 : String := "LozengeGrounds"
def TX5 : u_T := fun k => match k with
  | 0 => ("LozengeGrounds", "land", "LLozengeGrounds$Land;", true)
  | 1 => ("LozengeGrounds", "steps", "LLozengeGrounds$Steps;", true)
  | 2 => ("LozengeGrounds", "joining", "LLozengeGrounds$Joining;", true)
  | 3 => ("LozengeGrounds", "turner", "LLozengeGrounds$Turner;", true)
  | 4 => ("LozengeGrounds", "slots", "[LLozengeGrounds$Laying;", true)
  | 5 => ("LozengeGrounds", "spare", "LLozengeGrounds$Laying;", true)
  | 6 => ("LozengeGrounds", "weights", "[I", true)
  | 7 => ("LozengeGrounds", "worth", "[I", true)
  | 8 => ("LozengeGrounds", "stepsStand", "Z", false)
  | _ => ("LozengeGrounds", "joiningStands", "Z", false)
def tyX5 : Nat → FieldType := fun k => match k with
  | 0 => .object "LozengeGrounds$Land"
  | 1 => .object "LozengeGrounds$Steps"
  | 2 => .object "LozengeGrounds$Joining"
  | 3 => .object "LozengeGrounds$Turner"
  | 4 => .array (.object "LozengeGrounds$Laying")
  | 5 => .object "LozengeGrounds$Laying"
  | 6 => .array .int
  | 7 => .array .int
  | 8 => .boolean
  | _ => .boolean
abbrev wsX50 : List Cond := u_ws RX5 TX5 10
theorem nmX5 : ∀ a, a < 10 → ∀ b, b < 10 → a ≠ b → (TX5 a).2.1 ≠ (TX5 b).2.1 := by decide +kernel
theorem tyX5_ok : ∀ k, k < 10 → parseFieldDescriptor (TX5 k).2.2.1 = some (tyX5 k) := by decide +kernel
abbrev cX5_init : ByteArray := prog_1_method_1_code
def yX5_init : MethodName := ⟨RX5, "<init>", "()V"⟩
abbrev cX5_ground : ByteArray := prog_1_method_2_code
def yX5_ground : MethodName := ⟨RX5, "ground", "(II)I"⟩
abbrev cX5_hexagon : ByteArray := prog_1_method_3_code
def yX5_hexagon : MethodName := ⟨RX5, "hexagon", "(III)I"⟩
abbrev cX5_set : ByteArray := prog_1_method_4_code
def yX5_set : MethodName := ⟨RX5, "set", "(IZ)I"⟩
abbrev cX5_isIn : ByteArray := prog_1_method_5_code
def yX5_isIn : MethodName := ⟨RX5, "isIn", "(I)I"⟩
abbrev cX5_ups : ByteArray := prog_1_method_6_code
def yX5_ups : MethodName := ⟨RX5, "ups", "(Z)I"⟩
abbrev cX5_size : ByteArray := prog_1_method_7_code
def yX5_size : MethodName := ⟨RX5, "size", "(I)I"⟩
abbrev cX5_product : ByteArray := prog_1_method_8_code
def yX5_product : MethodName := ⟨RX5, "product", "(III)J"⟩
abbrev cX5_layings : ByteArray := prog_1_method_9_code
def yX5_layings : MethodName := ⟨RX5, "layings", "()J"⟩
abbrev cX5_with : ByteArray := prog_1_method_10_code
def yX5_with : MethodName := ⟨RX5, "with", "(II)J"⟩
abbrev cX5_kinds : ByteArray := prog_1_method_11_code
def yX5_kinds : MethodName := ⟨RX5, "kinds", "(I)I"⟩
abbrev cX5_forced : ByteArray := prog_1_method_12_code
def yX5_forced : MethodName := ⟨RX5, "forced", "()I"⟩
abbrev cX5_span : ByteArray := prog_1_method_13_code
def yX5_span : MethodName := ⟨RX5, "span", "(IZ)I"⟩
abbrev cX5_weight : ByteArray := prog_1_method_14_code
def yX5_weight : MethodName := ⟨RX5, "weight", "(III)I"⟩
abbrev cX5_dearest : ByteArray := prog_1_method_15_code
def yX5_dearest : MethodName := ⟨RX5, "dearest", "()I"⟩
abbrev cX5_lay : ByteArray := prog_1_method_16_code
def yX5_lay : MethodName := ⟨RX5, "lay", "(IJ)I"⟩
abbrev cX5_layDearest : ByteArray := prog_1_method_17_code
def yX5_layDearest : MethodName := ⟨RX5, "layDearest", "(I)I"⟩
abbrev cX5_copy : ByteArray := prog_1_method_18_code
def yX5_copy : MethodName := ⟨RX5, "copy", "(II)I"⟩
abbrev cX5_place : ByteArray := prog_1_method_19_code
def yX5_place : MethodName := ⟨RX5, "place", "(I)J"⟩
abbrev cX5_kind : ByteArray := prog_1_method_20_code
def yX5_kind : MethodName := ⟨RX5, "kind", "(II)I"⟩
abbrev cX5_count : ByteArray := prog_1_method_21_code
def yX5_count : MethodName := ⟨RX5, "count", "(II)I"⟩
abbrev cX5_weighs : ByteArray := prog_1_method_22_code
def yX5_weighs : MethodName := ⟨RX5, "weighs", "(I)I"⟩
abbrev cX5_point : ByteArray := prog_1_method_23_code
def yX5_point : MethodName := ⟨RX5, "point", "(III)I"⟩
abbrev cX5_free : ByteArray := prog_1_method_24_code
def yX5_free : MethodName := ⟨RX5, "free", "(IZ)I"⟩
abbrev cX5_turn : ByteArray := prog_1_method_25_code
def yX5_turn : MethodName := ⟨RX5, "turn", "(III)I"⟩
abbrev cX5_apart : ByteArray := prog_1_method_26_code
def yX5_apart : MethodName := ⟨RX5, "apart", "(II)I"⟩
abbrev cX5_end : ByteArray := prog_1_method_27_code
def yX5_end : MethodName := ⟨RX5, "end", "(IZ)I"⟩
abbrev cX5_reach : ByteArray := prog_1_method_28_code
def yX5_reach : MethodName := ⟨RX5, "reach", "(I)I"⟩
abbrev cX5_mirror : ByteArray := prog_1_method_29_code
def yX5_mirror : MethodName := ⟨RX5, "mirror", "(I)I"⟩
abbrev cX5_most : ByteArray := prog_1_method_30_code
def yX5_most : MethodName := ⟨RX5, "most", "()I"⟩
abbrev cX5_lack : ByteArray := prog_1_method_31_code
def yX5_lack : MethodName := ⟨RX5, "lack", "()I"⟩
abbrev cX5_bar : ByteArray := prog_1_method_32_code
def yX5_bar : MethodName := ⟨RX5, "bar", "()I"⟩
abbrev cX5_barred : ByteArray := prog_1_method_33_code
def yX5_barred : MethodName := ⟨RX5, "barred", "(I)I"⟩
abbrev cX5_isKind : ByteArray := prog_1_method_34_code
def yX5_isKind : MethodName := ⟨RX5, "isKind", "(I)Z"⟩
abbrev cX5_isSlot : ByteArray := prog_1_method_35_code
def yX5_isSlot : MethodName := ⟨RX5, "isSlot", "(I)Z"⟩
abbrev cX5_hexagonFits : ByteArray := prog_1_method_36_code
def yX5_hexagonFits : MethodName := ⟨RX5, "hexagonFits", "(III)Z"⟩
abbrev cX5_powerInProduct : ByteArray := prog_1_method_37_code
def yX5_powerInProduct : MethodName := ⟨RX5, "powerInProduct", "(IIII)I"⟩
abbrev cX5_powerIn : ByteArray := prog_1_method_38_code
def yX5_powerIn : MethodName := ⟨RX5, "powerIn", "(II)I"⟩
abbrev cX5_forgetWeights : ByteArray := prog_1_method_39_code
def yX5_forgetWeights : MethodName := ⟨RX5, "forgetWeights", "()V"⟩
abbrev cX5_forgetGround : ByteArray := prog_1_method_40_code
def yX5_forgetGround : MethodName := ⟨RX5, "forgetGround", "()V"⟩
abbrev cX5_makeSteps : ByteArray := prog_1_method_41_code
def yX5_makeSteps : MethodName := ⟨RX5, "makeSteps", "()V"⟩
abbrev cX5_makeJoining : ByteArray := prog_1_method_42_code
def yX5_makeJoining : MethodName := ⟨RX5, "makeJoining", "()V"⟩
def RX6 : String := "LozengeGroundsModel"
def TX6 : u_T := fun k => match k with
  | 0 => ("LozengeGroundsModel", "wide", "I", false)
  | 1 => ("LozengeGroundsModel", "tall", "I", false)
  | 2 => ("LozengeGroundsModel", "isIn", "[Z", true)
  | 3 => ("LozengeGroundsModel", "weight", "[I", true)
  | 4 => ("LozengeGroundsModel", "holds", "[Z", true)
  | 5 => ("LozengeGroundsModel", "kind", "[I", true)
  | 6 => ("LozengeGroundsModel", "ways", "[J", true)
  | 7 => ("LozengeGroundsModel", "come", "[J", true)
  | 8 => ("LozengeGroundsModel", "best", "[I", true)
  | 9 => ("LozengeGroundsModel", "higher", "[I", true)
  | 10 => ("LozengeGroundsModel", "known", "[Z", true)
  | 11 => ("LozengeGroundsModel", "lower", "[J", true)
  | 12 => ("LozengeGroundsModel", "upper", "[J", true)
  | 13 => ("LozengeGroundsModel", "table", "[I", true)
  | 14 => ("LozengeGroundsModel", "reached", "I", false)
  | 15 => ("LozengeGroundsModel", "kept", "[I", true)
  | 16 => ("LozengeGroundsModel", "upWith", "[I", true)
  | 17 => ("LozengeGroundsModel", "downWith", "[I", true)
  | 18 => ("LozengeGroundsModel", "met", "[Z", true)
  | 19 => ("LozengeGroundsModel", "queue", "[I", true)
  | _ => ("LozengeGroundsModel", "cameBy", "[I", true)
def tyX6 : Nat → FieldType := fun k => match k with
  | 0 => .int
  | 1 => .int
  | 2 => .array .boolean
  | 3 => .array .int
  | 4 => .array .boolean
  | 5 => .array .int
  | 6 => .array .long
  | 7 => .array .long
  | 8 => .array .int
  | 9 => .array .int
  | 10 => .array .boolean
  | 11 => .array .long
  | 12 => .array .long
  | 13 => .array .int
  | 14 => .int
  | 15 => .array .int
  | 16 => .array .int
  | 17 => .array .int
  | 18 => .array .boolean
  | 19 => .array .int
  | _ => .array .int
abbrev wsX60 : List Cond := u_ws RX6 TX6 21
theorem nmX6 : ∀ a, a < 21 → ∀ b, b < 21 → a ≠ b → (TX6 a).2.1 ≠ (TX6 b).2.1 := by decide +kernel
theorem tyX6_ok : ∀ k, k < 21 → parseFieldDescriptor (TX6 k).2.2.1 = some (tyX6 k) := by decide +kernel
abbrev cX6_init : ByteArray := prog_8_method_1_code
def yX6_init : MethodName := ⟨RX6, "<init>", "()V"⟩
abbrev cX6_in : ByteArray := prog_8_method_3_code
def yX6_in : MethodName := ⟨RX6, "in", "(JJJ)Z"⟩
abbrev cX6_layGround : ByteArray := prog_8_method_4_code
def yX6_layGround : MethodName := ⟨RX6, "layGround", "(II)V"⟩
abbrev cX6_empty : ByteArray := prog_8_method_5_code
def yX6_empty : MethodName := ⟨RX6, "empty", "()V"⟩
abbrev cX6_cells : ByteArray := prog_8_method_6_code
def yX6_cells : MethodName := ⟨RX6, "cells", "()I"⟩
abbrev cX6_isCell : ByteArray := prog_8_method_7_code
def yX6_isCell : MethodName := ⟨RX6, "isCell", "(I)Z"⟩
abbrev cX6_isUp : ByteArray := prog_8_method_8_code
def yX6_isUp : MethodName := ⟨RX6, "isUp", "(I)Z"⟩
abbrev cX6_isDown : ByteArray := prog_8_method_9_code
def yX6_isDown : MethodName := ⟨RX6, "isDown", "(I)Z"⟩
abbrev cX6_ground : ByteArray := prog_8_method_10_code
def yX6_ground : MethodName := ⟨RX6, "ground", "(II)I"⟩
abbrev cX6_isHexagon : ByteArray := prog_8_method_11_code
def yX6_isHexagon : MethodName := ⟨RX6, "isHexagon", "(III)Z"⟩
abbrev cX6_hexagon : ByteArray := prog_8_method_12_code
def yX6_hexagon : MethodName := ⟨RX6, "hexagon", "(III)I"⟩
abbrev cX6_set : ByteArray := prog_8_method_13_code
def yX6_set : MethodName := ⟨RX6, "set", "(IZ)I"⟩
abbrev cX6_isIn : ByteArray := prog_8_method_14_code
def yX6_isIn : MethodName := ⟨RX6, "isIn", "(I)I"⟩
abbrev cX6_count : ByteArray := prog_8_method_15_code
def yX6_count : MethodName := ⟨RX6, "count", "(Z)I"⟩
abbrev cX6_ups : ByteArray := prog_8_method_16_code
def yX6_ups : MethodName := ⟨RX6, "ups", "(Z)I"⟩
abbrev cX6_size : ByteArray := prog_8_method_17_code
def yX6_size : MethodName := ⟨RX6, "size", "(I)I"⟩
abbrev cX6_common : ByteArray := prog_8_method_18_code
def yX6_common : MethodName := ⟨RX6, "common", "(JJ)J"⟩
abbrev cX6_product : ByteArray := prog_8_method_19_code
def yX6_product : MethodName := ⟨RX6, "product", "(III)J"⟩
abbrev cX6_then : ByteArray := prog_8_method_20_code
def yX6_then : MethodName := ⟨RX6, "then", "(III)I"⟩
abbrev cX6_layWays : ByteArray := prog_8_method_21_code
def yX6_layWays : MethodName := ⟨RX6, "layWays", "()V"⟩
abbrev cX6_layCome : ByteArray := prog_8_method_22_code
def yX6_layCome : MethodName := ⟨RX6, "layCome", "()V"⟩
abbrev cX6_layings : ByteArray := prog_8_method_23_code
def yX6_layings : MethodName := ⟨RX6, "layings", "()J"⟩
abbrev cX6_withKind : ByteArray := prog_8_method_24_code
def yX6_withKind : MethodName := ⟨RX6, "withKind", "(II)J"⟩
abbrev cX6_with : ByteArray := prog_8_method_25_code
def yX6_with : MethodName := ⟨RX6, "with", "(II)J"⟩
abbrev cX6_kindsOf : ByteArray := prog_8_method_26_code
def yX6_kindsOf : MethodName := ⟨RX6, "kindsOf", "(I)I"⟩
abbrev cX6_kinds : ByteArray := prog_8_method_27_code
def yX6_kinds : MethodName := ⟨RX6, "kinds", "(I)I"⟩
abbrev cX6_forced : ByteArray := prog_8_method_28_code
def yX6_forced : MethodName := ⟨RX6, "forced", "()I"⟩
abbrev cX6_worth : ByteArray := prog_8_method_29_code
def yX6_worth : MethodName := ⟨RX6, "worth", "(IIIZ)I"⟩
abbrev cX6_layBest : ByteArray := prog_8_method_30_code
def yX6_layBest : MethodName := ⟨RX6, "layBest", "(IZ)V"⟩
abbrev cX6_span : ByteArray := prog_8_method_31_code
def yX6_span : MethodName := ⟨RX6, "span", "(IZ)I"⟩
abbrev cX6_weight : ByteArray := prog_8_method_32_code
def yX6_weight : MethodName := ⟨RX6, "weight", "(III)I"⟩
abbrev cX6_dearest : ByteArray := prog_8_method_33_code
def yX6_dearest : MethodName := ⟨RX6, "dearest", "()I"⟩
abbrev cX6_isSlot : ByteArray := prog_8_method_34_code
def yX6_isSlot : MethodName := ⟨RX6, "isSlot", "(I)Z"⟩
abbrev cX6_lay : ByteArray := prog_8_method_35_code
def yX6_lay : MethodName := ⟨RX6, "lay", "(IJ)I"⟩
abbrev cX6_layDearest : ByteArray := prog_8_method_36_code
def yX6_layDearest : MethodName := ⟨RX6, "layDearest", "(I)I"⟩
abbrev cX6_isBest : ByteArray := prog_8_method_37_code
def yX6_isBest : MethodName := ⟨RX6, "isBest", "(III)Z"⟩
abbrev cX6_copy : ByteArray := prog_8_method_38_code
def yX6_copy : MethodName := ⟨RX6, "copy", "(II)I"⟩
abbrev cX6_place : ByteArray := prog_8_method_39_code
def yX6_place : MethodName := ⟨RX6, "place", "(I)J"⟩
abbrev cX6_kind : ByteArray := prog_8_method_40_code
def yX6_kind : MethodName := ⟨RX6, "kind", "(II)I"⟩
abbrev cX6_count_ : ByteArray := prog_8_method_41_code
def yX6_count_ : MethodName := ⟨RX6, "count", "(II)I"⟩
abbrev cX6_weighs : ByteArray := prog_8_method_42_code
def yX6_weighs : MethodName := ⟨RX6, "weighs", "(I)I"⟩
abbrev cX6_isPoint : ByteArray := prog_8_method_43_code
def yX6_isPoint : MethodName := ⟨RX6, "isPoint", "(II)Z"⟩
abbrev cX6_isThere : ByteArray := prog_8_method_44_code
def yX6_isThere : MethodName := ⟨RX6, "isThere", "(IIZ)Z"⟩
abbrev cX6_isInner : ByteArray := prog_8_method_45_code
def yX6_isInner : MethodName := ⟨RX6, "isInner", "(II)Z"⟩
abbrev cX6_pointOf : ByteArray := prog_8_method_46_code
def yX6_pointOf : MethodName := ⟨RX6, "pointOf", "(III)I"⟩
abbrev cX6_turnOver : ByteArray := prog_8_method_47_code
def yX6_turnOver : MethodName := ⟨RX6, "turnOver", "(III)V"⟩
abbrev cX6_point : ByteArray := prog_8_method_48_code
def yX6_point : MethodName := ⟨RX6, "point", "(III)I"⟩
abbrev cX6_free : ByteArray := prog_8_method_49_code
def yX6_free : MethodName := ⟨RX6, "free", "(IZ)I"⟩
abbrev cX6_turn : ByteArray := prog_8_method_50_code
def yX6_turn : MethodName := ⟨RX6, "turn", "(III)I"⟩
abbrev cX6_crossed : ByteArray := prog_8_method_51_code
def yX6_crossed : MethodName := ⟨RX6, "crossed", "(IIII)I"⟩
abbrev cX6_step : ByteArray := prog_8_method_52_code
def yX6_step : MethodName := ⟨RX6, "step", "(III)Z"⟩
abbrev cX6_stepCell : ByteArray := prog_8_method_53_code
def yX6_stepCell : MethodName := ⟨RX6, "stepCell", "(IIII)Z"⟩
abbrev cX6_spread : ByteArray := prog_8_method_54_code
def yX6_spread : MethodName := ⟨RX6, "spread", "(II)V"⟩
abbrev cX6_apart : ByteArray := prog_8_method_55_code
def yX6_apart : MethodName := ⟨RX6, "apart", "(II)I"⟩
abbrev cX6_end : ByteArray := prog_8_method_56_code
def yX6_end : MethodName := ⟨RX6, "end", "(IZ)I"⟩
abbrev cX6_packed : ByteArray := prog_8_method_57_code
def yX6_packed : MethodName := ⟨RX6, "packed", "(II)J"⟩
abbrev cX6_unpack : ByteArray := prog_8_method_58_code
def yX6_unpack : MethodName := ⟨RX6, "unpack", "(II)V"⟩
abbrev cX6_meet : ByteArray := prog_8_method_59_code
def yX6_meet : MethodName := ⟨RX6, "meet", "(I)Z"⟩
abbrev cX6_meetAll : ByteArray := prog_8_method_60_code
def yX6_meetAll : MethodName := ⟨RX6, "meetAll", "(II)Z"⟩
abbrev cX6_reach : ByteArray := prog_8_method_61_code
def yX6_reach : MethodName := ⟨RX6, "reach", "(I)I"⟩
abbrev cX6_mirror : ByteArray := prog_8_method_62_code
def yX6_mirror : MethodName := ⟨RX6, "mirror", "(I)I"⟩
abbrev cX6_downOf : ByteArray := prog_8_method_63_code
def yX6_downOf : MethodName := ⟨RX6, "downOf", "(II)I"⟩
abbrev cX6_look : ByteArray := prog_8_method_64_code
def yX6_look : MethodName := ⟨RX6, "look", "(I)I"⟩
abbrev cX6_join : ByteArray := prog_8_method_65_code
def yX6_join : MethodName := ⟨RX6, "join", "(I)V"⟩
abbrev cX6_layMost : ByteArray := prog_8_method_66_code
def yX6_layMost : MethodName := ⟨RX6, "layMost", "()V"⟩
abbrev cX6_mostNow : ByteArray := prog_8_method_67_code
def yX6_mostNow : MethodName := ⟨RX6, "mostNow", "()I"⟩
abbrev cX6_most : ByteArray := prog_8_method_68_code
def yX6_most : MethodName := ⟨RX6, "most", "()I"⟩
abbrev cX6_lack : ByteArray := prog_8_method_69_code
def yX6_lack : MethodName := ⟨RX6, "lack", "()I"⟩
abbrev cX6_layBar : ByteArray := prog_8_method_70_code
def yX6_layBar : MethodName := ⟨RX6, "layBar", "()I"⟩
abbrev cX6_bar : ByteArray := prog_8_method_71_code
def yX6_bar : MethodName := ⟨RX6, "bar", "()I"⟩
abbrev cX6_barred : ByteArray := prog_8_method_72_code
def yX6_barred : MethodName := ⟨RX6, "barred", "(I)I"⟩
def RJ6 : String := "java/lang/Integer"
def TJ6 : u_T := fun k => match k with
  | _ => ("", "", "", false)
def tyJ6 : Nat → FieldType := fun k => match k with
  | _ => .int
abbrev wsJ60 : List Cond := u_ws RJ6 TJ6 0
theorem nmJ6 : ∀ a, a < 0 → ∀ b, b < 0 → a ≠ b → (TJ6 a).2.1 ≠ (TJ6 b).2.1 := by decide +kernel
theorem tyJ6_ok : ∀ k, k < 0 → parseFieldDescriptor (TJ6 k).2.2.1 = some (tyJ6 k) := by decide +kernel
abbrev cJ6_bitCount_0f7a4 : ByteArray := prog_9_method_49_code
def yJ6_bitCount_0f7a4 : MethodName := ⟨RJ6, "bitCount", "(I)I"⟩
def RJ13 : String := "java/lang/Long"
def TJ13 : u_T := fun k => match k with
  | _ => ("", "", "", false)
def tyJ13 : Nat → FieldType := fun k => match k with
  | _ => .int
abbrev wsJ130 : List Cond := u_ws RJ13 TJ13 0
theorem nmJ13 : ∀ a, a < 0 → ∀ b, b < 0 → a ≠ b → (TJ13 a).2.1 ≠ (TJ13 b).2.1 := by decide +kernel
theorem tyJ13_ok : ∀ k, k < 0 → parseFieldDescriptor (TJ13 k).2.2.1 = some (tyJ13 k) := by decide +kernel
abbrev cJ13_bitCount_95d88 : ByteArray := prog_10_method_50_code
def yJ13_bitCount_95d88 : MethodName := ⟨RJ13, "bitCount", "(J)I"⟩
def RJ9 : String := "java/lang/Math"
def TJ9 : u_T := fun k => match k with
  | _ => ("", "", "", false)
def tyJ9 : Nat → FieldType := fun k => match k with
  | _ => .int
abbrev wsJ90 : List Cond := u_ws RJ9 TJ9 0
theorem nmJ9 : ∀ a, a < 0 → ∀ b, b < 0 → a ≠ b → (TJ9 a).2.1 ≠ (TJ9 b).2.1 := by decide +kernel
theorem tyJ9_ok : ∀ k, k < 0 → parseFieldDescriptor (TJ9 k).2.2.1 = some (tyJ9 k) := by decide +kernel
abbrev cJ9_abs_0f7a4 : ByteArray := prog_11_method_59_code
def yJ9_abs_0f7a4 : MethodName := ⟨RJ9, "abs", "(I)I"⟩
abbrev cJ9_max_7cf53 : ByteArray := prog_11_method_65_code
def yJ9_max_7cf53 : MethodName := ⟨RJ9, "max", "(II)I"⟩
def RJ7 : String := "java/util/Arrays"
def TJ7 : u_T := fun k => match k with
  | _ => ("", "", "", false)
def tyJ7 : Nat → FieldType := fun k => match k with
  | _ => .int
abbrev wsJ70 : List Cond := u_ws RJ7 TJ7 0
theorem nmJ7 : ∀ a, a < 0 → ∀ b, b < 0 → a ≠ b → (TJ7 a).2.1 ≠ (TJ7 b).2.1 := by decide +kernel
theorem tyJ7_ok : ∀ k, k < 0 → parseFieldDescriptor (TJ7 k).2.2.1 = some (tyJ7 k) := by decide +kernel
abbrev cJ7_fill_53178 : ByteArray := prog_12_method_103_code
def yJ7_fill_53178 : MethodName := ⟨RJ7, "fill", "([II)V"⟩
def RL : String := "LozengeGroundsLaw"
abbrev cL_law : ByteArray := code
def yL_law : MethodName := ⟨RL, "law", "([I)Z"⟩
