/-! ===== functions' words: reads and writes that say none where the machine would throw ===== -/
section FW
variable {α β : Type}
def rdI (σ : St) (p : Nat) (i : Int32) (k : Int32 → Option α) : Option α := if i < 0 ∨ len p ≤ i.toNatClampNeg then none else k (gi σ p i.toNatClampNeg)
def rdL (σ : St) (p : Nat) (i : Int32) (k : Int64 → Option α) : Option α := if i < 0 ∨ len p ≤ i.toNatClampNeg then none else k (gl σ p i.toNatClampNeg)
def rdR (i : Int32) (k : Nat → Option α) : Option α := if i < 0 ∨ 4 ≤ i.toNatClampNeg then none else k (5 + i.toNatClampNeg)
def rdP (i : Int32) (k : Int32 → Option α) : Option α := if i < 0 ∨ 6 ≤ i.toNatClampNeg then none else k (primes i.toNatClampNeg)
def wrI (σ : St) (p : Nat) (i v : Int32) (k : St → Option α) : Option α := if i < 0 ∨ len p ≤ i.toNatClampNeg then none else k (si σ p i.toNatClampNeg v)
def wrZ (σ : St) (p : Nat) (i v : Int32) (k : St → Option α) : Option α := if i < 0 ∨ len p ≤ i.toNatClampNeg then none else k (si σ p i.toNatClampNeg (vp_nar .boolean v))
def wrL (σ : St) (p : Nat) (i : Int32) (v : Int64) (k : St → Option α) : Option α := if i < 0 ∨ len p ≤ i.toNatClampNeg then none else k (sl σ p i.toNatClampNeg v)
def dvI (a b : Int32) (k : Int32 → Option α) : Option α := if b = 0 then none else k (a / b)
def rmI (a b : Int32) (k : Int32 → Option α) : Option α := if b = 0 then none else k (jrem a b)
def dvL (a b : Int64) (k : Int64 → Option α) : Option α := if b = 0 then none else k (a / b)
def rmL (a b : Int64) (k : Int64 → Option α) : Option α := if b = 0 then none else k (jlrem a b)
def gz (v : Int32) (k : Option α) : Option α := if v = 0 ∨ v = 1 then k else none
def bd (o : Option (β × St)) (k : β → St → Option α) : Option α := match o with
  | none => none
  | some z => k z.1 z.2
theorem rdI_some {σ : St} {p : Nat} {i : Int32} {k : Int32 → Option α} {z : α} (h : rdI σ p i k = some z) : vp_in i (len p) ∧ k (gi σ p i.toNatClampNeg) = some z := by
  unfold rdI at h
  split at h
  · cases h
  · exact ⟨by assumption, h⟩
theorem rdL_some {σ : St} {p : Nat} {i : Int32} {k : Int64 → Option α} {z : α} (h : rdL σ p i k = some z) : vp_in i (len p) ∧ k (gl σ p i.toNatClampNeg) = some z := by
  unfold rdL at h
  split at h
  · cases h
  · exact ⟨by assumption, h⟩
theorem rdR_some {i : Int32} {k : Nat → Option α} {z : α} (h : rdR i k = some z) : vp_in i 4 ∧ k (5 + i.toNatClampNeg) = some z := by
  unfold rdR at h
  split at h
  · cases h
  · exact ⟨by assumption, h⟩
theorem rdP_some {i : Int32} {k : Int32 → Option α} {z : α} (h : rdP i k = some z) : vp_in i 6 ∧ k (primes i.toNatClampNeg) = some z := by
  unfold rdP at h
  split at h
  · cases h
  · exact ⟨by assumption, h⟩
theorem wrI_some {σ : St} {p : Nat} {i v : Int32} {k : St → Option α} {z : α} (h : wrI σ p i v k = some z) : vp_in i (len p) ∧ k (si σ p i.toNatClampNeg v) = some z := by
  unfold wrI at h
  split at h
  · cases h
  · exact ⟨by assumption, h⟩
theorem wrZ_some {σ : St} {p : Nat} {i v : Int32} {k : St → Option α} {z : α} (h : wrZ σ p i v k = some z) : vp_in i (len p) ∧ k (si σ p i.toNatClampNeg (vp_nar .boolean v)) = some z := by
  unfold wrZ at h
  split at h
  · cases h
  · exact ⟨by assumption, h⟩
theorem wrL_some {σ : St} {p : Nat} {i : Int32} {v : Int64} {k : St → Option α} {z : α} (h : wrL σ p i v k = some z) : vp_in i (len p) ∧ k (sl σ p i.toNatClampNeg v) = some z := by
  unfold wrL at h
  split at h
  · cases h
  · exact ⟨by assumption, h⟩
theorem dvI_some {a b : Int32} {k : Int32 → Option α} {z : α} (h : dvI a b k = some z) : ¬ b = 0 ∧ k (a / b) = some z := by
  unfold dvI at h
  split at h
  · cases h
  · exact ⟨by assumption, h⟩
theorem rmI_some {a b : Int32} {k : Int32 → Option α} {z : α} (h : rmI a b k = some z) : ¬ b = 0 ∧ k (jrem a b) = some z := by
  unfold rmI at h
  split at h
  · cases h
  · exact ⟨by assumption, h⟩
theorem dvL_some {a b : Int64} {k : Int64 → Option α} {z : α} (h : dvL a b k = some z) : ¬ b = 0 ∧ k (a / b) = some z := by
  unfold dvL at h
  split at h
  · cases h
  · exact ⟨by assumption, h⟩
theorem rmL_some {a b : Int64} {k : Int64 → Option α} {z : α} (h : rmL a b k = some z) : ¬ b = 0 ∧ k (jlrem a b) = some z := by
  unfold rmL at h
  split at h
  · cases h
  · exact ⟨by assumption, h⟩
theorem gz_some {v : Int32} {k : Option α} {z : α} (h : gz v k = some z) : (v = 0 ∨ v = 1) ∧ k = some z := by
  unfold gz at h
  split at h
  · exact ⟨by assumption, h⟩
  · cases h
theorem bd_some {o : Option (β × St)} {k : β → St → Option α} {z : α} (h : bd o k = some z) : ∃ (r : β) (σ : St), o = some (r, σ) ∧ k r σ = some z := by
  unfold bd at h
  split at h
  · cases h
  · next q => exact ⟨q.1, q.2, rfl, h⟩
end FW
theorem kd_slot {i : Int32} (h : vp_in i 4) : kd (5 + i.toNatClampNeg) = 2 := by
  have hlt : i.toNatClampNeg < 4 := Nat.not_le.mp fun q => h (Or.inr q)
  match i.toNatClampNeg, hlt with
  | 0, _ => rfl
  | 1, _ => rfl
  | 2, _ => rfl
  | 3, _ => rfl
theorem nar_z {v : Int32} (h : v = 0 ∨ v = 1) : narrow .boolean (.int v) = .int v := by
  rcases h with rfl | rfl <;> decide
theorem fit_z {v : Int32} (h : v = 0 ∨ v = 1) : fits .boolean (.int v) = true := by
  rcases h with rfl | rfl <;> decide
/-! ===== rows of fields, arrays, calls, ends ===== -/
/-- a field's link: from class own, pool entry idx is field k of class c, of type t -/
def FL (own : String) (idx c k t : Nat) : Prop := Cond.fieldLink own idx (clT c k).1 (clT c k).2.1 (clT c k).2.2.1 ∈ wT ∧ c < 7 ∧ k < nf c ∧ fty c k = t
/-- a field that may be written: not final, its type -/
def FW (c k : Nat) (ty : FieldType) : Prop := (clT c k).2.2.2 = false ∧ parseFieldDescriptor (clT c k).2.2.1 = some ty
def KM (y : MethodName) (cc : ByteArray) (nL : Nat) (ret : Option FieldType) (n : Nat) : Prop := Cond.code y cc nL ret ∈ wT ∧ Cond.initialized y.cls ∈ wT ∧ y.cls ≠ "java/lang/invoke/MethodHandle" ∧ y.cls ≠ "java/lang/invoke/VarHandle" ∧ (parseMethodDescriptor y.desc).map (fun d => d.parameters.length) = some n
def KV (y : MethodName) (c : Nat) : Prop := Cond.instanceMethod y ∈ wT ∧ Cond.selects (clN c) y y ∈ wT ∧ c < 7
section VW
variable {g : Geo} {x : Cx} {Q : State → Prop} {nL : Nat} {σ : St} {lv : List (Nat × Value)} {st : List Value} {pc : Nat} {cc : ByteArray} {own : String} {ret : Option FieldType} {rm : Room}
theorem v_lcmp_eq (C : Ok g x cc own nL ret rm) {a b : Int64} {off : Int} {tgt : Nat} (hd0 : decode cc pc = .ok (.lcmp, 1)) (hd : decode cc (pc + 1) = .ok (.ifCond .eq off, 3)) (ht : ((pc + 1 : Nat) : Int) + off = (tgt : Int)) (kt : a = b → V g x Q nL σ lv st tgt) (kf : ¬ a = b → V g x Q nL σ lv st (pc + 1 + 3)) : V g x Q nL σ lv (.long b :: .long a :: st) pc :=
  fun H locs ls hP hS hl => W.lcmp C.1 C.2.1 hd0 (lv_if_eq C.1 C.2.1 hd ht (fun h => kt ((lg_cmp_eq a b).mp h) H locs ls hP hS hl) (fun h => kf (fun z => h ((lg_cmp_eq a b).mpr z)) H locs ls hP hS hl))
theorem v_lcmp_ne (C : Ok g x cc own nL ret rm) {a b : Int64} {off : Int} {tgt : Nat} (hd0 : decode cc pc = .ok (.lcmp, 1)) (hd : decode cc (pc + 1) = .ok (.ifCond .ne off, 3)) (ht : ((pc + 1 : Nat) : Int) + off = (tgt : Int)) (kt : ¬ a = b → V g x Q nL σ lv st tgt) (kf : a = b → V g x Q nL σ lv st (pc + 1 + 3)) : V g x Q nL σ lv (.long b :: .long a :: st) pc :=
  fun H locs ls hP hS hl => W.lcmp C.1 C.2.1 hd0 (lv_if_ne C.1 C.2.1 hd ht (fun h => kt (fun z => h ((lg_cmp_eq a b).mpr z)) H locs ls hP hS hl) (fun h => kf ((lg_cmp_eq a b).mp h) H locs ls hP hS hl))
theorem v_lcmp_lt (C : Ok g x cc own nL ret rm) {a b : Int64} {off : Int} {tgt : Nat} (hd0 : decode cc pc = .ok (.lcmp, 1)) (hd : decode cc (pc + 1) = .ok (.ifCond .lt off, 3)) (ht : ((pc + 1 : Nat) : Int) + off = (tgt : Int)) (kt : a < b → V g x Q nL σ lv st tgt) (kf : ¬ a < b → V g x Q nL σ lv st (pc + 1 + 3)) : V g x Q nL σ lv (.long b :: .long a :: st) pc :=
  fun H locs ls hP hS hl => W.lcmp C.1 C.2.1 hd0 (lv_if_lt C.1 C.2.1 hd ht (fun h => kt ((lg_cmp_lt a b).mp h) H locs ls hP hS hl) (fun h => kf (fun z => h ((lg_cmp_lt a b).mpr z)) H locs ls hP hS hl))
theorem v_lcmp_ge (C : Ok g x cc own nL ret rm) {a b : Int64} {off : Int} {tgt : Nat} (hd0 : decode cc pc = .ok (.lcmp, 1)) (hd : decode cc (pc + 1) = .ok (.ifCond .ge off, 3)) (ht : ((pc + 1 : Nat) : Int) + off = (tgt : Int)) (kt : b ≤ a → V g x Q nL σ lv st tgt) (kf : ¬ b ≤ a → V g x Q nL σ lv st (pc + 1 + 3)) : V g x Q nL σ lv (.long b :: .long a :: st) pc :=
  fun H locs ls hP hS hl => W.lcmp C.1 C.2.1 hd0 (lv_if_ge C.1 C.2.1 hd ht (fun h => kt ((lg_cmp_ge a b).mp h) H locs ls hP hS hl) (fun h => kf (fun z => h ((lg_cmp_ge a b).mpr z)) H locs ls hP hS hl))
theorem v_lcmp_gt (C : Ok g x cc own nL ret rm) {a b : Int64} {off : Int} {tgt : Nat} (hd0 : decode cc pc = .ok (.lcmp, 1)) (hd : decode cc (pc + 1) = .ok (.ifCond .gt off, 3)) (ht : ((pc + 1 : Nat) : Int) + off = (tgt : Int)) (kt : b < a → V g x Q nL σ lv st tgt) (kf : ¬ b < a → V g x Q nL σ lv st (pc + 1 + 3)) : V g x Q nL σ lv (.long b :: .long a :: st) pc :=
  fun H locs ls hP hS hl => W.lcmp C.1 C.2.1 hd0 (lv_if_gt C.1 C.2.1 hd ht (fun h => kt ((lg_cmp_gt a b).mp h) H locs ls hP hS hl) (fun h => kf (fun z => h ((lg_cmp_gt a b).mpr z)) H locs ls hP hS hl))
theorem v_lcmp_le (C : Ok g x cc own nL ret rm) {a b : Int64} {off : Int} {tgt : Nat} (hd0 : decode cc pc = .ok (.lcmp, 1)) (hd : decode cc (pc + 1) = .ok (.ifCond .le off, 3)) (ht : ((pc + 1 : Nat) : Int) + off = (tgt : Int)) (kt : a ≤ b → V g x Q nL σ lv st tgt) (kf : ¬ a ≤ b → V g x Q nL σ lv st (pc + 1 + 3)) : V g x Q nL σ lv (.long b :: .long a :: st) pc :=
  fun H locs ls hP hS hl => W.lcmp C.1 C.2.1 hd0 (lv_if_le C.1 C.2.1 hd ht (fun h => kt ((lg_cmp_le a b).mp h) H locs ls hP hS hl) (fun h => kf (fun z => h ((lg_cmp_le a b).mpr z)) H locs ls hP hS hl))
theorem v_get (C : Ok g x cc own nL ret rm) {idx p c k t : Nat} (hf : FL own idx c k t) (hk : kd p = c) (hd : decode cc pc = .ok (.getfield idx, 3)) (kk : V g x Q nL σ lv (fv g.1 σ p c k :: st) (pc + 3)) : V g x Q nL σ lv (.ref (g.1 p) :: st) pc := by
  intro H locs ls hP hS hl
  obtain ⟨hx, hb, -, hown, hts, hK, -⟩ := C
  obtain ⟨f1, f2, f3, f4⟩ := hf
  have hp : p < 45 := kd_lt (by omega)
  exact va_get (ref := (clT c k).1) hx hb hts (cl_in f2) hown hK hP p (by rw [wsg_at hp, ent_obj hk f2]) (cl_at f2) k f3 (hts _ f1) (fun _ h => h) (fvs_at hk f3) hd (kk H locs ls hP hS hl)
theorem v_getI (C : Ok g x cc own nL ret rm) {idx p c k : Nat} (hf : FL own idx c k 0) (hk : kd p = c) (hd : decode cc pc = .ok (.getfield idx, 3)) (kk : V g x Q nL σ lv (.int (gi σ p k) :: st) (pc + 3)) : V g x Q nL σ lv (.ref (g.1 p) :: st) pc :=
  v_get C hf hk hd (by have e : fv g.1 σ p c k = .int (gi σ p k) := by simp [fv, hf.2.2.2]
                       rw [e]; exact kk)
theorem v_getZ (C : Ok g x cc own nL ret rm) {idx p c k : Nat} (hf : FL own idx c k 3) (hk : kd p = c) (hd : decode cc pc = .ok (.getfield idx, 3)) (kk : V g x Q nL σ lv (.int (gi σ p k) :: st) (pc + 3)) : V g x Q nL σ lv (.ref (g.1 p) :: st) pc :=
  v_get C hf hk hd (by have e : fv g.1 σ p c k = .int (gi σ p k) := by simp [fv, hf.2.2.2]
                       rw [e]; exact kk)
theorem v_getL (C : Ok g x cc own nL ret rm) {idx p c k : Nat} (hf : FL own idx c k 1) (hk : kd p = c) (hd : decode cc pc = .ok (.getfield idx, 3)) (kk : V g x Q nL σ lv (.long (gl σ p k) :: st) (pc + 3)) : V g x Q nL σ lv (.ref (g.1 p) :: st) pc :=
  v_get C hf hk hd (by have e : fv g.1 σ p c k = .long (gl σ p k) := by simp [fv, hf.2.2.2]
                       rw [e]; exact kk)
theorem v_getR (C : Ok g x cc own nL ret rm) {idx p c k p' : Nat} (hf : FL own idx c k 2) (hk : kd p = c) (hr : rf p k = p') (hd : decode cc pc = .ok (.getfield idx, 3)) (kk : V g x Q nL σ lv (.ref (g.1 p') :: st) (pc + 3)) : V g x Q nL σ lv (.ref (g.1 p) :: st) pc :=
  v_get C hf hk hd (by have e : fv g.1 σ p c k = .ref (g.1 p') := by simp [fv, hf.2.2.2, hr]
                       rw [e]; exact kk)
theorem v_putI (C : Ok g x cc own nL ret rm) {idx p c k : Nat} {v : Int32} (hf : FL own idx c k 0) (hw : FW c k .int) (hk : kd p = c) (hd : decode cc pc = .ok (.putfield idx, 3)) (kk : V g x Q nL (si σ p k v) lv st (pc + 3)) : V g x Q nL σ lv (.int v :: .ref (g.1 p) :: st) pc := by
  intro H locs ls hP hS hl
  obtain ⟨hx, hb, -, hown, hts, hK, hi, -⟩ := C
  obtain ⟨f1, f2, f3, f4⟩ := hf
  have hp : p < 45 := kd_lt (by omega)
  refine va_put (ref := (clT c k).1) (ty := .int) hx hb hts (cl_in f2) (clY c) (cl_ty f2) (cl_nm f2) hown hK hP (wsg_D hi) hS p (fs := fvs g.1 σ p) (by rw [wsg_at hp, ent_obj hk f2]) (cl_at f2) k f3 (hts _ f1) (fun _ h => h) hw.1 hw.2 rfl rfl (by simp [fvs, hk, f3]) hd (fun H1 locs1 hP1 hD1 hS1 => ?_)
  rw [wsg_set (σ' := si σ p k v) hp (by rw [ent_obj hk f2, fvs_si hk f3 (by omega) (by omega)]) (fun q hq => ent_si hq)] at hP1
  exact kk H1 locs1 ls hP1 hS1 hl
theorem v_putZ (C : Ok g x cc own nL ret rm) {idx p c k : Nat} {v : Int32} (hf : FL own idx c k 3) (hw : FW c k .boolean) (hk : kd p = c) (hv : v = 0 ∨ v = 1) (hd : decode cc pc = .ok (.putfield idx, 3)) (kk : V g x Q nL (si σ p k v) lv st (pc + 3)) : V g x Q nL σ lv (.int v :: .ref (g.1 p) :: st) pc := by
  intro H locs ls hP hS hl
  obtain ⟨hx, hb, -, hown, hts, hK, hi, -⟩ := C
  obtain ⟨f1, f2, f3, f4⟩ := hf
  have hp : p < 45 := kd_lt (by omega)
  refine va_put (ref := (clT c k).1) (ty := .boolean) hx hb hts (cl_in f2) (clY c) (cl_ty f2) (cl_nm f2) hown hK hP (wsg_D hi) hS p (fs := fvs g.1 σ p) (by rw [wsg_at hp, ent_obj hk f2]) (cl_at f2) k f3 (hts _ f1) (fun _ h => h) hw.1 hw.2 (nar_z hv) (fit_z hv) (by simp [fvs, hk, f3]) hd (fun H1 locs1 hP1 hD1 hS1 => ?_)
  rw [wsg_set (σ' := si σ p k v) hp (by rw [ent_obj hk f2, fvs_si hk f3 (by omega) (by omega)]) (fun q hq => ent_si hq)] at hP1
  exact kk H1 locs1 ls hP1 hS1 hl
theorem v_putL (C : Ok g x cc own nL ret rm) {idx p c k : Nat} {v : Int64} (hf : FL own idx c k 1) (hw : FW c k .long) (hk : kd p = c) (hd : decode cc pc = .ok (.putfield idx, 3)) (kk : V g x Q nL (sl σ p k v) lv st (pc + 3)) : V g x Q nL σ lv (.long v :: .ref (g.1 p) :: st) pc := by
  intro H locs ls hP hS hl
  obtain ⟨hx, hb, -, hown, hts, hK, hi, -⟩ := C
  obtain ⟨f1, f2, f3, f4⟩ := hf
  have hp : p < 45 := kd_lt (by omega)
  refine va_put (ref := (clT c k).1) (ty := .long) hx hb hts (cl_in f2) (clY c) (cl_ty f2) (cl_nm f2) hown hK hP (wsg_D hi) hS p (fs := fvs g.1 σ p) (by rw [wsg_at hp, ent_obj hk f2]) (cl_at f2) k f3 (hts _ f1) (fun _ h => h) hw.1 hw.2 rfl rfl (by simp [fvs, hk, f3]) hd (fun H1 locs1 hP1 hD1 hS1 => ?_)
  rw [wsg_set (σ' := sl σ p k v) hp (by rw [ent_obj hk f2, fvs_sl hk f3 f4]) (fun q hq => ent_sl hq)] at hP1
  exact kk H1 locs1 ls hP1 hS1 hl
theorem v_iald (C : Ok g x cc own nL ret rm) {p : Nat} {i : Int32} (hk : kd p = 7) (hin : vp_in i (len p)) (hd : decode cc pc = .ok (.iaload, 1)) (kk : V g x Q nL σ lv (.int (gi σ p i.toNatClampNeg) :: st) (pc + 1)) : V g x Q nL σ lv (.int i :: .ref (g.1 p) :: st) pc := by
  intro H locs ls hP hS hl
  have hp : p < 45 := kd_lt (by omega)
  exact va_iald C.1 C.2.1 C.2.2.2.2.2.1 hP p 0 (f := σ.1 p) (by rw [wsg_at hp, ent_I hk]) rfl hin hd (kk H locs ls hP hS hl)
theorem v_zald (C : Ok g x cc own nL ret rm) {p : Nat} {i : Int32} (hk : kd p = 9) (hin : vp_in i (len p)) (hd : decode cc pc = .ok (.baload, 1)) (kk : V g x Q nL σ lv (.int (gi σ p i.toNatClampNeg) :: st) (pc + 1)) : V g x Q nL σ lv (.int i :: .ref (g.1 p) :: st) pc := by
  intro H locs ls hP hS hl
  have hp : p < 45 := kd_lt (by omega)
  exact va_zald C.1 C.2.1 C.2.2.2.2.2.1 hP p 2 (f := σ.1 p) (by rw [wsg_at hp, ent_Z hk]) rfl hin hd (kk H locs ls hP hS hl)
theorem v_lald (C : Ok g x cc own nL ret rm) {p : Nat} {i : Int32} (hk : kd p = 8) (hin : vp_in i (len p)) (hd : decode cc pc = .ok (.laload, 1)) (kk : V g x Q nL σ lv (.long (gl σ p i.toNatClampNeg) :: st) (pc + 1)) : V g x Q nL σ lv (.int i :: .ref (g.1 p) :: st) pc := by
  intro H locs ls hP hS hl
  have hp : p < 45 := kd_lt (by omega)
  exact va_lald C.1 C.2.1 C.2.2.2.2.2.1 hP p 1 (f := σ.2 p) (by rw [wsg_at hp, ent_J hk]) rfl hin hd (kk H locs ls hP hS hl)
theorem v_aald (C : Ok g x cc own nL ret rm) {i : Int32} (hin : vp_in i 4) (hd : decode cc pc = .ok (.aaload, 1)) (kk : V g x Q nL σ lv (.ref (g.1 (5 + i.toNatClampNeg)) :: st) (pc + 1)) : V g x Q nL σ lv (.int i :: .ref (g.1 14) :: st) pc := by
  intro H locs ls hP hS hl
  exact va_aldq C.1 C.2.1 C.2.2.2.2.2.1 hP 14 3 (C := RX2) (n := 4) (f := fun j => some (g.1 (5 + j))) (by rw [wsg_at (by decide), ent_O rfl]; rfl) rfl hin hd (kk H locs ls hP hS hl)
theorem v_iast (C : Ok g x cc own nL ret rm) {p : Nat} {i v : Int32} (hk : kd p = 7) (hin : vp_in i (len p)) (hd : decode cc pc = .ok (.iastore, 1)) (kk : V g x Q nL (si σ p i.toNatClampNeg v) lv st (pc + 1)) : V g x Q nL σ lv (.int v :: .int i :: .ref (g.1 p) :: st) pc := by
  intro H locs ls hP hS hl
  obtain ⟨hx, hb, -, hown, hts, hK, hi, -⟩ := C
  have hp : p < 45 := kd_lt (by omega)
  refine va_iast hx hb hK hP (wsg_D hi) hS p 0 (by rw [wsg_at hp, ent_I hk]) rfl hin hd (fun H1 locs1 hP1 hD1 hS1 => ?_)
  rw [wsg_set (σ' := si σ p i.toNatClampNeg v) hp (by rw [ent_I hk, upd_si]) (fun q hq => ent_si hq)] at hP1
  exact kk H1 locs1 ls hP1 hS1 hl
theorem v_zast (C : Ok g x cc own nL ret rm) {p : Nat} {i v : Int32} (hk : kd p = 9) (hin : vp_in i (len p)) (hd : decode cc pc = .ok (.bastore, 1)) (kk : V g x Q nL (si σ p i.toNatClampNeg (vp_nar .boolean v)) lv st (pc + 1)) : V g x Q nL σ lv (.int v :: .int i :: .ref (g.1 p) :: st) pc := by
  intro H locs ls hP hS hl
  obtain ⟨hx, hb, -, hown, hts, hK, hi, -⟩ := C
  have hp : p < 45 := kd_lt (by omega)
  refine va_zast hx hb hK hP (wsg_D hi) hS p 2 (by rw [wsg_at hp, ent_Z hk]) rfl hin hd (fun H1 locs1 hP1 hD1 hS1 => ?_)
  rw [wsg_set (σ' := si σ p i.toNatClampNeg (vp_nar .boolean v)) hp (by rw [ent_Z hk, upd_si]) (fun q hq => ent_si hq)] at hP1
  exact kk H1 locs1 ls hP1 hS1 hl
theorem v_last (C : Ok g x cc own nL ret rm) {p : Nat} {i : Int32} {v : Int64} (hk : kd p = 8) (hin : vp_in i (len p)) (hd : decode cc pc = .ok (.lastore, 1)) (kk : V g x Q nL (sl σ p i.toNatClampNeg v) lv st (pc + 1)) : V g x Q nL σ lv (.long v :: .int i :: .ref (g.1 p) :: st) pc := by
  intro H locs ls hP hS hl
  obtain ⟨hx, hb, -, hown, hts, hK, hi, -⟩ := C
  have hp : p < 45 := kd_lt (by omega)
  refine va_last hx hb hK hP (wsg_D hi) hS p 1 (by rw [wsg_at hp, ent_J hk]) rfl hin hd (fun H1 locs1 hP1 hD1 hS1 => ?_)
  rw [wsg_set (σ' := sl σ p i.toNatClampNeg v) hp (by rw [ent_J hk, upd_sl]) (fun q hq => ent_sl hq)] at hP1
  exact kk H1 locs1 ls hP1 hS1 hl
theorem v_alenI (C : Ok g x cc own nL ret rm) {p : Nat} {v : Int32} (hk : kd p = 7) (hv : Int32.ofNat (len p) = v) (hd : decode cc pc = .ok (.arraylength, 1)) (kk : V g x Q nL σ lv (.int v :: st) (pc + 1)) : V g x Q nL σ lv (.ref (g.1 p) :: st) pc := by
  intro H locs ls hP hS hl
  have hp : p < 45 := kd_lt (by omega)
  exact va_alen C.1 C.2.1 C.2.2.2.2.2.1 hP p 0 (x := (len p, .inl (σ.1 p))) (by rw [wsg_at hp, ent_I hk]) (ty := .int) rfl hv hd (kk H locs ls hP hS hl)
theorem v_primes (C : Ok g x cc own nL ret rm) {idx : Nat} (hl0 : Cond.fieldLink own idx RX5 "PRIMES" "[I" ∈ wT) (hd : decode cc pc = .ok (.getstatic idx, 3)) (kk : V g x Q nL σ lv (.ref (g.1 45) :: st) (pc + 3)) : V g x Q nL σ lv st pc := by
  intro H locs ls hP hS hl
  obtain ⟨hx, hb, -, hown, hts, hK, hi, hs, -⟩ := C
  exact va_gets hx hb hs.1 hS hown (hts _ hl0) (fun _ h => h) hd (kk H locs ls hP hS hl)
theorem v_plen (C : Ok g x cc own nL ret rm) (hd : decode cc pc = .ok (.arraylength, 1)) (kk : V g x Q nL σ lv (.int 6 :: st) (pc + 1)) : V g x Q nL σ lv (.ref (g.1 45) :: st) pc := by
  intro H locs ls hP hS hl
  obtain ⟨hx, hb, -, hown, hts, hK, hi, hs, -⟩ := C
  exact va_tlen hx hb hs.2 hS (v := 6) (by decide) hd (kk H locs ls hP hS hl)
theorem v_pld (C : Ok g x cc own nL ret rm) {i : Int32} (hin : vp_in i 6) (hd : decode cc pc = .ok (.iaload, 1)) (kk : V g x Q nL σ lv (.int (primes i.toNatClampNeg) :: st) (pc + 1)) : V g x Q nL σ lv (.int i :: .ref (g.1 45) :: st) pc := by
  intro H locs ls hP hS hl
  obtain ⟨hx, hb, -, hown, hts, hK, hi, hs, -⟩ := C
  exact va_ti hx hb hs.2 hS hin rfl hd (kk H locs ls hP hS hl)
/-- behind a call -/
theorem v_back (C : Ok g x cc own nL ret rm) {H : Heap} {locs : List Loc} {ls : Array Slot} {stk : List Value} {r : Option Value} {σ1 : St} {a : Array Value} (hl : lv_has ls nL lv) (hS : va_S (Aof g) (Cx.s x).heap H locs)
    (hr : va_Run (Cx.p x) (Cx.l x) (Cx.e x) (Cx.R x) (Cx.s x) (Cx.m x) (Cx.args x) (Cx.below x) (Cx.meth x) (Cx.c x) H locs (Cx.cells x) (Cx.slots x) 0 0 (F0 (Cx.m x) pc ls stk) st (Qc0 g r σ1 a) (Aof g))
    (kk : V g x Q nL σ1 lv (r.toList ++ st) (pc + 3)) : WX x Q H locs (F0 (Cx.m x) pc ls stk) := by
  intro T hT X
  obtain ⟨v, st₀, t, T', L, h0, X', hL, e1, e2, ⟨hv, hP1, hz, hk⟩, stp⟩ := hr T hT X
  cases hv
  rw [h0] at hz hk
  obtain ⟨t2, a1, b1⟩ := kk T'.heap (locs ++ L) ls (by rw [e1]; exact hP1)
    ⟨Nat.le_trans hS.1 (by rw [e1]; exact hz), fun q h1 h2 => by rw [e1, hk q (Nat.lt_of_lt_of_le h1 hS.1) h2]; exact hS.2.1 q h1 h2, fun q hq => by
      rcases List.mem_append.mp hq with h | h
      · exact hS.2.2 q h
      · exact hL q h⟩ hl T' rfl X'
  exact ⟨t2, stp t2 a1, b1⟩
theorem goodIn_wT {y : MethodName} {cc' : ByteArray} {nL' : Nat} {ret' : Option FieldType} (h : Cond.code y cc' nL' ret' ∈ wT) : GoodIn wT (.code y cc' nL' ret' :: wT) := by
  intro w hw
  rcases List.mem_cons.mp hw with rfl | hw
  · exact ⟨h, wT_good h⟩
  · exact ⟨hw, wT_good hw⟩
theorem v_callV (C : Ok g x cc own nL ret rm) {y : MethodName} {cc' : ByteArray} {nL' n idx p c : Nat} {ret' : Option FieldType} {rm' : Room} {As stk : List Value} {r : Option Value} {σ1 : St} (hct : Ct g y cc' nL' ret' rm' (.ref (g.1 p) :: As) σ r σ1)
    (hm : KM y cc' nL' ret' n) (hv : KV y c) (hk : kd p = c) (hl0 : Cond.methodLink own idx y ∈ wT) (hn : As.length = n) (hstk : stk = As.reverse ++ .ref (g.1 p) :: st) (hrm : (rm'.cells = 0 ∧ rm'.slots = 0) ∧ rm'.frames + 1 ≤ rm.frames ∧ 8 + (nL' + 11) + rm'.locals ≤ rm.locals) (hW : (st.map fun v => v.category).sum ≤ 8)
    (hd : decode cc pc = .ok (.invokevirtual idx, 3)) (kk : V g x Q nL σ1 lv (r.toList ++ st) (pc + 3)) : V g x Q nL σ lv stk pc := by
  intro H locs ls hP hS hl
  obtain ⟨hx, hb, hml, hown, hts, hK, hi, hs, hlk, hrt, hR, hc1, hc2⟩ := id C
  obtain ⟨m1, m2, m3, m4, m5⟩ := hm
  obtain ⟨v1, v2, v3⟩ := hv
  have hp : p < 45 := kd_lt (by omega)
  have cw : CallW (Cx.R x) (Cx.s x) (Cx.args x) own (clN c) idx y cc' nL' ret' (.code y cc' nL' ret' :: wT) rm' 0 0 n :=
    ⟨callB_of n hts (goodIn_wT m1) rfl hrm.1.1 hrm.1.2 (hts _ m2) (hts _ hl0) ⟨m3, m4, m5⟩ (by rw [hR]; exact hrm.2), hts _ v1, hts _ v2⟩
  refine v_back C hl hS (va_runV (As := As) (rest := st) ⟨hx, hb, hml, hown, hts⟩ (hct (Cx.l x)) cw ⟨pc0_blind _ _ _, va_recv hK hP (q := (clN c, clT c, nf c)) (cl_at v3) (by rw [wsg_at hp, ent_obj hk v3]), pc0_at C hP hS _⟩ rfl hn hl.1 hstk (lv_room (m := Cx.m x) (pc := pc) (ls := ls) (rest := stk) hW) hd ⟨?_, ?_⟩) kk
  · rw [hR]; exact hc1
  · rw [hR]; exact hc2
theorem v_callS (C : Ok g x cc own nL ret rm) {y : MethodName} {cc' : ByteArray} {nL' n idx : Nat} {ret' : Option FieldType} {rm' : Room} {As stk : List Value} {r : Option Value} {σ1 : St} (hct : Ct g y cc' nL' ret' rm' As σ r σ1)
    (hm : KM y cc' nL' ret' n) (hv : Cond.static y ∈ wT) (hl0 : Cond.methodLink own idx y ∈ wT) (hn : As.length = n) (hstk : stk = As.reverse ++ st) (hrm : (rm'.cells = 0 ∧ rm'.slots = 0) ∧ rm'.frames + 1 ≤ rm.frames ∧ 8 + (nL' + 11) + rm'.locals ≤ rm.locals) (hW : (st.map fun v => v.category).sum ≤ 8)
    (hd : decode cc pc = .ok (.invokestatic idx, 3)) (kk : V g x Q nL σ1 lv (r.toList ++ st) (pc + 3)) : V g x Q nL σ lv stk pc := by
  intro H locs ls hP hS hl
  obtain ⟨hx, hb, hml, hown, hts, hK, hi, hs, hlk, hrt, hR, hc1, hc2⟩ := id C
  obtain ⟨m1, m2, m3, m4, m5⟩ := hm
  have cw : CallB (Cx.R x) (Cx.s x) (Cx.args x) own idx y cc' nL' ret' (.code y cc' nL' ret' :: wT) rm' 0 0 n ∧ (Cond.static y).before (Cx.args x) (Cx.s x) = true :=
    ⟨callB_of n hts (goodIn_wT m1) rfl hrm.1.1 hrm.1.2 (hts _ m2) (hts _ hl0) ⟨m3, m4, m5⟩ (by rw [hR]; exact hrm.2), hts _ hv⟩
  refine v_back C hl hS (va_runS (As := As) (rest := st) ⟨hx, hb, hml, hown, hts⟩ (hct (Cx.l x)) cw ⟨pc0_blind _ _ _, pc0_at C hP hS _⟩ rfl hn hl.1 hstk (lv_room (m := Cx.m x) (pc := pc) (ls := ls) (rest := stk) hW) hd ⟨?_, ?_⟩) kk
  · rw [hR]; exact hc1
  · rw [hR]; exact hc2
theorem v_end {H : Heap} {locs : List Loc} (hP : va_P g.2.1 vwCl (wsg g σ) H) (hS : va_S (Aof g) (Cx.s x).heap H locs) (r : Option Value) : ∀ t : State, t.heap = H → (Cx.s x).WarmedH t.vm → Qc0 g r σ (Cx.args x) (Cx.s x) (.returned r) t :=
  fun t ht _ => ⟨rfl, by rw [ht]; exact hP, hS.F ht⟩
theorem v_iret (C : Ok g x cc own nL (some .int) rm) {v : Int32} (hd : decode cc pc = .ok (.ireturn, 1)) : V g x (qm g x (some (.int v)) σ) nL σ lv [.int v] pc := by
  intro H locs ls hP hS hl
  obtain ⟨hx, hb, hml, hown, hts, hK, hi, hs, hlk, hrt, hR, hc1, hc2⟩ := C
  exact W.iret hx hb hrt (v_end hP hS _) hS.2.2 hd hlk
theorem v_zret (C : Ok g x cc own nL (some .boolean) rm) {v : Int32} (hv : v = 0 ∨ v = 1) (hd : decode cc pc = .ok (.ireturn, 1)) : V g x (qm g x (some (.int v)) σ) nL σ lv [.int v] pc := by
  intro H locs ls hP hS hl
  obtain ⟨hx, hb, hml, hown, hts, hK, hi, hs, hlk, hrt, hR, hc1, hc2⟩ := C
  exact W.zret hx hb hrt (nar_z hv) (v_end hP hS _) hS.2.2 hd hlk
theorem v_lret (C : Ok g x cc own nL (some .long) rm) {v : Int64} (hd : decode cc pc = .ok (.lreturn, 1)) : V g x (qm g x (some (.long v)) σ) nL σ lv [.long v] pc := by
  intro H locs ls hP hS hl
  obtain ⟨hx, hb, hml, hown, hts, hK, hi, hs, hlk, hrt, hR, hc1, hc2⟩ := C
  exact W.lret hx hb hrt (v_end hP hS _) hS.2.2 hd hlk
theorem v_vret (C : Ok g x cc own nL none rm) (hd : decode cc pc = .ok (.return_, 1)) : V g x (qm g x none σ) nL σ lv [] pc := by
  intro H locs ls hP hS hl
  obtain ⟨hx, hb, hml, hown, hts, hK, hi, hs, hlk, hrt, hR, hc1, hc2⟩ := C
  exact W.vret hx hb hrt (v_end hP hS _) hS.2.2 hd hlk
end VW
