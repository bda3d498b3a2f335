/-! ===== the fixed world: places, kinds, state ===== -/
abbrev vwCl : List vw_C := [(RX0, TX0, 3), (RX1, TX1, 7), (RX2, TX2, 4), (RX3, TX3, 8), (RX4, TX4, 5), (RX5, TX5, 10), (RX6, TX6, 21)]
/-- the state: ints by place and index (a field's number, or an element's), longs likewise -/
abbrev St : Type := (Nat → Nat → Int32) × (Nat → Nat → Int64)
def gi (σ : St) (p k : Nat) : Int32 := σ.1 p k
def gl (σ : St) (p k : Nat) : Int64 := σ.2 p k
def si (σ : St) (p k : Nat) (v : Int32) : St := (fun q j => if q = p ∧ j = k then v else σ.1 q j, σ.2)
def sl (σ : St) (p k : Nat) (v : Int64) : St := (σ.1, fun q j => if q = p ∧ j = k then v else σ.2 q j)
/-- kinds of places: 0 to 6 the classes of vwCl, 7 int[], 8 long[], 9 boolean[], 10 the array of layings -/
def kds : List Nat := [5, 1, 3, 0, 4, 2, 2, 2, 2, 2, 2, 2, 2, 2, 10, 7, 7, 7, 7, 7, 8, 8, 7, 7, 7, 8, 6, 9, 7, 9, 7, 8, 8, 7, 7, 9, 8, 8, 7, 7, 7, 7, 9, 7, 7]
def kd (p : Nat) : Nat := kds.getD p 99
def lens : List Nat := [0, 0, 0, 0, 0, 0, 0, 0, 0, 0, 0, 0, 0, 0, 4, 192, 192, 66, 4550, 13650, 4550, 4550, 4550, 256, 64, 65, 0, 128, 192, 4, 256, 16640, 16640, 16640, 81, 81, 2001, 2001, 4096, 64, 64, 64, 64, 64, 64]
def len (p : Nat) : Nat := lens.getD p 0
/-- fields by class: 0 int, 1 long, 2 reference, 3 boolean -/
def ftys : List (List Nat) := [[2, 2, 1], [0, 0, 0, 1, 1, 1, 1], [3, 1, 1, 1], [2, 2, 2, 2, 2, 2, 2, 0], [2, 2, 2, 2, 0], [2, 2, 2, 2, 2, 2, 2, 2, 3, 3], [0, 0, 2, 2, 2, 2, 2, 2, 2, 2, 2, 2, 2, 2, 0, 2, 2, 2, 2, 2, 2]]
def fty (c j : Nat) : Nat := (ftys.getD c []).getD j 99
def nf (c : Nat) : Nat := (ftys.getD c []).length
/-- where the reference fields lead -/
def rfs : List (List Nat) := [[1, 2, 3, 4, 14, 9, 15, 16], [], [17, 18, 19, 20, 21, 22, 23], [13, 25], [10, 11, 12, 24], [], [], [], [], [], [], [], [], [], [], [], [], [], [], [], [], [], [], [], [], [], [0, 0, 27, 28, 29, 30, 31, 32, 33, 34, 35, 36, 37, 38, 0, 39, 40, 41, 42, 43, 44]]
def rf (p j : Nat) : Nat := (rfs.getD p []).getD j 0
/-- where the cells lie, the classes' numbers and slots, the four array classes -/
abbrev Geo : Type := (Nat → Nat) × va_G × (ClassId × ClassId × ClassId × ClassId)
def fv (ad : Nat → Nat) (σ : St) (p c j : Nat) : Value := if fty c j = 1 then .long (gl σ p j) else if fty c j = 2 then .ref (ad (rf p j)) else .int (gi σ p j)
def fvs (ad : Nat → Nat) (σ : St) (p : Nat) : List Value := (List.range (nf (kd p))).map (fv ad σ p (kd p))
def ent (g : Geo) (σ : St) (p : Nat) : va_E :=
  if kd p < 7 then .inr (kd p, fvs g.1 σ p)
  else if kd p = 7 then .inl (g.2.2.1, len p, .inl (σ.1 p))
  else if kd p = 8 then .inl (g.2.2.2.1, len p, .inr (.inl (σ.2 p)))
  else if kd p = 9 then .inl (g.2.2.2.2.1, len p, .inl (σ.1 p))
  else .inl (g.2.2.2.2.2, len p, .inr (.inr (.inr (.inr (fun j => some (g.1 (5 + j)))))))
def wsg (g : Geo) (σ : St) : va_W := (List.range 45).map (fun p => (g.1 p, ent g σ p))
def Aof (g : Geo) : Nat → Prop := fun q => ∃ k, k < 45 ∧ q = g.1 k
def inj (g : Geo) : Prop := ∀ i j, i < 45 → j < 45 → g.1 i = g.1 j → i = j
def tys (g : Geo) : List (ClassId × FieldType) := [(g.2.2.1, .int), (g.2.2.2.1, .long), (g.2.2.2.2.1, .boolean), (g.2.2.2.2.2, .object RX2)]
def primes (j : Nat) : Int32 := ([2, 3, 5, 7, 11, 13] : List Int32).getD j 0
/-- the static row of primes, at place 45: nobody writes it -/
def stat (g : Geo) (U : State) (H : Heap) : Prop := va_Z RX5 "PRIMES" "[I" (.ref (g.1 45)) (Aof g) U H ∧ va_T .int (g.1 45) 6 (fun j => .int (primes j)) (Aof g) U H
theorem kd_lt {p : Nat} (h : kd p < 99) : p < 45 := by
  rcases Nat.lt_or_ge p 45 with h1 | h1
  · exact h1
  · exfalso
    have : kd p = 99 := by
      unfold kd
      rw [List.getD_eq_getElem?_getD, List.getElem?_eq_none (by simpa [kds] using h1)]
      rfl
    omega
theorem wsg_at {g : Geo} {σ : St} {p : Nat} (h : p < 45) : (wsg g σ)[p]? = some (g.1 p, ent g σ p) := by
  unfold wsg
  rw [List.getElem?_map, List.getElem?_range h]
  rfl
theorem wsg_of {g : Geo} {σ : St} {k : Nat} {q : Nat × va_E} (h : (wsg g σ)[k]? = some q) : k < 45 ∧ q = (g.1 k, ent g σ k) := by
  have hk : k < 45 := by
    have := (List.getElem?_eq_some_iff.mp h).1
    simpa [wsg] using this
  rw [wsg_at hk] at h
  exact ⟨hk, (Option.some.inj h).symm⟩
theorem wsg_D {g : Geo} {σ : St} (h : inj g) : va_D (Aof g) (wsg g σ) := by
  refine ⟨fun i j x y hi hj hxy => ?_, fun k q hk => ?_⟩
  · obtain ⟨h1, rfl⟩ := wsg_of hi
    obtain ⟨h2, rfl⟩ := wsg_of hj
    exact h i j h1 h2 hxy
  · obtain ⟨h1, rfl⟩ := wsg_of hk
    exact ⟨k, h1, rfl⟩
theorem wsg_set {g : Geo} {σ σ' : St} {p : Nat} {e : va_E} (hp : p < 45) (he : ent g σ' p = e) (ho : ∀ q, q ≠ p → ent g σ' q = ent g σ q) : (wsg g σ).set p (g.1 p, e) = wsg g σ' := by
  apply List.ext_getElem?
  intro k
  by_cases hk : k = p
  · subst hk
    rw [List.getElem?_set_self (by simpa [wsg] using hp), wsg_at hp, he]
  · rw [List.getElem?_set_ne (Ne.symm hk)]
    by_cases h45 : k < 45
    · rw [wsg_at h45, wsg_at h45, ho k hk]
    · rw [List.getElem?_eq_none (by simpa [wsg] using h45), List.getElem?_eq_none (by simpa [wsg] using h45)]
theorem ent_obj {g : Geo} {σ : St} {p c : Nat} (h : kd p = c) (hc : c < 7) : ent g σ p = .inr (c, fvs g.1 σ p) := by
  unfold ent
  rw [h, if_pos hc]
theorem ent_I {g : Geo} {σ : St} {p : Nat} (h : kd p = 7) : ent g σ p = .inl (g.2.2.1, len p, .inl (σ.1 p)) := by
  unfold ent
  rw [h]
  rfl
theorem ent_J {g : Geo} {σ : St} {p : Nat} (h : kd p = 8) : ent g σ p = .inl (g.2.2.2.1, len p, .inr (.inl (σ.2 p))) := by
  unfold ent
  rw [h]
  rfl
theorem ent_Z {g : Geo} {σ : St} {p : Nat} (h : kd p = 9) : ent g σ p = .inl (g.2.2.2.2.1, len p, .inl (σ.1 p)) := by
  unfold ent
  rw [h]
  rfl
theorem ent_O {g : Geo} {σ : St} {p : Nat} (h : kd p = 10) : ent g σ p = .inl (g.2.2.2.2.2, len p, .inr (.inr (.inr (.inr (fun j => some (g.1 (5 + j))))))) := by
  unfold ent
  rw [h]
  rfl
theorem fvs_at {ad : Nat → Nat} {σ : St} {p c k : Nat} (h : kd p = c) (hk : k < nf c) : (fvs ad σ p)[k]? = some (fv ad σ p c k) := by
  unfold fvs
  rw [h, List.getElem?_map, List.getElem?_range hk]
  rfl
theorem si_other {σ : St} {p k q : Nat} {v : Int32} (h : q ≠ p) : (si σ p k v).1 q = σ.1 q := by
  funext j
  simp [si, h]
theorem sl_other {σ : St} {p k q : Nat} {v : Int64} (h : q ≠ p) : (sl σ p k v).2 q = σ.2 q := by
  funext j
  simp [sl, h]
theorem fvs_si_other {ad : Nat → Nat} {σ : St} {p k q : Nat} {v : Int32} (h : q ≠ p) : fvs ad (si σ p k v) q = fvs ad σ q := by
  unfold fvs
  apply List.map_congr_left
  intro j _
  have e := congrFun (si_other (σ := σ) (k := k) (v := v) h) j
  simp only [fv, gi, gl, e]
  rfl
theorem fvs_sl_other {ad : Nat → Nat} {σ : St} {p k q : Nat} {v : Int64} (h : q ≠ p) : fvs ad (sl σ p k v) q = fvs ad σ q := by
  unfold fvs
  apply List.map_congr_left
  intro j _
  have e := congrFun (sl_other (σ := σ) (k := k) (v := v) h) j
  simp only [fv, gi, gl, e]
  rfl
theorem ent_si {g : Geo} {σ : St} {p k q : Nat} {v : Int32} (h : q ≠ p) : ent g (si σ p k v) q = ent g σ q := by
  unfold ent
  rw [fvs_si_other h, si_other h]
  rfl
theorem ent_sl {g : Geo} {σ : St} {p k q : Nat} {v : Int64} (h : q ≠ p) : ent g (sl σ p k v) q = ent g σ q := by
  unfold ent
  rw [fvs_sl_other h, sl_other h]
  rfl
theorem fvs_si {ad : Nat → Nat} {σ : St} {p c k : Nat} {v : Int32} (h : kd p = c) (hk : k < nf c) (h1 : fty c k ≠ 1) (h2 : fty c k ≠ 2) : (fvs ad σ p).set k (.int v) = fvs ad (si σ p k v) p := by
  apply List.ext_getElem?
  intro j
  have hl : (fvs ad σ p).length = nf c := by simp [fvs, h]
  by_cases hj : j = k
  · subst hj
    rw [List.getElem?_set_self (by omega), fvs_at h hk]
    simp [fv, h1, h2, gi, si]
  · rw [List.getElem?_set_ne (Ne.symm hj)]
    by_cases hn : j < nf c
    · rw [fvs_at h hn, fvs_at h hn]
      simp [fv, gi, gl, si, hj]
    · rw [List.getElem?_eq_none (by omega), List.getElem?_eq_none (by simp [fvs, h]; omega)]
theorem fvs_sl {ad : Nat → Nat} {σ : St} {p c k : Nat} {v : Int64} (h : kd p = c) (hk : k < nf c) (h1 : fty c k = 1) : (fvs ad σ p).set k (.long v) = fvs ad (sl σ p k v) p := by
  apply List.ext_getElem?
  intro j
  have hl : (fvs ad σ p).length = nf c := by simp [fvs, h]
  by_cases hj : j = k
  · subst hj
    rw [List.getElem?_set_self (by omega), fvs_at h hk]
    simp [fv, h1, gl, sl]
  · rw [List.getElem?_set_ne (Ne.symm hj)]
    by_cases hn : j < nf c
    · rw [fvs_at h hn, fvs_at h hn]
      simp [fv, gi, gl, sl, hj]
    · rw [List.getElem?_eq_none (by omega), List.getElem?_eq_none (by simp [fvs, h]; omega)]
theorem upd_si {σ : St} {p k : Nat} {v : Int32} : upd (σ.1 p) k v = (si σ p k v).1 p := by
  funext j
  simp [upd, si]
theorem upd_sl {σ : St} {p k : Nat} {v : Int64} : vp_updL (σ.2 p) k v = (sl σ p k v).2 p := by
  funext j
  simp [vp_updL, sl]
/-! ===== the classes' tables ===== -/
def clN (c : Nat) : String := (vwCl.getD c ("", fun _ => ("", "", "", false), 0)).1
def clT (c : Nat) : u_T := (vwCl.getD c ("", fun _ => ("", "", "", false), 0)).2.1
theorem cl_at {c : Nat} (h : c < 7) : vwCl[c]? = some (clN c, clT c, nf c) := by
  match c, h with
  | 0, _ => rfl
  | 1, _ => rfl
  | 2, _ => rfl
  | 3, _ => rfl
  | 4, _ => rfl
  | 5, _ => rfl
  | 6, _ => rfl
def clY (c : Nat) : Nat → FieldType := ([tyX0, tyX1, tyX2, tyX3, tyX4, tyX5, tyX6] : List (Nat → FieldType)).getD c (fun _ => .int)
theorem cl_ty {c : Nat} (h : c < 7) : ∀ k, k < nf c → parseFieldDescriptor (clT c k).2.2.1 = some (clY c k) := by
  match c, h with
  | 0, _ => exact tyX0_ok
  | 1, _ => exact tyX1_ok
  | 2, _ => exact tyX2_ok
  | 3, _ => exact tyX3_ok
  | 4, _ => exact tyX4_ok
  | 5, _ => exact tyX5_ok
  | 6, _ => exact tyX6_ok
theorem cl_nm {c : Nat} (h : c < 7) : ∀ a, a < nf c → ∀ b, b < nf c → a ≠ b → (clT c a).2.1 ≠ (clT c b).2.1 := by
  match c, h with
  | 0, _ => exact nmX0
  | 1, _ => exact nmX1
  | 2, _ => exact nmX2
  | 3, _ => exact nmX3
  | 4, _ => exact nmX4
  | 5, _ => exact nmX5
  | 6, _ => exact nmX6
/-- the words that a callee may take over: those of the tables that stay -/
def wT : List Cond := lw_tbl.filter goodWord
theorem wT_of {w : Cond} (h : w ∈ lw_tbl ∧ goodWord w = true) : w ∈ wT := List.mem_filter.mpr h
theorem wT_good {w : Cond} (h : w ∈ wT) : (w.onTables && w.keeps) = true ∨ ∃ ty, w = .arrayClass ty := good_of_word (List.mem_filter.mp h).2
set_option maxRecDepth 100000 in
theorem cl_in0 : ∀ w ∈ u_ws RX0 TX0 3, w ∈ lw_tbl ∧ goodWord w = true := by decide +kernel
set_option maxRecDepth 100000 in
theorem cl_in1 : ∀ w ∈ u_ws RX1 TX1 7, w ∈ lw_tbl ∧ goodWord w = true := by decide +kernel
set_option maxRecDepth 100000 in
theorem cl_in2 : ∀ w ∈ u_ws RX2 TX2 4, w ∈ lw_tbl ∧ goodWord w = true := by decide +kernel
set_option maxRecDepth 100000 in
theorem cl_in3 : ∀ w ∈ u_ws RX3 TX3 8, w ∈ lw_tbl ∧ goodWord w = true := by decide +kernel
set_option maxRecDepth 100000 in
theorem cl_in4 : ∀ w ∈ u_ws RX4 TX4 5, w ∈ lw_tbl ∧ goodWord w = true := by decide +kernel
set_option maxRecDepth 100000 in
theorem cl_in5 : ∀ w ∈ u_ws RX5 TX5 10, w ∈ lw_tbl ∧ goodWord w = true := by decide +kernel
set_option maxRecDepth 100000 in
theorem cl_in6 : ∀ w ∈ u_ws RX6 TX6 21, w ∈ lw_tbl ∧ goodWord w = true := by decide +kernel
theorem cl_in {c : Nat} (h : c < 7) : ∀ w ∈ u_ws (clN c) (clT c) (nf c), w ∈ wT := by
  match c, h with
  | 0, _ => exact fun w h => wT_of (cl_in0 w h)
  | 1, _ => exact fun w h => wT_of (cl_in1 w h)
  | 2, _ => exact fun w h => wT_of (cl_in2 w h)
  | 3, _ => exact fun w h => wT_of (cl_in3 w h)
  | 4, _ => exact fun w h => wT_of (cl_in4 w h)
  | 5, _ => exact fun w h => wT_of (cl_in5 w h)
  | 6, _ => exact fun w h => wT_of (cl_in6 w h)
