/-! ===== Math.max, Math.abs: the kit's own rows ===== -/
def jmax (a b : Int32) : Int32 := if a < b then b else a
def jabs (a : Int32) : Int32 := if 0 ≤ a then a else 0 - a
def KX (own : String) (idx : Nat) : Prop := Cond.methodLink own idx Lib.Math.max.name ∈ wT ∧ Cond.static Lib.Math.max.name ∈ wT ∧ Cond.initialized "java/lang/Math" ∈ wT ∧ Cond.code Lib.Math.max.name Lib.Math.max.code 2 (some .int) ∈ wT
def KA (own : String) (idx : Nat) : Prop := Cond.methodLink own idx Lib.Math.abs.name ∈ wT ∧ Cond.static Lib.Math.abs.name ∈ wT ∧ Cond.initialized "java/lang/Math" ∈ wT ∧ Cond.code Lib.Math.abs.name Lib.Math.abs.code 1 (some .int) ∈ wT
section VM
variable {g : Geo} {x : Cx} {Q : State → Prop} {nL : Nat} {σ τ : St} {lv : List (Nat × Value)} {st : List Value} {pc : Nat} {cc : ByteArray} {own : String} {ret : Option FieldType} {rm : Room}
theorem v_max (C : Ok g x cc own nL ret rm) {idx : Nat} {a b : Int32} (hk : KX own idx) (hR : 1 ≤ rm.frames ∧ 21 ≤ rm.locals) (hW : (st.map fun v => v.category).sum ≤ 8) (hd : decode cc pc = .ok (.invokestatic idx, 3)) (kk : V g x Q nL σ lv (.int (jmax a b) :: st) (pc + 3)) : V g x Q nL σ lv (.int b :: .int a :: st) pc := by
  intro H locs ls hP hS hl
  obtain ⟨hx, hb, hml, hown, hts, hK, hi, hs, hlk, hrt, hRR, hc1, hc2⟩ := id C
  refine va_mmax hx hb (hml.trans hl.1.symm) hown (hts _ hk.1) (hts _ hk.2.1) (hts _ hk.2.2.1) (hts _ hk.2.2.2) ?_ ?_ ?_ ?_ hd (kk H locs ls hP hS hl)
  · rw [hRR]; exact hR.1
  · rw [hRR]; omega
  · rw [hRR]; exact hc1
  · rw [hRR]; exact hc2
theorem v_abs (C : Ok g x cc own nL ret rm) {idx : Nat} {a : Int32} (hk : KA own idx) (hR : 1 ≤ rm.frames ∧ 21 ≤ rm.locals) (hW : (st.map fun v => v.category).sum ≤ 8) (hd : decode cc pc = .ok (.invokestatic idx, 3)) (kk : V g x Q nL σ lv (.int (jabs a) :: st) (pc + 3)) : V g x Q nL σ lv (.int a :: st) pc := by
  intro H locs ls hP hS hl
  obtain ⟨hx, hb, hml, hown, hts, hK, hi, hs, hlk, hrt, hRR, hc1, hc2⟩ := id C
  refine va_mabs hx hb (hml.trans hl.1.symm) hown (hts _ hk.1) (hts _ hk.2.1) (hts _ hk.2.2.1) (hts _ hk.2.2.2) ?_ ?_ ?_ ?_ hd (kk H locs ls hP hS hl)
  · rw [hRR]; exact hR.1
  · rw [hRR]; omega
  · rw [hRR]; exact hc1
  · rw [hRR]; exact hc2
end VM
