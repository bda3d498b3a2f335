/-! ===== HALF 2, base: state, numbers, bits ===== -/
theorem gi_si (σ : St) (p k : Nat) (v : Int32) (q j : Nat) : gi (si σ p k v) q j = if q = p ∧ j = k then v else gi σ q j := rfl
theorem gi_sl (σ : St) (p k : Nat) (v : Int64) (q j : Nat) : gi (sl σ p k v) q j = gi σ q j := rfl
theorem gl_sl (σ : St) (p k : Nat) (v : Int64) (q j : Nat) : gl (sl σ p k v) q j = if q = p ∧ j = k then v else gl σ q j := rfl
theorem gl_si (σ : St) (p k : Nat) (v : Int32) (q j : Nat) : gl (si σ p k v) q j = gl σ q j := rfl
theorem gi_si_same (σ : St) (p k : Nat) (v : Int32) : gi (si σ p k v) p k = v := by simp [gi_si]
theorem gl_sl_same (σ : St) (p k : Nat) (v : Int64) : gl (sl σ p k v) p k = v := by simp [gl_sl]
theorem gi_si_ne (σ : St) (p k : Nat) (v : Int32) {q j : Nat} (h : ¬ (q = p ∧ j = k)) : gi (si σ p k v) q j = gi σ q j := by rw [gi_si, if_neg h]
theorem gl_sl_ne (σ : St) (p k : Nat) (v : Int64) {q j : Nat} (h : ¬ (q = p ∧ j = k)) : gl (sl σ p k v) q j = gl σ q j := by rw [gl_sl, if_neg h]
theorem st_ext {σ τ : St} (h1 : ∀ p k, gi σ p k = gi τ p k) (h2 : ∀ p k, gl σ p k = gl τ p k) : σ = τ := by
  obtain ⟨a, b⟩ := σ
  obtain ⟨c, d⟩ := τ
  have e1 : a = c := funext fun p => funext fun k => h1 p k
  have e2 : b = d := funext fun p => funext fun k => h2 p k
  rw [e1, e2]
theorem sl_same (σ : St) (p k : Nat) : sl σ p k (gl σ p k) = σ := by
  refine st_ext (fun _ _ => rfl) (fun q j => ?_)
  rw [gl_sl]
  split
  · next h => rw [h.1, h.2]
  · rfl
theorem si_same (σ : St) (p k : Nat) : si σ p k (gi σ p k) = σ := by
  refine st_ext (fun q j => ?_) (fun _ _ => rfl)
  rw [gi_si]
  split
  · next h => rw [h.1, h.2]
  · rfl
theorem sl_sl (σ : St) (p k : Nat) (v w : Int64) : sl (sl σ p k v) p k w = sl σ p k w := by
  refine st_ext (fun _ _ => rfl) (fun q j => ?_)
  simp only [gl_sl]
  split <;> rfl
theorem si_si (σ : St) (p k : Nat) (v w : Int32) : si (si σ p k v) p k w = si σ p k w := by
  refine st_ext (fun q j => ?_) (fun _ _ => rfl)
  simp only [gi_si]
  split <;> rfl
/-- what agrees outside some places -/
def eqx (P : Nat → Prop) (σ τ : St) : Prop := ∀ p, ¬ P p → ∀ k, gi τ p k = gi σ p k ∧ gl τ p k = gl σ p k
theorem eqx.rf {P : Nat → Prop} {σ : St} : eqx P σ σ := fun _ _ _ => ⟨rfl, rfl⟩
theorem eqx.tr {P : Nat → Prop} {σ τ υ : St} (h1 : eqx P σ τ) (h2 : eqx P τ υ) : eqx P σ υ := fun p hp k => ⟨(h2 p hp k).1.trans (h1 p hp k).1, (h2 p hp k).2.trans (h1 p hp k).2⟩
theorem eqx.mono {P P' : Nat → Prop} {σ τ : St} (h : eqx P σ τ) (hP : ∀ p, P p → P' p) : eqx P' σ τ := fun p hp k => h p (fun z => hp (hP p z)) k
theorem eqx.si {P : Nat → Prop} {σ τ : St} {p k : Nat} {v : Int32} (h : eqx P σ τ) (hp : P p) : eqx P σ (si τ p k v) := fun q hq j => ⟨by rw [gi_si_ne τ p k v (q := q) (j := j) (fun z => hq (by rw [z.1]; exact hp))]; exact (h q hq j).1, (h q hq j).2⟩
theorem eqx.sl {P : Nat → Prop} {σ τ : St} {p k : Nat} {v : Int64} (h : eqx P σ τ) (hp : P p) : eqx P σ (sl τ p k v) := fun q hq j => ⟨(h q hq j).1, by rw [gl_sl_ne τ p k v (q := q) (j := j) (fun z => hq (by rw [z.1]; exact hp))]; exact (h q hq j).2⟩
/-! reads and writes in range -/
section RW
variable {α : Type}
theorem in_nI {k n : Nat} (h : k < n) (hn : n < 2 ^ 31) : ¬ (nI k < 0 ∨ n ≤ (nI k).toNatClampNeg) := nI_in h hn
theorem rdI_at (σ : St) {p k : Nat} (f : Int32 → Option α) (h : k < len p) (hn : len p < 2 ^ 31) : rdI σ p (nI k) f = f (gi σ p k) := by
  unfold rdI
  rw [if_neg (in_nI h hn), nI_clamp (by omega)]
theorem rdL_at (σ : St) {p k : Nat} (f : Int64 → Option α) (h : k < len p) (hn : len p < 2 ^ 31) : rdL σ p (nI k) f = f (gl σ p k) := by
  unfold rdL
  rw [if_neg (in_nI h hn), nI_clamp (by omega)]
theorem wrI_at (σ : St) {p k : Nat} (v : Int32) (f : St → Option α) (h : k < len p) (hn : len p < 2 ^ 31) : wrI σ p (nI k) v f = f (si σ p k v) := by
  unfold wrI
  rw [if_neg (in_nI h hn), nI_clamp (by omega)]
theorem wrZ_at (σ : St) {p k : Nat} (v : Int32) (f : St → Option α) (h : k < len p) (hn : len p < 2 ^ 31) : wrZ σ p (nI k) v f = f (si σ p k (vp_nar .boolean v)) := by
  unfold wrZ
  rw [if_neg (in_nI h hn), nI_clamp (by omega)]
theorem wrL_at (σ : St) {p k : Nat} (v : Int64) (f : St → Option α) (h : k < len p) (hn : len p < 2 ^ 31) : wrL σ p (nI k) v f = f (sl σ p k v) := by
  unfold wrL
  rw [if_neg (in_nI h hn), nI_clamp (by omega)]
theorem rdR_at {k : Nat} (f : Nat → Option α) (h : k < 4) : rdR (nI k) f = f (5 + k) := by
  unfold rdR
  rw [if_neg (in_nI h (by decide)), nI_clamp (by omega)]
theorem fI_at (σ : St) (p j : Nat) (v : Int32) (k : St → Option α) : fI σ p j v k = k (si σ p j v) := rfl
theorem fL_at (σ : St) (p j : Nat) (v : Int64) (k : St → Option α) : fL σ p j v k = k (sl σ p j v) := rfl
theorem gz_0 (k : Option α) : gz 0 k = k := by simp [gz]
theorem gz_1 (k : Option α) : gz 1 k = k := by simp [gz]
theorem gz_of {v : Int32} (h : v = 0 ∨ v = 1) (k : Option α) : gz v k = k := by simp [gz, h]
theorem bd_at {β : Type} {o : Option (β × St)} {r : β} {τ : St} (h : o = some (r, τ)) (k : β → St → Option α) : bd o k = k r τ := by rw [h]; rfl
theorem dvI_at {a b : Nat} (f : Int32 → Option α) (ha : a < 2 ^ 31) (hb : 0 < b) (hb2 : b < 2 ^ 31) : dvI (nI a) (nI b) f = f (nI (a / b)) := by
  unfold dvI
  rw [if_neg (nI_ne0 hb hb2), pk_div ha hb hb2]
theorem rmI_at {a b : Nat} (f : Int32 → Option α) (ha : a < 2 ^ 31) (hb : 0 < b) (hb2 : b < 2 ^ 31) : rmI (nI a) (nI b) f = f (nI (a % b)) := by
  unfold rmI
  rw [if_neg (nI_ne0 hb hb2), show jrem (nI a) (nI b) = nI (a % b) from pk_rem ha hb hb2]
end RW
theorem zn_0 : vp_nar .boolean 0 = 0 := by decide
theorem zn_1 : vp_nar .boolean 1 = 1 := by decide
/-! numbers -/
theorem nI_mul (a b : Nat) : nI a * nI b = nI (a * b) := pk_mul a b
theorem nI_sub {a b : Nat} (h : b ≤ a) : nI a - nI b = nI (a - b) := pk_sub h
/-! bits of longs -/
def tb (x : Int64) (i : Nat) : Bool := x.toBitVec.getLsbD i
theorem tb_ext {x y : Int64} (h : ∀ i, i < 64 → tb x i = tb y i) : x = y := by
  apply Int64.toBitVec_inj.mp
  apply BitVec.eq_of_getLsbD_eq
  intro i hi
  exact h i hi
theorem tb_and (x y : Int64) (i : Nat) : tb (x &&& y) i = (tb x i && tb y i) := by simp [tb]
theorem tb_or (x y : Int64) (i : Nat) : tb (x ||| y) i = (tb x i || tb y i) := by simp [tb]
theorem tb_xor (x y : Int64) (i : Nat) : tb (x ^^^ y) i = (tb x i ^^ tb y i) := by simp [tb]
theorem tb_0 (i : Nat) : tb 0 i = false := by simp [tb]
theorem tb_big {x : Int64} {i : Nat} (h : 64 ≤ i) : tb x i = false := by
  unfold tb
  exact BitVec.getLsbD_of_ge _ _ h
theorem tb_m1 : ∀ i, i < 64 → tb (-1) i = true := by decide +kernel
theorem tb_not (x : Int64) {i : Nat} (h : i < 64) : tb (x ^^^ (-1)) i = !tb x i := by rw [tb_xor, tb_m1 i h, Bool.xor_true]
theorem sh_l : ∀ k, k < 64 → (((nI k).toInt64 &&& 63).toBitVec.smod 64).toNat = k := by decide +kernel
theorem sh_u : ∀ k, k < 64 → (((nI k).toInt64.toUInt64 &&& Int64.toUInt64 63).toBitVec % 64).toNat = k := by decide +kernel
theorem tb_lshl (x : Int64) {k : Nat} (hk : k < 64) (i : Nat) : tb (lshl x (nI k)) i = (decide (i < 64) && (decide (k ≤ i) && tb x (i - k))) := by
  unfold tb lshl
  rw [Int64.toBitVec_shiftLeft, BitVec.shiftLeft_eq', sh_l k hk, BitVec.getLsbD_shiftLeft]
  by_cases h1 : i < 64 <;> by_cases h2 : k ≤ i <;> simp [h1, h2, Nat.not_lt.mpr, Nat.lt_of_not_le]
theorem tb_lushr (x : Int64) {k : Nat} (hk : k < 64) (i : Nat) : tb (lushr x (nI k)) i = tb x (k + i) := by
  unfold tb lushr
  rw [UInt64.toBitVec_toInt64, UInt64.toBitVec_shiftRight, BitVec.ushiftRight_eq', sh_u k hk, BitVec.getLsbD_ushiftRight]
  rfl
theorem tb_1 (i : Nat) : tb 1 i = decide (i = 0) := by
  unfold tb
  have : (1 : Int64).toBitVec = 1#64 := rfl
  rw [this, BitVec.getLsbD_one]
  simp
theorem tb_bit {k : Nat} (hk : k < 64) (i : Nat) : tb (lshl 1 (nI k)) i = decide (i = k) := by
  rw [tb_lshl _ hk, tb_1]
  by_cases h : i = k
  · subst h; simp [hk]
  · by_cases h2 : i < 64 <;> by_cases h3 : k ≤ i <;> simp [h, h2, h3]
    omega
theorem tb_and1 (x : Int64) : (x &&& 1) = 0 ↔ tb x 0 = false := by
  constructor
  · intro h
    have h1 : tb (x &&& 1) 0 = false := by rw [h, tb_0]
    rw [tb_and, tb_1] at h1
    simpa using h1
  · intro h
    apply tb_ext
    intro i _
    rw [tb_and, tb_1, tb_0]
    by_cases hi : i = 0
    · subst hi; simp [h]
    · simp [hi]
theorem tb_read (x : Int64) {k : Nat} (hk : k < 64) : (lushr x (nI k) &&& 1) = 0 ↔ tb x k = false := by
  rw [tb_and1, tb_lushr _ hk, Nat.add_zero]
theorem tb_eq0 {x : Int64} : x = 0 ↔ ∀ i, i < 64 → tb x i = false := by
  constructor
  · intro h i _; rw [h, tb_0]
  · intro h
    apply tb_ext
    intro i hi
    rw [h i hi, tb_0]
