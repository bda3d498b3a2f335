/-! ===== HALF 2: how many bits: Long.bitCount, Integer.bitCount ===== -/
def cnt (f : Nat → Bool) : Nat → Nat
  | 0 => 0
  | n + 1 => cnt f n + (if f n then 1 else 0)
theorem cnt_le (f : Nat → Bool) : ∀ n, cnt f n ≤ n
  | 0 => Nat.le_refl 0
  | n + 1 => by
    have h := cnt_le f n
    unfold cnt
    split <;> omega
theorem cnt_congr {f g : Nat → Bool} : ∀ {n : Nat}, (∀ i, i < n → f i = g i) → cnt f n = cnt g n
  | 0, _ => rfl
  | n + 1, h => by
    unfold cnt
    rw [cnt_congr (fun i hi => h i (by omega)), h n (by omega)]
theorem cnt_add (f : Nat → Bool) (a : Nat) : ∀ b, cnt f (a + b) = cnt f a + cnt (fun i => f (a + i)) b
  | 0 => rfl
  | b + 1 => by
    show cnt f (a + b) + _ = cnt f a + (cnt (fun i => f (a + i)) b + _)
    rw [cnt_add f a b, Nat.add_assoc]
    rfl
theorem cnt_false {f : Nat → Bool} : ∀ {n : Nat}, (∀ i, i < n → f i = false) → cnt f n = 0
  | 0, _ => rfl
  | n + 1, h => by
    unfold cnt
    rw [cnt_false (fun i hi => h i (by omega)), h n (by omega)]
    rfl
/-- how many bits a long has -/
def pc (x : Int64) : Nat := cnt (tb x) 64
theorem pc_le (x : Int64) : pc x ≤ 64 := cnt_le _ _
theorem pc_cut {x : Int64} {n : Nat} (hn : n ≤ 64) (h : ∀ i, i < 64 → n ≤ i → tb x i = false) : pc x = cnt (tb x) n := by
  unfold pc
  have e : 64 = n + (64 - n) := by omega
  rw [e, cnt_add, cnt_false (n := 64 - n) (fun i hi => h (n + i) (by omega) (by omega)), Nat.add_zero]
def un (x : Int64) : Nat := x.toBitVec.toNat
theorem un_lt (x : Int64) : un x < 2 ^ 64 := x.toBitVec.isLt
theorem tb_un (x : Int64) (i : Nat) : tb x i = (un x).testBit i := rfl
theorem un_lushr (x : Int64) {k : Nat} (hk : k < 64) : un (lushr x (nI k)) = un x / 2 ^ k := by
  unfold un lushr
  rw [UInt64.toBitVec_toInt64, UInt64.toBitVec_shiftRight, BitVec.ushiftRight_eq', sh_u k hk, BitVec.toNat_ushiftRight, Nat.shiftRight_eq_div_pow]
  rfl
theorem un_and (x y : Int64) : un (x &&& y) = un x &&& un y := by simp [un]
theorem un_add {x y : Int64} (h : un x + un y < 2 ^ 64) : un (x + y) = un x + un y := by
  unfold un at *
  rw [Int64.toBitVec_add, BitVec.toNat_add, Nat.mod_eq_of_lt h]
theorem un_sub {x y : Int64} (h : un y ≤ un x) : un (x - y) = un x - un y := by
  unfold un at *
  rw [Int64.toBitVec_sub, BitVec.toNat_sub_of_le h]
theorem un_i32 (x : Int64) : (x.toInt32 &&& 127) = nI (un x % 128) := by
  rw [pk_and x.toInt32 (m := 127) 7 (by decide)]
  congr 1
  unfold un
  rw [Int64.toBitVec_toInt32, BitVec.signExtend_eq_setWidth_of_le _ (by decide), BitVec.toNat_setWidth]
  omega
/-- by bytes -/
def bdiv (n : Nat) : Nat := n / 256
theorem and_b (n m : Nat) : (n &&& m) % 256 = (n % 256) &&& (m % 256) := Nat.and_mod_two_pow (n := 8)
theorem and_d (n m : Nat) : (n &&& m) / 256 = (n / 256) &&& (m / 256) := by
  have h := Nat.shiftRight_and_distrib (a := n) (b := m) (i := 8)
  simpa [Nat.shiftRight_eq_div_pow] using h
theorem tb8 (n i j : Nat) (hj : j < 8) : n.testBit (8 * i + j) = (n / 256 ^ i % 256).testBit j := by
  have e : 256 ^ i = 2 ^ (8 * i) := by rw [Nat.pow_mul]
  rw [e]
  have h8 : (n / 2 ^ (8 * i) % 256).testBit j = (n / 2 ^ (8 * i)).testBit j := by
    rw [show 256 = 2 ^ 8 from rfl, Nat.testBit_mod_two_pow]
    simp [hj]
  rw [h8, Nat.testBit_div_two_pow]
  congr 1
  omega
def pb (b : Nat) : Nat := cnt b.testBit 8
theorem pc_bytes (x : Int64) : pc x = pb (un x % 256) + pb (un x / 256 % 256) + pb (un x / 256 ^ 2 % 256) + pb (un x / 256 ^ 3 % 256) + pb (un x / 256 ^ 4 % 256) + pb (un x / 256 ^ 5 % 256) + pb (un x / 256 ^ 6 % 256) + pb (un x / 256 ^ 7 % 256) := by
  have key : ∀ i, cnt (fun j => tb x (8 * i + j)) 8 = pb (un x / 256 ^ i % 256) := fun i => cnt_congr (fun j hj => by rw [tb_un, tb8 _ _ _ hj])
  unfold pc
  rw [show 64 = 8 * 7 + 8 from rfl, cnt_add, key 7, show 8 * 7 = 8 * 6 + 8 from rfl, cnt_add, key 6, show 8 * 6 = 8 * 5 + 8 from rfl, cnt_add, key 5, show 8 * 5 = 8 * 4 + 8 from rfl, cnt_add, key 4, show 8 * 4 = 8 * 3 + 8 from rfl, cnt_add, key 3, show 8 * 3 = 8 * 2 + 8 from rfl, cnt_add, key 2, show 8 * 2 = 8 * 1 + 8 from rfl, cnt_add, key 1]
  have k0 := key 0
  simp only [Nat.mul_zero, Nat.zero_add, Nat.pow_zero, Nat.div_one] at k0
  rw [show 8 * 1 = 8 from rfl, show cnt (tb x) 8 = pb (un x % 256) from k0, Nat.pow_one]
/-! the stages of bitCount, by bytes -/
def ca1 (m n : Nat) : Nat := n - ((n / 2) &&& m)
def ca2 (m n : Nat) : Nat := (n &&& m) + ((n / 4) &&& m)
def ca3 (m n : Nat) : Nat := (n + n / 16) &&& m
theorem g1_le : ∀ b, b < 256 → ∀ e, e < 2 → ((b / 2 + 128 * e) &&& 85) = ((b / 2) &&& 85) ∧ ((b / 2) &&& 85) ≤ b := by decide +kernel
theorem g2_le : ∀ b, b < 256 → ∀ e, e < 4 → ((b / 4 + 64 * e) &&& 51) = ((b / 4) &&& 51) ∧ ((b / 4) &&& 51) ≤ 51 ∧ (b &&& 51) ≤ 51 := by decide +kernel
theorem g_all : ∀ b, b < 256 → (ca2 51 (ca1 85 b)) % 16 ≤ 4 ∧ (ca2 51 (ca1 85 b)) / 16 ≤ 4 ∧ ca3 15 (ca2 51 (ca1 85 b)) = pb b ∧ pb b ≤ 8 ∧ ca1 85 b < 256 := by decide +kernel
theorem ca1_low {m n : Nat} (hm : m % 256 = 85) : ca1 m n % 256 = ca1 85 (n % 256) ∧ ca1 m n / 256 = ca1 (m / 256) (n / 256) := by
  have hb : n % 256 < 256 := Nat.mod_lt _ (by decide)
  have he : n / 256 % 2 < 2 := Nat.mod_lt _ (by decide)
  obtain ⟨q1, q2⟩ := g1_le (n % 256) hb (n / 256 % 2) he
  have h1 : (n / 2) % 256 = n % 256 / 2 + 128 * (n / 256 % 2) := by omega
  have h2 := and_b (n / 2) m
  rw [hm, h1, q1] at h2
  have h3 := and_d (n / 2) m
  have h4 : n / 2 / 256 = n / 256 / 2 := by omega
  rw [h4] at h3
  have h5 : ((n / 256 / 2) &&& (m / 256)) ≤ n / 256 / 2 := Nat.and_le_left
  unfold ca1
  generalize (n / 2 &&& m) = y at *
  generalize (n % 256 / 2 &&& 85) = y0 at *
  generalize (n / 256 / 2 &&& m / 256) = y1 at *
  constructor <;> omega
theorem ca2_low {m n : Nat} (hm : m % 256 = 51) : ca2 m n % 256 = ca2 51 (n % 256) ∧ ca2 m n / 256 = ca2 (m / 256) (n / 256) := by
  have hb : n % 256 < 256 := Nat.mod_lt _ (by decide)
  have he : n / 256 % 4 < 4 := Nat.mod_lt _ (by decide)
  obtain ⟨q1, q2, q3⟩ := g2_le (n % 256) hb (n / 256 % 4) he
  have h1 : (n / 4) % 256 = n % 256 / 4 + 64 * (n / 256 % 4) := by omega
  have h2 := and_b (n / 4) m
  rw [hm, h1, q1] at h2
  have h3 := and_d (n / 4) m
  have h4 : n / 4 / 256 = n / 256 / 4 := by omega
  rw [h4] at h3
  have h6 := and_b n m
  rw [hm] at h6
  have h7 := and_d n m
  unfold ca2
  generalize (n / 4 &&& m) = y at *
  generalize (n % 256 / 4 &&& 51) = y0 at *
  generalize (n / 256 / 4 &&& m / 256) = y1 at *
  generalize (n &&& m) = z at *
  generalize (n % 256 &&& 51) = z0 at *
  generalize (n / 256 &&& m / 256) = z1 at *
  constructor <;> omega
theorem and15 (x : Nat) : x &&& 15 = x % 16 := Nat.and_two_pow_sub_one_eq_mod x 4
theorem ca3_low {m n : Nat} (hm : m % 256 = 15) (h1 : n % 16 ≤ 4) (h2 : n % 256 / 16 ≤ 4) (h3 : n / 256 % 16 ≤ 4) : ca3 m n % 256 = ca3 15 (n % 256) ∧ ca3 m n / 256 = ca3 (m / 256) (n / 256) := by
  have h4 := and_b (n + n / 16) m
  have h5 := and_d (n + n / 16) m
  have h6 : (n + n / 16) / 256 = n / 256 + n / 256 / 16 := by omega
  have h7 : (n + n / 16) % 256 % 16 = (n % 256 + n % 256 / 16) % 16 := by omega
  unfold ca3
  rw [hm, and15, h7] at h4
  rw [h6] at h5
  rw [and15]
  exact ⟨h4, h5⟩
theorem dg (n i : Nat) : n / 256 / 256 ^ i = n / 256 ^ (i + 1) := by rw [Nat.div_div_eq_div_mul, Nat.pow_succ, Nat.mul_comm]
theorem ca1_dig : ∀ (i m n : Nat), (∀ j, j ≤ i → m / 256 ^ j % 256 = 85) → ca1 m n / 256 ^ i % 256 = ca1 85 (n / 256 ^ i % 256)
  | 0, m, n, h => by
    have h0 := h 0 (Nat.le_refl 0)
    simp only [Nat.pow_zero, Nat.div_one] at h0 ⊢
    exact (ca1_low h0).1
  | i + 1, m, n, h => by
    have h0 := h 0 (Nat.zero_le _)
    simp only [Nat.pow_zero, Nat.div_one] at h0
    rw [← dg, (ca1_low h0).2, ca1_dig i (m / 256) (n / 256) (fun j hj => by rw [dg]; exact h (j + 1) (by omega)), dg]
theorem ca2_dig : ∀ (i m n : Nat), (∀ j, j ≤ i → m / 256 ^ j % 256 = 51) → ca2 m n / 256 ^ i % 256 = ca2 51 (n / 256 ^ i % 256)
  | 0, m, n, h => by
    have h0 := h 0 (Nat.le_refl 0)
    simp only [Nat.pow_zero, Nat.div_one] at h0 ⊢
    exact (ca2_low h0).1
  | i + 1, m, n, h => by
    have h0 := h 0 (Nat.zero_le _)
    simp only [Nat.pow_zero, Nat.div_one] at h0
    rw [← dg, (ca2_low h0).2, ca2_dig i (m / 256) (n / 256) (fun j hj => by rw [dg]; exact h (j + 1) (by omega)), dg]
theorem ca3_dig : ∀ (i m n : Nat), (∀ j, j ≤ i → m / 256 ^ j % 256 = 15) → (∀ j, n / 256 ^ j % 256 % 16 ≤ 4 ∧ n / 256 ^ j % 256 / 16 ≤ 4) → ca3 m n / 256 ^ i % 256 = ca3 15 (n / 256 ^ i % 256)
  | 0, m, n, h, hn => by
    have h0 := h 0 (Nat.le_refl 0)
    have n0 := hn 0
    have n1 := hn 1
    simp only [Nat.pow_zero, Nat.div_one, Nat.pow_one] at h0 n0 n1 ⊢
    exact (ca3_low h0 (by omega) n0.2 (by omega)).1
  | i + 1, m, n, h, hn => by
    have h0 := h 0 (Nat.zero_le _)
    have n0 := hn 0
    have n1 := hn 1
    simp only [Nat.pow_zero, Nat.div_one, Nat.pow_one] at h0 n0 n1
    rw [← dg, (ca3_low h0 (by omega) n0.2 (by omega)).2, ca3_dig i (m / 256) (n / 256) (fun j hj => by rw [dg]; exact h (j + 1) (by omega)) (fun j => by rw [dg]; exact hn (j + 1)), dg]
theorem dig8 {n : Nat} (h : n < 2 ^ 64) : n = n % 256 + 256 * (n / 256 ^ 1 % 256) + 256 ^ 2 * (n / 256 ^ 2 % 256) + 256 ^ 3 * (n / 256 ^ 3 % 256) + 256 ^ 4 * (n / 256 ^ 4 % 256) + 256 ^ 5 * (n / 256 ^ 5 % 256) + 256 ^ 6 * (n / 256 ^ 6 % 256) + 256 ^ 7 * (n / 256 ^ 7 % 256) := by
  omega
theorem mk1 : ∀ j, j ≤ 7 → 6148914691236517205 / 256 ^ j % 256 = 85 := by decide
theorem mk2 : ∀ j, j ≤ 7 → 3689348814741910323 / 256 ^ j % 256 = 51 := by decide
theorem mk3 : ∀ j, j ≤ 7 → 1085102592571150095 / 256 ^ j % 256 = 15 := by decide
theorem bc_nat {n : Nat} (hn : n < 2 ^ 64) (c : Nat → Nat) (hc : ∀ i, i < 8 → c i ≤ 8) (hd : ∀ i, i < 8 → n / 256 ^ i % 256 = c i) :
    ((n + n / 256) + (n + n / 256) / 65536 + ((n + n / 256) + (n + n / 256) / 65536) / 4294967296) % 128 = c 0 + c 1 + c 2 + c 3 + c 4 + c 5 + c 6 + c 7 := by
  have e := dig8 hn
  have d0 := hd 0 (by decide)
  have d1 := hd 1 (by decide)
  have d2 := hd 2 (by decide)
  have d3 := hd 3 (by decide)
  have d4 := hd 4 (by decide)
  have d5 := hd 5 (by decide)
  have d6 := hd 6 (by decide)
  have d7 := hd 7 (by decide)
  rw [Nat.pow_zero, Nat.div_one] at d0
  rw [d0, d1, d2, d3, d4, d5, d6, d7] at e
  have k0 := hc 0 (by decide)
  have k1 := hc 1 (by decide)
  have k2 := hc 2 (by decide)
  have k3 := hc 3 (by decide)
  have k4 := hc 4 (by decide)
  have k5 := hc 5 (by decide)
  have k6 := hc 6 (by decide)
  have k7 := hc 7 (by decide)
  clear d0 d1 d2 d3 d4 d5 d6 d7 hd hc
  generalize c 0 = c0 at *
  generalize c 1 = c1 at *
  generalize c 2 = c2 at *
  generalize c 3 = c3 at *
  generalize c 4 = c4 at *
  generalize c 5 = c5 at *
  generalize c 6 = c6 at *
  generalize c 7 = c7 at *
  have h1 : n / 256 = c1 + 256 * c2 + 65536 * c3 + 16777216 * c4 + 4294967296 * c5 + 1099511627776 * c6 + 281474976710656 * c7 := by omega
  generalize hs : n + n / 256 = s
  have h2 : s = (c0 + c1) + 256 * (c1 + c2) + 65536 * (c2 + c3) + 16777216 * (c3 + c4) + 4294967296 * (c4 + c5) + 1099511627776 * (c5 + c6) + 281474976710656 * (c6 + c7) + 72057594037927936 * c7 := by omega
  clear hs h1 e hn
  have h3 : s / 65536 = (c2 + c3) + 256 * (c3 + c4) + 65536 * (c4 + c5) + 16777216 * (c5 + c6) + 4294967296 * (c6 + c7) + 1099511627776 * c7 := by omega
  generalize ht : s + s / 65536 = t
  have h4 : t = (c0 + c1 + c2 + c3) + 256 * (c1 + c2 + c3 + c4) + 65536 * (c2 + c3 + c4 + c5) + 16777216 * (c3 + c4 + c5 + c6) + 4294967296 * (c4 + c5 + c6 + c7) + 1099511627776 * (c5 + c6 + c7) + 281474976710656 * (c6 + c7) + 72057594037927936 * c7 := by omega
  clear ht h3 h2
  have h5 : t / 4294967296 = (c4 + c5 + c6 + c7) + 256 * (c5 + c6 + c7) + 65536 * (c6 + c7) + 16777216 * c7 := by omega
  rw [h5]
  omega
theorem s_bitCount (x : Int64) (σ : St) : f_J13_bitCount_95d88 x σ = some (nI (pc x), σ) := by
  have hx := un_lt x
  -- stage 1
  have m1 : un (6148914691236517205 : Int64) = 6148914691236517205 := rfl
  have m2 : un (3689348814741910323 : Int64) = 3689348814741910323 := rfl
  have m3 : un (1085102592571150095 : Int64) = 1085102592571150095 := rfl
  have u1 : un (lushr x 1 &&& 6148914691236517205) = (un x / 2 &&& 6148914691236517205) := by
    rw [un_and, m1, show (1 : Int32) = nI 1 from rfl, un_lushr _ (by decide)]
  have l1 : (un x / 2 &&& 6148914691236517205) ≤ un x / 2 := Nat.and_le_left
  generalize hx1 : x - (lushr x 1 &&& 6148914691236517205) = x1
  have e1 : un x1 = ca1 6148914691236517205 (un x) := by
    rw [← hx1, un_sub (by rw [u1]; omega), u1]
    rfl
  -- stage 2
  have l2 : ∀ z : Nat, (z &&& 3689348814741910323) ≤ 3689348814741910323 := fun z => Nat.and_le_right
  generalize hx2 : (x1 &&& 3689348814741910323) + (lushr x1 2 &&& 3689348814741910323) = x2
  have u2 : un (lushr x1 2 &&& 3689348814741910323) = (un x1 / 4 &&& 3689348814741910323) := by
    rw [un_and, m2, show (2 : Int32) = nI 2 from rfl, un_lushr _ (by decide)]
  have u3 : un (x1 &&& 3689348814741910323) = (un x1 &&& 3689348814741910323) := by rw [un_and, m2]
  have e2 : un x2 = ca2 3689348814741910323 (un x1) := by
    have a := l2 (un x1)
    have b := l2 (un x1 / 4)
    rw [← hx2, un_add (by rw [u2, u3]; omega), u2, u3]
    rfl
  have b2 : un x2 ≤ 7378697629483820646 := by
    have a := l2 (un x1)
    have b := l2 (un x1 / 4)
    rw [e2]
    unfold ca2
    omega
  -- stage 3
  generalize hx3 : (x2 + lushr x2 4) &&& 1085102592571150095 = x3
  have u4 : un (lushr x2 4) = un x2 / 16 := by rw [show (4 : Int32) = nI 4 from rfl, un_lushr _ (by decide)]
  have e3 : un x3 = ca3 1085102592571150095 (un x2) := by
    rw [← hx3, un_and, m3, un_add (by rw [u4]; omega), u4]
    rfl
  have b3 : un x3 ≤ 1085102592571150095 := by rw [e3]; exact Nat.and_le_right
  -- digits
  have d2 : ∀ i, i < 8 → un x2 / 256 ^ i % 256 = ca2 51 (ca1 85 (un x / 256 ^ i % 256)) := fun i hi => by
    rw [e2, ca2_dig i _ _ (fun j hj => mk2 j (by omega)), e1, ca1_dig i _ _ (fun j hj => mk1 j (by omega))]
  have hb : ∀ i, un x / 256 ^ i % 256 < 256 := fun i => Nat.mod_lt _ (by decide)
  have n2 : ∀ j, un x2 / 256 ^ j % 256 % 16 ≤ 4 ∧ un x2 / 256 ^ j % 256 / 16 ≤ 4 := fun j => by
    by_cases hj : j < 8
    · rw [d2 j hj]
      have := g_all _ (hb j)
      exact ⟨this.1, this.2.1⟩
    · have h8 : 256 ^ 8 ≤ 256 ^ j := Nat.pow_le_pow_right (by decide) (by omega)
      have h0 : un x2 / 256 ^ j = 0 := Nat.div_eq_of_lt (by have := un_lt x2; omega)
      rw [h0]
      decide
  have d3 : ∀ i, i < 8 → un x3 / 256 ^ i % 256 = pb (un x / 256 ^ i % 256) := fun i hi => by
    rw [e3, ca3_dig i _ _ (fun j hj => mk3 j (by omega)) n2, d2 i hi]
    exact (g_all _ (hb i)).2.2.1
  have key := bc_nat (un_lt x3) (fun i => pb (un x / 256 ^ i % 256)) (fun i _ => (g_all _ (hb i)).2.2.2.1) d3
  unfold f_J13_bitCount_95d88 f_J13_bitCount_95d88_10 f_J13_bitCount_95d88_24 f_J13_bitCount_95d88_34 f_J13_bitCount_95d88_41 f_J13_bitCount_95d88_48 f_J13_bitCount_95d88_55
  rw [hx1, hx2, hx3]
  have u5 : ∀ z : Int64, un (lushr z 8) = un z / 256 := fun z => by rw [show (8 : Int32) = nI 8 from rfl, un_lushr _ (by decide)]
  have u6 : ∀ z : Int64, un (lushr z 16) = un z / 65536 := fun z => by rw [show (16 : Int32) = nI 16 from rfl, un_lushr _ (by decide)]
  have u7 : ∀ z : Int64, un (lushr z 32) = un z / 4294967296 := fun z => by rw [show (32 : Int32) = nI 32 from rfl, un_lushr _ (by decide)]
  have w1 : un (x3 + lushr x3 8) = un x3 + un x3 / 256 := by rw [un_add (by rw [u5]; omega), u5]
  have w2 : un (x3 + lushr x3 8 + lushr (x3 + lushr x3 8) 16) = (un x3 + un x3 / 256) + (un x3 + un x3 / 256) / 65536 := by rw [un_add (by rw [u6, w1]; omega), u6, w1]
  have w3 : un (x3 + lushr x3 8 + lushr (x3 + lushr x3 8) 16 + lushr (x3 + lushr x3 8 + lushr (x3 + lushr x3 8) 16) 32) = (un x3 + un x3 / 256) + (un x3 + un x3 / 256) / 65536 + ((un x3 + un x3 / 256) + (un x3 + un x3 / 256) / 65536) / 4294967296 := by rw [un_add (by rw [u7, w2]; omega), u7, w2]
  rw [un_i32, w3, key, pc_bytes]
  simp only [Nat.pow_zero, Nat.div_one, Nat.pow_one]
