/-! ===== HALF 2: the class's nodes, level by level, as lists of open sets ===== -/
/-- the class's steps: an UP that is OUT goes as KIND 0 -/
def Tk (w : Nat) (U D : Nat → Bool) (c m k : Nat) : Option Nat := if U c = true then Tr w U D c m k else if k = 0 then Tr w U D c m 3 else none
theorem Tk_lt {w : Nat} {U D : Nat → Bool} {c m k m' : Nat} (hw : 1 ≤ w) (hm : m < 2 ^ w) (h : Tk w U D c m k = some m') : m' < 2 ^ w := by
  unfold Tk at h
  split at h
  · exact Tr_lt hw hm h
  · split at h
    · exact Tr_lt hw hm h
    · cases h
/-- where a set stands in a list -/
def ix (m : Nat) : List Nat → Nat
  | [] => 0
  | a :: l => if a = m then 0 else ix m l + 1
theorem ix_lt {m : Nat} : ∀ {l : List Nat}, m ∈ l → ix m l < l.length
  | [], h => by cases h
  | a :: l, h => by
    unfold ix
    by_cases ha : a = m
    · rw [if_pos ha]; simp
    · rw [if_neg ha]
      have : m ∈ l := by
        rcases List.mem_cons.mp h with q | q
        · exact absurd q.symm ha
        · exact q
      have := ix_lt this
      simp
      omega
theorem ix_get {m : Nat} : ∀ {l : List Nat}, m ∈ l → l[ix m l]? = some m
  | [], h => by cases h
  | a :: l, h => by
    unfold ix
    by_cases ha : a = m
    · rw [if_pos ha]; simp [ha]
    · rw [if_neg ha]
      have : m ∈ l := by
        rcases List.mem_cons.mp h with q | q
        · exact absurd q.symm ha
        · exact q
      rw [List.getElem?_cons_succ]
      exact ix_get this
theorem ix_app {m : Nat} (r : List Nat) : ∀ {l : List Nat}, m ∈ l → ix m (l ++ r) = ix m l
  | [], h => by cases h
  | a :: l, h => by
    show ix m (a :: (l ++ r)) = _
    unfold ix
    by_cases ha : a = m
    · rw [if_pos ha, if_pos ha]
    · rw [if_neg ha, if_neg ha]
      have : m ∈ l := by
        rcases List.mem_cons.mp h with q | q
        · exact absurd q.symm ha
        · exact q
      rw [ix_app r this]
theorem ix_new {m : Nat} : ∀ {l : List Nat}, m ∉ l → ix m (l ++ [m]) = l.length
  | [], _ => by simp [ix]
  | a :: l, h => by
    show ix m (a :: (l ++ [m])) = _
    unfold ix
    have ha : a ≠ m := fun z => h (by simp [z])
    rw [if_neg ha, ix_new (fun z => h (List.mem_cons_of_mem _ z))]
    rfl
theorem ix_of {m i : Nat} : ∀ {l : List Nat}, l.Nodup → l[i]? = some m → ix m l = i := by
  intro l
  induction l generalizing i with
  | nil => intro _ h; simp at h
  | cons a l ih =>
    intro hn h
    rw [List.nodup_cons] at hn
    unfold ix
    cases i with
    | zero =>
      rw [List.getElem?_cons_zero] at h
      rw [if_pos (Option.some.inj h)]
    | succ i =>
      rw [List.getElem?_cons_succ] at h
      have hm : m ∈ l := List.mem_of_getElem? h
      rw [if_neg (fun z => hn.1 (by rw [z]; exact hm)), ih hn.2 h]
/-- a set comes to a level, if it is new -/
def addL (l : List Nat) (o : Option Nat) : List Nat := match o with
  | none => l
  | some m => if m ∈ l then l else l ++ [m]
theorem addL_mem {l : List Nat} {o : Option Nat} {a : Nat} : a ∈ addL l o ↔ a ∈ l ∨ o = some a := by
  cases o with
  | none => simp [addL]
  | some m =>
    unfold addL
    by_cases h : m ∈ l
    · simp only [h, if_true]
      constructor
      · exact Or.inl
      · rintro (q | q)
        · exact q
        · cases q; exact h
    · simp only [h, if_false, List.mem_append, List.mem_singleton, Option.some.injEq]
      constructor
      · rintro (q | q)
        · exact Or.inl q
        · exact Or.inr q.symm
      · rintro (q | q)
        · exact Or.inl q
        · exact Or.inr q.symm
theorem addL_nodup {l : List Nat} {o : Option Nat} (h : l.Nodup) : (addL l o).Nodup := by
  cases o with
  | none => exact h
  | some m =>
    unfold addL
    by_cases hm : m ∈ l
    · simp only [hm, if_true]; exact h
    · simp only [hm, if_false]
      rw [List.nodup_append]
      refine ⟨h, by simp, fun a ha b hb => ?_⟩
      rw [List.mem_singleton] at hb
      subst hb
      exact fun z => hm (z ▸ ha)
theorem addL_pre (l : List Nat) (o : Option Nat) : ∃ r, addL l o = l ++ r := by
  cases o with
  | none => exact ⟨[], by simp [addL]⟩
  | some m =>
    unfold addL
    by_cases hm : m ∈ l
    · exact ⟨[], by simp [hm]⟩
    · exact ⟨[m], by simp [hm]⟩
/-- the steps of one node by the KINDS below k -/
def pa (w : Nat) (U D : Nat → Bool) (c : Nat) (l : List Nat) (m : Nat) : Nat → List Nat
  | 0 => l
  | k + 1 => addL (pa w U D c l m k) (Tk w U D c m k)
def gr (w : Nat) (U D : Nat → Bool) (c : Nat) (ls : List Nat) : List Nat := ls.foldl (fun l m => pa w U D c l m 3) []
def lev (w : Nat) (U D : Nat → Bool) : Nat → List Nat
  | 0 => [0]
  | c + 1 => gr w U D c (lev w U D c)
theorem pa_mem {w : Nat} {U D : Nat → Bool} {c m a : Nat} {l : List Nat} : ∀ {k : Nat}, a ∈ pa w U D c l m k ↔ a ∈ l ∨ ∃ j, j < k ∧ Tk w U D c m j = some a
  | 0 => by simp [pa]
  | k + 1 => by
    unfold pa
    rw [addL_mem, pa_mem (k := k)]
    constructor
    · rintro ((h | ⟨j, hj, e⟩) | h)
      · exact Or.inl h
      · exact Or.inr ⟨j, by omega, e⟩
      · exact Or.inr ⟨k, by omega, h⟩
    · rintro (h | ⟨j, hj, e⟩)
      · exact Or.inl (Or.inl h)
      · by_cases hjk : j = k
        · subst hjk; exact Or.inr e
        · exact Or.inl (Or.inr ⟨j, by omega, e⟩)
theorem pa_nodup {w : Nat} {U D : Nat → Bool} {c m : Nat} {l : List Nat} (h : l.Nodup) : ∀ k, (pa w U D c l m k).Nodup
  | 0 => h
  | k + 1 => addL_nodup (pa_nodup h k)
theorem fold_mem {w : Nat} {U D : Nat → Bool} {c a : Nat} : ∀ {ls l : List Nat}, a ∈ ls.foldl (fun l m => pa w U D c l m 3) l ↔ a ∈ l ∨ ∃ m, m ∈ ls ∧ ∃ j, j < 3 ∧ Tk w U D c m j = some a
  | [], l => by simp
  | m :: ls, l => by
    rw [List.foldl_cons, fold_mem (ls := ls), pa_mem]
    constructor
    · rintro ((h | ⟨j, hj, e⟩) | ⟨m', hm', q⟩)
      · exact Or.inl h
      · exact Or.inr ⟨m, by simp, j, hj, e⟩
      · exact Or.inr ⟨m', List.mem_cons_of_mem _ hm', q⟩
    · rintro (h | ⟨m', hm', j, hj, e⟩)
      · exact Or.inl (Or.inl h)
      · rcases List.mem_cons.mp hm' with q | q
        · subst q; exact Or.inl (Or.inr ⟨j, hj, e⟩)
        · exact Or.inr ⟨m', q, j, hj, e⟩
theorem fold_nodup {w : Nat} {U D : Nat → Bool} {c : Nat} : ∀ {ls l : List Nat}, l.Nodup → (ls.foldl (fun l m => pa w U D c l m 3) l).Nodup
  | [], l, h => h
  | m :: ls, l, h => by
    rw [List.foldl_cons]
    exact fold_nodup (pa_nodup h 3)
theorem lev_mem {w : Nat} {U D : Nat → Bool} {c a : Nat} : a ∈ lev w U D (c + 1) ↔ ∃ m, m ∈ lev w U D c ∧ ∃ j, j < 3 ∧ Tk w U D c m j = some a := by
  show a ∈ gr w U D c (lev w U D c) ↔ _
  unfold gr
  rw [fold_mem]
  simp
theorem lev_nodup (w : Nat) (U D : Nat → Bool) : ∀ c, (lev w U D c).Nodup
  | 0 => by simp [lev]
  | c + 1 => fold_nodup (by simp)
theorem lev_lt {w : Nat} {U D : Nat → Bool} (hw : 1 ≤ w) : ∀ {c m : Nat}, m ∈ lev w U D c → m < 2 ^ w
  | 0, m, h => by
    simp [lev] at h
    subst h
    exact Nat.pow_pos (by decide)
  | c + 1, m, h => by
    obtain ⟨m0, h0, j, hj, e⟩ := lev_mem.mp h
    exact Tk_lt hw (lev_lt hw h0) e
/-- how many are open is the same for all of a level -/
def pcl (U D : Nat → Bool) (c : Nat) : Int := (cnt D c : Int) - cnt U c
theorem pb_s1 : ∀ w, w < 9 → ∀ m, m < 256 → 1 ≤ w ∧ m < 2 ^ w → m.testBit (w - 1) = false → pb (2 * m) = pb m ∧ pb (2 * m + 1) = pb m + 1 := by decide +kernel
theorem pb_s2 : ∀ w, w < 9 → ∀ m, m < 256 → 1 ≤ w ∧ m < 2 ^ w → m.testBit (w - 1) = true → pb (2 * (m - 2 ^ (w - 1))) + 1 = pb m ∧ pb (2 * (m - 2 ^ (w - 1)) + 1) = pb m := by decide +kernel
theorem pb_s3 : ∀ w, w < 9 → ∀ m, m < 256 → 1 ≤ w ∧ m < 2 ^ w → m.testBit (w - 1) = false ∧ m.testBit 0 = true → pb (2 * (m - 1)) + 1 = pb m ∧ pb (2 * (m - 1) + 1) = pb m := by decide +kernel
theorem Tr_pb {w : Nat} {U D : Nat → Bool} {c m k m' : Nat} (hw1 : 1 ≤ w) (hw : w ≤ 8) (hm : m < 2 ^ w) (h : Tr w U D c m k = some m') : pb m' + (U c).toNat = pb m + (D c).toNat := by
  have h256 := pow_256 hw
  have p1 := pb_s1 w (by omega) m (by omega) ⟨hw1, hm⟩
  have p2 := pb_s2 w (by omega) m (by omega) ⟨hw1, hm⟩
  have p3 := pb_s3 w (by omega) m (by omega) ⟨hw1, hm⟩
  unfold Tr at h
  split at h
  · split at h
    · next q =>
      cases h
      have := p1 q.2
      rw [q.1]
      cases D c <;> simp <;> omega
    · cases h
  · split at h
    · cases h
    · next hU =>
      have hU : U c = true := by simpa using hU
      rw [hU]
      split at h
      · split at h
        · next q =>
          cases h
          have := p1 q.1
          rw [q.2]
          simp
          omega
        · cases h
      · split at h
        · split at h
          · next q =>
            cases h
            have := p3 ⟨q.1, q.2.2⟩
            cases D c <;> simp <;> omega
          · cases h
        · split at h
          · split at h
            · next q =>
              cases h
              have := p2 q
              cases D c <;> simp <;> omega
            · cases h
          · cases h
theorem Tk_pb {w : Nat} {U D : Nat → Bool} {c m k m' : Nat} (hw1 : 1 ≤ w) (hw : w ≤ 8) (hm : m < 2 ^ w) (h : Tk w U D c m k = some m') : pb m' + (U c).toNat = pb m + (D c).toNat := by
  unfold Tk at h
  split at h
  · exact Tr_pb hw1 hw hm h
  · split at h
    · exact Tr_pb hw1 hw hm h
    · cases h
theorem lev_pb {w : Nat} {U D : Nat → Bool} (hw1 : 1 ≤ w) (hw : w ≤ 8) : ∀ {c m : Nat}, m ∈ lev w U D c → (pb m : Int) = pcl U D c
  | 0, m, h => by
    simp [lev] at h
    subst h
    have h0 : pb 0 = 0 := by decide
    rw [h0]
    simp [pcl, cnt]
  | c + 1, m, h => by
    obtain ⟨m0, h0, j, hj, e⟩ := lev_mem.mp h
    have h1 := lev_pb hw1 hw h0
    have h2 := Tk_pb hw1 hw (lev_lt hw1 h0) e
    unfold pcl at *
    unfold cnt
    cases hU : U c <;> cases hD : D c <;> rw [hU, hD] at h2 <;> simp at h2 ⊢ <;> omega
theorem sets70 : ∀ j, j < 9 → ((List.range 256).filter (fun m => pb m == j)).length ≤ 70 := by decide +kernel
theorem sub_len : ∀ {l r : List Nat}, l.Nodup → (∀ a, a ∈ l → a ∈ r) → l.length ≤ r.length
  | [], r, _, _ => Nat.zero_le _
  | a :: l, r, hn, h => by
    rw [List.nodup_cons] at hn
    have ha : a ∈ r := h a (by simp)
    have h1 := sub_len (r := r.erase a) hn.2 (fun b hb => by
      have hne : b ≠ a := fun z => hn.1 (z ▸ hb)
      exact (List.mem_erase_of_ne hne).mpr (h b (List.mem_cons_of_mem _ hb)))
    rw [List.length_erase_of_mem ha] at h1
    have h2 : 0 < r.length := List.length_pos_of_mem ha
    rw [List.length_cons]
    omega
theorem len70 {w : Nat} (hw : w ≤ 8) {l : List Nat} (hn : l.Nodup) (hl : ∀ a, a ∈ l → a < 2 ^ w) (p : Int) (hp : ∀ a, a ∈ l → (pb a : Int) = p) : l.length ≤ 70 := by
  cases hl0 : l with
  | nil => simp
  | cons a r =>
    have ha : a ∈ l := by rw [hl0]; simp
    have h8 : pb a ≤ 8 := cnt_le _ _
    have h256 := pow_256 hw
    rw [← hl0]
    refine Nat.le_trans (sub_len hn (r := (List.range 256).filter (fun m => pb m == pb a)) (fun b hb => ?_)) (sets70 (pb a) (by omega))
    rw [List.mem_filter]
    have h1 := hp a ha
    have h2 := hp b hb
    have h3 := hl b hb
    exact ⟨List.mem_range.mpr (by omega), by simp; omega⟩
theorem lev_len {w : Nat} {U D : Nat → Bool} (hw1 : 1 ≤ w) (hw : w ≤ 8) (c : Nat) : (lev w U D c).length ≤ 70 := len70 hw (lev_nodup w U D c) (fun a ha => lev_lt hw1 ha) (pcl U D c) (fun a ha => lev_pb hw1 hw ha)
/-- where level c begins -/
def fs (w : Nat) (U D : Nat → Bool) (c : Nat) : Nat := sm (fun j => (lev w U D j).length) c
theorem fs_succ (w : Nat) (U D : Nat → Bool) (c : Nat) : fs w U D (c + 1) = fs w U D c + (lev w U D c).length := rfl
theorem fs_le {w : Nat} {U D : Nat → Bool} (hw1 : 1 ≤ w) (hw : w ≤ 8) : ∀ c, fs w U D c ≤ 70 * c
  | 0 => Nat.le_refl 0
  | c + 1 => by
    have h1 := fs_le (U := U) (D := D) hw1 hw c
    have h2 := lev_len (U := U) (D := D) hw1 hw c
    rw [fs_succ]
    omega
theorem fs_mono (w : Nat) (U D : Nat → Bool) {a b : Nat} (h : a ≤ b) : fs w U D a ≤ fs w U D b := by
  induction b with
  | zero =>
    have : a = 0 := by omega
    subst this
    exact Nat.le_refl _
  | succ b ih =>
    by_cases hab : a = b + 1
    · subst hab; exact Nat.le_refl _
    · have := ih (by omega)
      rw [fs_succ]
      omega
/-- a node's level and place in it -/
theorem fs_loc (w : Nat) (U D : Nat → Bool) : ∀ {N n : Nat}, n < fs w U D N → ∃ j i, j < N ∧ i < (lev w U D j).length ∧ n = fs w U D j + i
  | 0, n, h => by
    have : fs w U D 0 = 0 := rfl
    omega
  | N + 1, n, h => by
    by_cases hn : n < fs w U D N
    · obtain ⟨j, i, h1, h2, h3⟩ := fs_loc w U D hn
      exact ⟨j, i, by omega, h2, h3⟩
    · rw [fs_succ] at h
      exact ⟨N, n - fs w U D N, by omega, by omega, by omega⟩
