/-! facts on Int32 that the walks ask for -/
theorem sr_m1 (x : Int32) : x + (-1) = x - 1 := (Int32.sub_eq_add_neg x 1).symm
theorem sr_of {n : Nat} (hn : n < 2 ^ 31) {i : Int32} (h0 : 0 ≤ i) (h1 : i ≤ nI n) : ∃ a : Nat, a ≤ n ∧ i = nI a := by
  obtain ⟨a, ha, rfl⟩ := nI_of (x := i) (Int32.not_lt.mpr h0)
  exact ⟨a, (nI_leI ha hn).mp h1, rfl⟩
theorem sr_back {a : Nat} (h : a < 2 ^ 30) : nI a - 1 < nI a := by
  have e : (nI a - 1).toInt = (a : Int) - 1 := pk_sub_toInt (a := a) (b := 1) h (by decide)
  rw [Int32.lt_iff_toInt_lt, e, nI_toInt (by omega)]
  omega
theorem sr_48 : (48 : Int32) = nI 48 := rfl
theorem sr_le48 {m : Nat} (h : m < 2 ^ 31) : nI m ≤ 48 ↔ m ≤ 48 := nI_leI (b := 48) h (by decide)
theorem sr_lt48 {m : Nat} (h : m < 2 ^ 31) : 48 < nI m ↔ 48 < m := nI_ltI (a := 48) (by decide) h
theorem sr_eq48 {m : Nat} (h : m < 2 ^ 31) : nI m = 48 ↔ m = 48 := nI_eq (b := 48) h (by decide)
/-- j - 1 - t -/
theorem sr_e1 {b t : Nat} (h : t + 1 ≤ b) : nI b - 1 - nI t = nI (b - 1 - t) := by
  have e : nI b - 1 = nI (b - 1) := pk_sub (a := b) (b := 1) (by omega)
  rw [e]
  exact pk_sub (by omega)
/-- i + p - j -/
theorem sr_e2 {a b p : Nat} (h1 : a ≤ b) (h2 : b ≤ p) : nI a + nI p - nI b = nI (p - (b - a)) := by
  rw [nI_add, pk_sub (by omega)]
  exact congrArg nI (by omega)
/-- i + j - 1 - p -/
theorem sr_e3 {a b t : Nat} (h : a + t < b) : nI a + nI b - 1 - nI (a + t) = nI (b - 1 - t) := by
  have e : nI (a + b) - 1 = nI (a + b - 1) := pk_sub (a := a + b) (b := 1) (by omega)
  rw [nI_add, e, pk_sub (by omega)]
  exact congrArg nI (by omega)
/-- p - i + 1 -/
theorem sr_e4 {a p : Nat} (h : a ≤ p) : nI p - nI a + 1 = nI (p - a + 1) := by
  rw [pk_sub h, nI_1]
/-- n + j - i -/
theorem sr_e5 {a b n : Nat} (h : a ≤ b) : nI n + nI b - nI a = nI (n + (b - a)) := by
  rw [nI_add, pk_sub (by omega)]
  exact congrArg nI (by omega)
/-- p - k + j - i, the number laid behind the end -/
theorem sr_e6 {a b k t : Nat} (h : a + k ≤ b) : nI (a + t) - nI k + nI b - nI a = nI (t + b - k) := by
  have e1 : nI (t + b) = nI t + nI b := (nI_add t b).symm
  have e2 : nI (a + t) = nI a + nI t := (nI_add a t).symm
  have e3 : nI (t + b) - nI k = nI (t + b - k) := pk_sub (by omega)
  rw [← e3, e1, e2]
  grind
theorem sr_lt_k {a t k : Nat} (ha : a + t < 2 ^ 30) (hk : k < 2 ^ 30) : nI (a + t) - nI k < nI a ↔ t < k := by
  rw [Int32.lt_iff_toInt_lt, pk_sub_toInt ha hk, nI_toInt (by omega)]
  omega
theorem sr_half {a b : Nat} (h : a ≤ b) (hb : b ≤ 48) : (nI b - nI a) / 2 = nI ((b - a) / 2) := by
  rw [pk_sub h]
  exact pk_div (d := 2) (by omega) (by decide) (by decide)
/-- the numbers of the document -/
def sr_num (v : Int32) : Prop := -1000000 ≤ v ∧ v ≤ 1000000
/-- a stretch of a row of n -/
def sr_st (n : Nat) (i j : Int32) : Prop := 0 ≤ i ∧ i ≤ j ∧ j ≤ nI n
theorem sr_st_of {n : Nat} (hn : n ≤ 48) {i j : Int32} (h : sr_st n i j) : ∃ a b : Nat, a ≤ b ∧ b ≤ n ∧ i = nI a ∧ j = nI b := by
  obtain ⟨h0, h1, h2⟩ := h
  obtain ⟨b, hb, rfl⟩ := sr_of (by omega) (Int32.le_trans h0 h1) h2
  obtain ⟨a, ha, rfl⟩ := sr_of (by omega) h0 h1
  exact ⟨a, b, ha, hb, rfl, rfl⟩
/-- n - k with n a row's size and k not below 0 -/
theorem sr_nk {n : Nat} (hn : n ≤ 48) {k : Nat} (hk : k < 2 ^ 31) : (nI n - nI k).toInt = (n : Int) - k := by
  rw [Int32.toInt_sub, nI_toInt (by omega), nI_toInt hk]
  exact Int.bmod_eq_of_le (by omega) (by omega)
/-- every number of the stretch may be raised by d -/
def sr_can (d : Int32) (f : Nat → Int32) : Nat → Nat → Prop
  | 0, _ => True
  | m + 1, p => sr_num (f p + d) ∧ sr_can d f m (p + 1)
theorem sr_n4 {q : Nat} (h : q < 48) : ¬ nI q = -4 := fun e => by
  have z : ¬ nI q < 0 := nI_pos (by omega)
  rw [e] at z
  exact z (by decide)
