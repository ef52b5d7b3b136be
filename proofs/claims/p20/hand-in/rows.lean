section
/-! the loops' pure functions: both sides write the same cells, so one function serves both -/
theorem pk_us {f : Nat → Int32} {k : Nat} {x : Int32} : upd f k x k = x := if_pos rfl
theorem pk_un {f : Nat → Int32} {k j : Nat} {x : Int32} (h : j ≠ k) : upd f k x j = f j := if_neg h
theorem pk_sub {a b : Nat} (h : b ≤ a) : nI a - nI b = nI (a - b) := by
  obtain ⟨c, rfl⟩ : ∃ c, a = c + b := ⟨a - b, by omega⟩
  rw [← nI_add, Int32.add_sub_cancel, Nat.add_sub_cancel]
theorem pk_mul (a b : Nat) : nI a * nI b = nI (a * b) := (Int32.ofNat_mul a b).symm
theorem pk_div {a d : Nat} (ha : a < 2 ^ 31) (h0 : 0 < d) (hd : d < 2 ^ 31) : nI a / nI d = nI (a / d) := by
  apply Int32.toInt_inj.mp
  rw [lg_idiv_nonneg (by rw [nI_toInt ha]; omega) (by rw [nI_toInt hd]; omega), nI_toInt ha, nI_toInt hd, nI_toInt (Nat.lt_of_le_of_lt (Nat.div_le_self a d) ha)]
  first | rfl | exact (Int.natCast_ediv _ _).symm
theorem pk_sub_toInt {a b : Nat} (ha : a < 2 ^ 30) (hb : b < 2 ^ 30) : (nI a - nI b).toInt = (a : Int) - b := by
  rw [Int32.toInt_sub, nI_toInt (by omega), nI_toInt (by omega)]
  exact Int.bmod_eq_of_le (by omega) (by omega)

theorem sr_upd_at (f : Nat → Int32) (k : Nat) (v : Int32) (j : Nat) : upd f k v j = if j = k then v else f j := rfl
theorem sr_upd_self (f : Nat → Int32) (k : Nat) : upd f k (f k) = f := by
  funext j
  rw [sr_upd_at]
  by_cases h : j = k
  · rw [if_pos h, h]
  · rw [if_neg h]

/-- the gap of k cells at a, opened from the back: d numbers are still to be moved -/
def sr_opn (a k : Nat) : Nat → (Nat → Int32) → (Nat → Int32)
  | 0, f => f
  | d + 1, f => sr_opn a k d (upd f (a + d + k) (f (a + d)))
theorem sr_opn0 (a : Nat) : ∀ (d : Nat) (f : Nat → Int32), sr_opn a 0 d f = f := by
  intro d
  induction d with
  | zero => intro f; rfl
  | succ d ih =>
    intro f
    show sr_opn a 0 d (upd f (a + d + 0) (f (a + d))) = f
    rw [Nat.add_zero, sr_upd_self]
    exact ih f
/-- a run's numbers written: m more, t written already -/
def sr_run (a : Nat) (v d : Int32) : Nat → Nat → (Nat → Int32) → (Nat → Int32)
  | 0, _, f => f
  | m + 1, t, f => sr_run a v d m (t + 1) (upd f (a + t) (v + nI t * d))
/-- the clip g written at a -/
def sr_pst (a : Nat) (g : Nat → Int32) : Nat → Nat → (Nat → Int32) → (Nat → Int32)
  | 0, _, f => f
  | m + 1, t, f => sr_pst a g m (t + 1) (upd f (a + t) (g t))
/-- the gap from a to b closed: m numbers more, the next at p -/
def sr_cls (a b : Nat) : Nat → Nat → (Nat → Int32) → (Nat → Int32)
  | 0, _, f => f
  | m + 1, p, f => sr_cls a b m (p + 1) (upd f (p - (b - a)) (f p))
/-- the clip filled from a on -/
def sr_tak (a : Nat) (f : Nat → Int32) : Nat → Nat → (Nat → Int32) → (Nat → Int32)
  | 0, _, g => g
  | m + 1, p, g => sr_tak a f m (p + 1) (upd g (p - a) (f p))
/-- h at every number of a stretch -/
def sr_map (h : Int32 → Int32) : Nat → Nat → (Nat → Int32) → (Nat → Int32)
  | 0, _, f => f
  | m + 1, p, f => sr_map h m (p + 1) (upd f p (h (f p)))
def sr_sum (f : Nat → Int32) : Nat → Nat → Int32 → Int32
  | 0, _, s => s
  | m + 1, p, s => sr_sum f m (p + 1) (s + f p)
def sr_wgt (a : Nat) (f : Nat → Int32) : Nat → Nat → Int32 → Int32
  | 0, _, s => s
  | m + 1, p, s => sr_wgt a f m (p + 1) (s + nI (p - a + 1) * f p)
/-- the place of the greatest: the best so far at q -/
def sr_gr (f : Nat → Int32) : Nat → Nat → Nat → Nat
  | 0, _, q => q
  | m + 1, p, q => sr_gr f m (p + 1) (if f q < f p then p else q)
theorem sr_gr_lt (f : Nat → Int32) (B : Nat) : ∀ (m p q : Nat), p + m ≤ B → q < B → sr_gr f m p q < B := by
  intro m
  induction m with
  | zero => intro p q _ h; exact h
  | succ m ih =>
    intro p q hp hq
    refine ih (p + 1) _ (by omega) ?_
    by_cases h : f q < f p
    · rw [if_pos h]; omega
    · rw [if_neg h]; exact hq

/-- a stretch turned round -/
def sr_rev (a b : Nat) (f : Nat → Int32) : Nat → Int32 := fun x => if a ≤ x ∧ x < b then f (a + b - 1 - x) else f x
theorem sr_rev_at (a b : Nat) (f : Nat → Int32) (x : Nat) : sr_rev a b f x = if a ≤ x ∧ x < b then f (a + b - 1 - x) else f x := rfl
/-- t swaps from both ends done -/
def sr_sw (a b t : Nat) (f : Nat → Int32) : Nat → Int32 := fun x => if (a ≤ x ∧ x < a + t) ∨ (b ≤ x + t ∧ x < b) then f (a + b - 1 - x) else f x
theorem sr_sw_at (a b t : Nat) (f : Nat → Int32) (x : Nat) : sr_sw a b t f x = if (a ≤ x ∧ x < a + t) ∨ (b ≤ x + t ∧ x < b) then f (a + b - 1 - x) else f x := rfl
theorem sr_sw0 (a b : Nat) (f : Nat → Int32) : sr_sw a b 0 f = f := by
  funext x
  rw [sr_sw_at, if_neg (by omega)]
theorem sr_swS {a b t : Nat} (f : Nat → Int32) (h : a + 2 * t + 2 ≤ b) : upd (upd (sr_sw a b t f) (a + t) (sr_sw a b t f (b - 1 - t))) (b - 1 - t) (sr_sw a b t f (a + t)) = sr_sw a b (t + 1) f := by
  funext x
  have e1 : sr_sw a b t f (b - 1 - t) = f (b - 1 - t) := by rw [sr_sw_at, if_neg (by omega)]
  have e2 : sr_sw a b t f (a + t) = f (a + t) := by rw [sr_sw_at, if_neg (by omega)]
  rw [e1, e2, sr_upd_at, sr_upd_at, sr_sw_at, sr_sw_at]
  by_cases h1 : x = b - 1 - t
  · rw [if_pos h1, if_pos (by omega)]
    exact congrArg f (by omega)
  · rw [if_neg h1]
    by_cases h2 : x = a + t
    · rw [if_pos h2, if_pos (by omega)]
      exact congrArg f (by omega)
    · rw [if_neg h2]
      by_cases h3 : (a ≤ x ∧ x < a + t) ∨ (b ≤ x + t ∧ x < b)
      · rw [if_pos h3, if_pos (by omega)]
      · rw [if_neg h3, if_neg (by omega)]
theorem sr_swE {a b : Nat} (f : Nat → Int32) (h : a ≤ b) : sr_sw a b ((b - a) / 2) f = sr_rev a b f := by
  funext x
  rw [sr_sw_at, sr_rev_at]
  by_cases h1 : (a ≤ x ∧ x < a + (b - a) / 2) ∨ (b ≤ x + (b - a) / 2 ∧ x < b)
  · rw [if_pos h1, if_pos (by omega)]
  · rw [if_neg h1]
    by_cases h2 : a ≤ x ∧ x < b
    · rw [if_pos h2]
      exact congrArg f (by omega)
    · rw [if_neg h2]
/-- the spare row of the reference's reverse, t numbers written -/
def sr_rs (a b t : Nat) (f s : Nat → Int32) : Nat → Int32 := fun x => if b ≤ x + t ∧ x < b then f (a + b - 1 - x) else s x
theorem sr_rs_at (a b t : Nat) (f s : Nat → Int32) (x : Nat) : sr_rs a b t f s x = if b ≤ x + t ∧ x < b then f (a + b - 1 - x) else s x := rfl
theorem sr_rs0 (a b : Nat) (f s : Nat → Int32) : sr_rs a b 0 f s = s := by
  funext x
  rw [sr_rs_at, if_neg (by omega)]
theorem sr_rsS {a b t : Nat} (f s : Nat → Int32) (h : a + t < b) : upd (sr_rs a b t f s) (b - 1 - t) (f (a + t)) = sr_rs a b (t + 1) f s := by
  funext x
  rw [sr_upd_at, sr_rs_at, sr_rs_at]
  by_cases h1 : x = b - 1 - t
  · rw [if_pos h1, if_pos (by omega)]
    exact congrArg f (by omega)
  · rw [if_neg h1]
    by_cases h3 : b ≤ x + t ∧ x < b
    · rw [if_pos h3, if_pos (by omega)]
    · rw [if_neg h3, if_neg (by omega)]
/-- t numbers copied back from s -/
def sr_bk (s : Nat → Int32) (a t : Nat) (f : Nat → Int32) : Nat → Int32 := fun x => if a ≤ x ∧ x < a + t then s x else f x
theorem sr_bk_at (s : Nat → Int32) (a t : Nat) (f : Nat → Int32) (x : Nat) : sr_bk s a t f x = if a ≤ x ∧ x < a + t then s x else f x := rfl
theorem sr_bk0 (s : Nat → Int32) (a : Nat) (f : Nat → Int32) : sr_bk s a 0 f = f := by
  funext x
  rw [sr_bk_at, if_neg (by omega)]
theorem sr_bkS (s : Nat → Int32) (a t : Nat) (f : Nat → Int32) : upd (sr_bk s a t f) (a + t) (s (a + t)) = sr_bk s a (t + 1) f := by
  funext x
  rw [sr_upd_at, sr_bk_at, sr_bk_at]
  by_cases h1 : x = a + t
  · rw [if_pos h1, if_pos (by omega), h1]
  · rw [if_neg h1]
    by_cases h3 : a ≤ x ∧ x < a + t
    · rw [if_pos h3, if_pos (by omega)]
    · rw [if_neg h3, if_neg (by omega)]
theorem sr_revE {a b : Nat} (f s : Nat → Int32) (h : a ≤ b) : sr_bk (sr_rs a b (b - a) f s) a (b - a) f = sr_rev a b f := by
  funext x
  rw [sr_bk_at, sr_rev_at]
  by_cases h2 : a ≤ x ∧ x < b
  · rw [if_pos (by omega), if_pos h2, sr_rs_at, if_pos (by omega)]
  · rw [if_neg (by omega), if_neg h2]

/-- where the number comes from that a rotation by k lays at x -/
def sr_src (a b k x : Nat) : Nat := if x + k < b then x + k else x + k - (b - a)
theorem sr_src_at (a b k x : Nat) : sr_src a b k x = if x + k < b then x + k else x + k - (b - a) := rfl
def sr_rot (a b k : Nat) (f : Nat → Int32) : Nat → Int32 := fun x => if a ≤ x ∧ x < b then f (sr_src a b k x) else f x
theorem sr_rot_at (a b k : Nat) (f : Nat → Int32) (x : Nat) : sr_rot a b k f x = if a ≤ x ∧ x < b then f (sr_src a b k x) else f x := rfl
/-- the spare row of the reference's rotate, t numbers written -/
def sr_ts (a b k t : Nat) (f s : Nat → Int32) : Nat → Int32 := fun x => if (a ≤ x ∧ x < b) ∧ sr_src a b k x < a + t then f (sr_src a b k x) else s x
theorem sr_ts_at (a b k t : Nat) (f s : Nat → Int32) (x : Nat) : sr_ts a b k t f s x = if (a ≤ x ∧ x < b) ∧ sr_src a b k x < a + t then f (sr_src a b k x) else s x := rfl
theorem sr_src_ge {a b k x : Nat} (h1 : a ≤ x) (h2 : x < b) : a ≤ sr_src a b k x := by
  rw [sr_src_at]
  by_cases h : x + k < b
  · rw [if_pos h]; omega
  · rw [if_neg h]; omega
theorem sr_ts0 (a b k : Nat) (f s : Nat → Int32) : sr_ts a b k 0 f s = s := by
  funext x
  rw [sr_ts_at, if_neg]
  intro h
  have := sr_src_ge (k := k) h.1.1 h.1.2
  omega
/-- where the reference lays the number at a + t -/
def sr_to (a b k t : Nat) : Nat := if t < k then t + b - k else a + t - k
theorem sr_to_in {a b k t : Nat} (hk : a + k ≤ b) (h : a + t < b) : a ≤ sr_to a b k t ∧ sr_to a b k t < b := by
  unfold sr_to
  by_cases h1 : t < k
  · rw [if_pos h1]; omega
  · rw [if_neg h1]; omega
theorem sr_src_to {a b k t : Nat} (hk : a + k ≤ b) (h : a + t < b) : sr_src a b k (sr_to a b k t) = a + t := by
  unfold sr_to sr_src
  by_cases h1 : t < k
  · rw [if_pos h1]
    rw [if_neg (by omega)]; omega
  · rw [if_neg h1]
    rw [if_pos (by omega)]; omega
theorem sr_to_src {a b k t x : Nat} (hk : a + k ≤ b) (h : a + t < b) (h1 : a ≤ x) (h2 : x < b) (e : sr_src a b k x = a + t) : x = sr_to a b k t := by
  rw [sr_src_at] at e
  unfold sr_to
  by_cases h3 : x + k < b
  · rw [if_pos h3] at e
    rw [if_neg (by omega)]; omega
  · rw [if_neg h3] at e
    rw [if_pos (by omega)]; omega
theorem sr_tsS {a b k t : Nat} (f s : Nat → Int32) (hk : a + k ≤ b) (h : a + t < b) : upd (sr_ts a b k t f s) (sr_to a b k t) (f (a + t)) = sr_ts a b k (t + 1) f s := by
  funext x
  rw [sr_upd_at, sr_ts_at, sr_ts_at]
  by_cases h1 : x = sr_to a b k t
  · have hin := sr_to_in hk h
    have hs := sr_src_to hk h
    rw [if_pos h1, h1, hs, if_pos ⟨hin, by omega⟩]
  · rw [if_neg h1]
    by_cases h2 : a ≤ x ∧ x < b
    · have hne : sr_src a b k x ≠ a + t := fun e => h1 (sr_to_src hk h h2.1 h2.2 e)
      by_cases h3 : sr_src a b k x < a + t
      · rw [if_pos ⟨h2, h3⟩, if_pos ⟨h2, by omega⟩]
      · rw [if_neg (fun z => h3 z.2), if_neg (fun z => h3 (by have := z.2; omega))]
    · rw [if_neg (fun z => h2 z.1), if_neg (fun z => h2 z.1)]
theorem sr_src_lt {a b k x : Nat} (hk : a + k ≤ b) (h1 : a ≤ x) (h2 : x < b) : sr_src a b k x < b := by
  rw [sr_src_at]
  by_cases h : x + k < b
  · rw [if_pos h]; exact h
  · rw [if_neg h]; omega
theorem sr_rotE {a b k : Nat} (f s : Nat → Int32) (hk : a + k ≤ b) : sr_bk (sr_ts a b k (b - a) f s) a (b - a) f = sr_rot a b k f := by
  funext x
  rw [sr_bk_at, sr_rot_at]
  by_cases h2 : a ≤ x ∧ x < b
  · have := sr_src_lt hk h2.1 h2.2
    rw [if_pos (by omega), if_pos h2, sr_ts_at, if_pos ⟨h2, by omega⟩]
  · rw [if_neg (by omega), if_neg h2]
theorem sr_rev3 {a b k : Nat} (f : Nat → Int32) (hk : a + k ≤ b) : sr_rev a b (sr_rev (a + k) b (sr_rev a (a + k) f)) = sr_rot a b k f := by
  funext x
  rw [sr_rev_at a b, sr_rot_at]
  by_cases h : a ≤ x ∧ x < b
  · rw [if_pos h, if_pos h, sr_rev_at (a + k) b, sr_src_at]
    by_cases h1 : x + k < b
    · rw [if_pos (by omega), if_pos h1, sr_rev_at, if_neg (by omega)]
      exact congrArg f (by omega)
    · rw [if_neg (by omega), if_neg h1, sr_rev_at, if_pos (by omega)]
      exact congrArg f (by omega)
  · rw [if_neg h, if_neg h, sr_rev_at, if_neg (by omega), sr_rev_at, if_neg (by omega)]
end
section
/-! facts on Int32 that the walks ask for -/
theorem sr_m1 (x : Int32) : x + (-1) = x - 1 := (Int32.sub_eq_add_neg x 1).symm
theorem sr_of {n : Nat} (hn : n < 2 ^ 31) {i : Int32} (h0 : 0 ≤ i) (h1 : i ≤ nI n) : ∃ a : Nat, a ≤ n ∧ i = nI a := by
  obtain ⟨a, ha, rfl⟩ := nI_of (x := i) (Int32.not_lt.mpr h0)
  exact ⟨a, (nI_leI ha hn).mp h1, rfl⟩
theorem sr_back {a : Nat} (h : a < 2 ^ 30) : nI a - 1 < nI a := by
  have e : (nI a - 1).toInt = (a : Int) - 1 := pk_sub_toInt (a := a) (b := 1) h (by decide)
  rw [Int32.lt_iff_toInt_lt, e, nI_toInt (by omega)]
  omega
theorem sr_48 : (48 : Int32) = nI 48 := rfl
theorem sr_le48 {m : Nat} (h : m < 2 ^ 31) : nI m ≤ 48 ↔ m ≤ 48 := nI_leI (b := 48) h (by decide)
theorem sr_lt48 {m : Nat} (h : m < 2 ^ 31) : 48 < nI m ↔ 48 < m := nI_ltI (a := 48) (by decide) h
theorem sr_eq48 {m : Nat} (h : m < 2 ^ 31) : nI m = 48 ↔ m = 48 := nI_eq (b := 48) h (by decide)
/-- j - 1 - t -/
theorem sr_e1 {b t : Nat} (h : t + 1 ≤ b) : nI b - 1 - nI t = nI (b - 1 - t) := by
  have e : nI b - 1 = nI (b - 1) := pk_sub (a := b) (b := 1) (by omega)
  rw [e]
  exact pk_sub (by omega)
/-- i + p - j -/
theorem sr_e2 {a b p : Nat} (h1 : a ≤ b) (h2 : b ≤ p) : nI a + nI p - nI b = nI (p - (b - a)) := by
  rw [nI_add, pk_sub (by omega)]
  exact congrArg nI (by omega)
/-- i + j - 1 - p -/
theorem sr_e3 {a b t : Nat} (h : a + t < b) : nI a + nI b - 1 - nI (a + t) = nI (b - 1 - t) := by
  have e : nI (a + b) - 1 = nI (a + b - 1) := pk_sub (a := a + b) (b := 1) (by omega)
  rw [nI_add, e, pk_sub (by omega)]
  exact congrArg nI (by omega)
/-- p - i + 1 -/
theorem sr_e4 {a p : Nat} (h : a ≤ p) : nI p - nI a + 1 = nI (p - a + 1) := by
  rw [pk_sub h, nI_1]
/-- n + j - i -/
theorem sr_e5 {a b n : Nat} (h : a ≤ b) : nI n + nI b - nI a = nI (n + (b - a)) := by
  rw [nI_add, pk_sub (by omega)]
  exact congrArg nI (by omega)
/-- p - k + j - i, the number laid behind the end -/
theorem sr_e6 {a b k t : Nat} (h : a + k ≤ b) : nI (a + t) - nI k + nI b - nI a = nI (t + b - k) := by
  have e1 : nI (t + b) = nI t + nI b := (nI_add t b).symm
  have e2 : nI (a + t) = nI a + nI t := (nI_add a t).symm
  have e3 : nI (t + b) - nI k = nI (t + b - k) := pk_sub (by omega)
  rw [← e3, e1, e2]
  grind
theorem sr_lt_k {a t k : Nat} (ha : a + t < 2 ^ 30) (hk : k < 2 ^ 30) : nI (a + t) - nI k < nI a ↔ t < k := by
  rw [Int32.lt_iff_toInt_lt, pk_sub_toInt ha hk, nI_toInt (by omega)]
  omega
theorem sr_half {a b : Nat} (h : a ≤ b) (hb : b ≤ 48) : (nI b - nI a) / 2 = nI ((b - a) / 2) := by
  rw [pk_sub h]
  exact pk_div (d := 2) (by omega) (by decide) (by decide)
/-- the numbers of the document -/
def sr_num (v : Int32) : Prop := -1000000 ≤ v ∧ v ≤ 1000000
/-- a stretch of a row of n -/
def sr_st (n : Nat) (i j : Int32) : Prop := 0 ≤ i ∧ i ≤ j ∧ j ≤ nI n
theorem sr_st_of {n : Nat} (hn : n ≤ 48) {i j : Int32} (h : sr_st n i j) : ∃ a b : Nat, a ≤ b ∧ b ≤ n ∧ i = nI a ∧ j = nI b := by
  obtain ⟨h0, h1, h2⟩ := h
  obtain ⟨b, hb, rfl⟩ := sr_of (by omega) (Int32.le_trans h0 h1) h2
  obtain ⟨a, ha, rfl⟩ := sr_of (by omega) h0 h1
  exact ⟨a, b, ha, hb, rfl, rfl⟩
/-- n - k with n a row's size and k not below 0 -/
theorem sr_nk {n : Nat} (hn : n ≤ 48) {k : Nat} (hk : k < 2 ^ 31) : (nI n - nI k).toInt = (n : Int) - k := by
  rw [Int32.toInt_sub, nI_toInt (by omega), nI_toInt hk]
  exact Int.bmod_eq_of_le (by omega) (by omega)
/-- every number of the stretch may be raised by d -/
def sr_can (d : Int32) (f : Nat → Int32) : Nat → Nat → Prop
  | 0, _ => True
  | m + 1, p => sr_num (f p + d) ∧ sr_can d f m (p + 1)
theorem sr_n4 {q : Nat} (h : q < 48) : ¬ nI q = -4 := fun e => by
  have z : ¬ nI q < 0 := nI_pos (by omega)
  rw [e] at z
  exact z (by decide)
end
section
/-! the loops of the class, each against its pure function -/
theorem sr_xlim_t {post : Int32 → Prop} {x : Int32} (hx : sr_num x) (h : post 1) : wpX_isWithinLimit post x := br_f (Int32.not_lt.mpr hx.1) (br_f (Int32.not_lt.mpr hx.2) h)
theorem sr_xlim_f {post : Int32 → Prop} {x : Int32} (hx : ¬ sr_num x) (h : post 0) : wpX_isWithinLimit post x := br_c (fun _ => h) (fun z => br_c (fun _ => h) (fun y => absurd ⟨Int32.not_lt.mp z, Int32.not_lt.mp y⟩ hx))
theorem sr_xst_t {n : Nat} {C i j : Int32} {f g : Nat → Int32} {post : Int32 → Prop} (hx : sr_st n i j) (h : post 1) : wpX_isStretch post (nI n, C, f, g) i j := br_f (Int32.not_lt.mpr hx.1) (br_f (Int32.not_lt.mpr hx.2.1) (br_f (Int32.not_lt.mpr hx.2.2) h))
theorem sr_xst_f {n : Nat} {C i j : Int32} {f g : Nat → Int32} {post : Int32 → Prop} (hx : ¬ sr_st n i j) (h : post 0) : wpX_isStretch post (nI n, C, f, g) i j := br_c (fun _ => h) (fun z => br_c (fun _ => h) (fun y => br_c (fun _ => h) (fun w => absurd ⟨Int32.not_lt.mp z, Int32.not_lt.mp y, Int32.not_lt.mp w⟩ hx)))
theorem sr_xopn {n a k : Nat} {C : Int32} {g : Nat → Int32} {post : SX → Prop} (hk : n + k ≤ 48) : ∀ (d N : Nat) (f : Nat → Int32), a + d ≤ n → d < N → post (nI (n + k), C, sr_opn a k d f, g) → wX_openGap_7 post (nI a) (nI k) (nI n) C N (nI (a + d) - 1) f g := by
  intro d
  induction d with
  | zero =>
    intro N f hd hN h
    obtain ⟨N, rfl⟩ : ∃ M, N = M + 1 := ⟨N - 1, by omega⟩
    exact br_t (sr_back (by omega)) (nm_r (nI_add n k) h)
  | succ d ih =>
    intro N f hd hN h
    obtain ⟨N, rfl⟩ : ∃ M, N = M + 1 := ⟨N - 1, by omega⟩
    have e : nI (a + (d + 1)) - 1 = nI (a + d) := nI_pred (a + d)
    rw [e]
    refine br_f (nI_nlt (by omega) (by omega)) ⟨vp_in_nI (by omega) (by omega), ?_, ?_⟩
    · rw [nI_add]
      exact vp_in_nI (by omega) (by omega)
    · refine nm_r (e' := upd f (a + d + k) (f (a + d))) ?_ ?_
      · rw [nI_add, nI_clamp (by omega), nI_clamp (by omega)]
      · refine nm_r (sr_m1 (nI (a + d))) ?_
        exact ih N _ (by omega) (by omega) h
theorem sr_xOpen {n a k : Nat} {C : Int32} {f g : Nat → Int32} {post : SX → Prop} (hk : n + k ≤ 48) (ha : a ≤ n) (h : post (nI (n + k), C, sr_opn a k (n - a) f, g)) : wpX_openGap post (nI n, C, f, g) (nI a) (nI k) := by
  have e : a + (n - a) = n := by omega
  have z := sr_xopn (C := C) (g := g) hk (n - a) (n - a + 1) f (by omega) (by omega) h
  rw [e] at z
  exact nm_e ⟨_, z⟩
theorem sr_xrun {a k : Nat} {v d R C : Int32} {g : Nat → Int32} {post : Int32 → SX → Prop} (hk : a + k ≤ 48) : ∀ (m t N : Nat) (f : Nat → Int32), t + m = k → m < N → post R (R, C, sr_run a v d m t f, g) → wX_insertRun_40 post (nI a) (nI k) v d R C N (nI t) f g := by
  intro m
  induction m with
  | zero =>
    intro t N f ht hN h
    obtain ⟨N, rfl⟩ : ∃ M, N = M + 1 := ⟨N - 1, by omega⟩
    exact br_t (nI_le (by omega) (by omega)) h
  | succ m ih =>
    intro t N f ht hN h
    obtain ⟨N, rfl⟩ : ∃ M, N = M + 1 := ⟨N - 1, by omega⟩
    refine br_f (nI_ge (by omega) (by omega)) ⟨?_, ?_⟩
    · rw [nI_add]
      exact vp_in_nI (by omega) (by omega)
    · refine nm_r (e' := upd f (a + t) (v + nI t * d)) ?_ ?_
      · rw [nI_add, nI_clamp (by omega)]
      · refine nm_r (nI_1 t) ?_
        exact ih (t + 1) N _ (by omega) (by omega) h
theorem sr_xpst {a c : Nat} {R : Int32} {g : Nat → Int32} {post : Int32 → SX → Prop} (hk : a + c ≤ 48) : ∀ (m t N : Nat) (f : Nat → Int32), t + m = c → m < N → post R (R, 0, sr_pst a g m t f, g) → wX_paste_21 post (nI a) R (nI c) N (nI t) f g := by
  intro m
  induction m with
  | zero =>
    intro t N f ht hN h
    obtain ⟨N, rfl⟩ : ∃ M, N = M + 1 := ⟨N - 1, by omega⟩
    exact br_t (nI_le (by omega) (by omega)) h
  | succ m ih =>
    intro t N f ht hN h
    obtain ⟨N, rfl⟩ : ∃ M, N = M + 1 := ⟨N - 1, by omega⟩
    refine br_f (nI_ge (by omega) (by omega)) ⟨vp_in_nI (by omega) (by omega), ?_, ?_⟩
    · rw [nI_add]
      exact vp_in_nI (by omega) (by omega)
    · refine nm_r (e' := upd f (a + t) (g t)) ?_ ?_
      · rw [nI_add, nI_clamp (by omega), nI_clamp (by omega)]
      · refine nm_r (nI_1 t) ?_
        exact ih (t + 1) N _ (by omega) (by omega) h
theorem sr_xrai {a b : Nat} {d R C : Int32} {g : Nat → Int32} {post : Int32 → SX → Prop} (hb : b ≤ 48) : ∀ (m p N : Nat) (f : Nat → Int32), p + m = b → m < N → post (nI b - nI a) (R, C, sr_map (fun x => x + d) m p f, g) → wX_raise_31 post (nI a) (nI b) d R C N (nI p) f g := by
  intro m
  induction m with
  | zero =>
    intro p N f hp hN h
    obtain ⟨N, rfl⟩ : ∃ M, N = M + 1 := ⟨N - 1, by omega⟩
    exact br_t (nI_le (by omega) (by omega)) h
  | succ m ih =>
    intro p N f hp hN h
    obtain ⟨N, rfl⟩ : ∃ M, N = M + 1 := ⟨N - 1, by omega⟩
    refine br_f (nI_ge (by omega) (by omega)) ⟨vp_in_nI (by omega) (by omega), vp_in_nI (by omega) (by omega), ?_⟩
    refine nm_r (e' := upd f p (f p + d)) ?_ ?_
    · rw [nI_clamp (by omega)]
    · refine nm_r (nI_1 p) ?_
      exact ih (p + 1) N _ (by omega) (by omega) h
theorem sr_xneg {a b : Nat} {R C : Int32} {g : Nat → Int32} {post : Int32 → SX → Prop} (hb : b ≤ 48) : ∀ (m p N : Nat) (f : Nat → Int32), p + m = b → m < N → post (nI b - nI a) (R, C, sr_map (fun x => -x) m p f, g) → wX_negate_13 post (nI a) (nI b) R C N (nI p) f g := by
  intro m
  induction m with
  | zero =>
    intro p N f hp hN h
    obtain ⟨N, rfl⟩ : ∃ M, N = M + 1 := ⟨N - 1, by omega⟩
    exact br_t (nI_le (by omega) (by omega)) h
  | succ m ih =>
    intro p N f hp hN h
    obtain ⟨N, rfl⟩ : ∃ M, N = M + 1 := ⟨N - 1, by omega⟩
    refine br_f (nI_ge (by omega) (by omega)) ⟨vp_in_nI (by omega) (by omega), vp_in_nI (by omega) (by omega), ?_⟩
    refine nm_r (e' := upd f p (-(f p))) ?_ ?_
    · rw [nI_clamp (by omega)]
    · refine nm_r (nI_1 p) ?_
      exact ih (p + 1) N _ (by omega) (by omega) h
theorem sr_xsum {b : Nat} {R C : Int32} {f g : Nat → Int32} {post : Int32 → Prop} (hb : b ≤ 48) : ∀ (m p N : Nat) (y : Int32), p + m = b → m < N → post (sr_sum f m p y) → wX_sum_16 post (nI b) R C f g N y (nI p) := by
  intro m
  induction m with
  | zero =>
    intro p N y hp hN h
    obtain ⟨N, rfl⟩ : ∃ M, N = M + 1 := ⟨N - 1, by omega⟩
    exact br_t (nI_le (by omega) (by omega)) h
  | succ m ih =>
    intro p N y hp hN h
    obtain ⟨N, rfl⟩ : ∃ M, N = M + 1 := ⟨N - 1, by omega⟩
    refine br_f (nI_ge (by omega) (by omega)) ⟨vp_in_nI (by omega) (by omega), ?_⟩
    refine nm_r (e' := y + f p) ?_ ?_
    · rw [nI_clamp (by omega)]
    · refine nm_r (nI_1 p) ?_
      exact ih (p + 1) N _ (by omega) (by omega) h
theorem sr_xwgt {a b : Nat} {R C : Int32} {f g : Nat → Int32} {post : Int32 → Prop} (hb : b ≤ 48) : ∀ (m p N : Nat) (y : Int32), a ≤ p → p + m = b → m < N → post (sr_wgt a f m p y) → wX_weighted_16 post (nI a) (nI b) R C f g N y (nI p) := by
  intro m
  induction m with
  | zero =>
    intro p N y ha hp hN h
    obtain ⟨N, rfl⟩ : ∃ M, N = M + 1 := ⟨N - 1, by omega⟩
    exact br_t (nI_le (by omega) (by omega)) h
  | succ m ih =>
    intro p N y ha hp hN h
    obtain ⟨N, rfl⟩ : ∃ M, N = M + 1 := ⟨N - 1, by omega⟩
    refine br_f (nI_ge (by omega) (by omega)) ⟨vp_in_nI (by omega) (by omega), ?_⟩
    refine nm_r (e' := y + nI (p - a + 1) * f p) ?_ ?_
    · rw [nI_clamp (by omega), sr_e4 ha]
    · refine nm_r (nI_1 p) ?_
      exact ih (p + 1) N _ (by omega) (by omega) (by omega) h
theorem sr_xgr {b : Nat} {R C : Int32} {f g : Nat → Int32} {post : Int32 → Prop} (hb : b ≤ 48) : ∀ (m p q N : Nat), p + m = b → q < b → m < N → post (nI (sr_gr f m p q)) → wX_placeOfGreatest_7 post (nI b) R C f g N (nI q) (nI p) := by
  intro m
  induction m with
  | zero =>
    intro p q N hp hq hN h
    obtain ⟨N, rfl⟩ : ∃ M, N = M + 1 := ⟨N - 1, by omega⟩
    exact br_t (nI_le (by omega) (by omega)) h
  | succ m ih =>
    intro p q N hp hq hN h
    obtain ⟨N, rfl⟩ : ∃ M, N = M + 1 := ⟨N - 1, by omega⟩
    have h' : post (nI (sr_gr f m (p + 1) (if f q < f p then p else q))) := h
    refine br_f (nI_ge (by omega) (by omega)) ?_
    refine ⟨vp_in_nI (by omega) (by omega), vp_in_nI (by omega) (by omega), ?_⟩
    rw [nI_clamp (n := p) (by omega), nI_clamp (n := q) (by omega)]
    by_cases z : f p ≤ f q
    · rw [if_neg (Int32.not_lt.mpr z)] at h'
      refine br_t z (nm_r (nI_1 p) ?_)
      exact ih (p + 1) q N (by omega) (by omega) (by omega) h'
    · rw [if_pos (Int32.not_le.mp z)] at h'
      refine br_f z (nm_r (nI_1 p) ?_)
      exact ih (p + 1) p N (by omega) (by omega) (by omega) h'

theorem sr_xgap_t {n : Nat} {C i : Int32} {f g : Nat → Int32} {post : Int32 → Prop} (h0 : 0 ≤ i) (h1 : i ≤ nI n) (h : post 1) : wpX_isGap post (nI n, C, f, g) i := br_f (Int32.not_lt.mpr h0) (br_f (Int32.not_lt.mpr h1) h)
theorem sr_xgap_f {n : Nat} {C i : Int32} {f g : Nat → Int32} {post : Int32 → Prop} (hx : ¬ (0 ≤ i ∧ i ≤ nI n)) (h : post 0) : wpX_isGap post (nI n, C, f, g) i := br_c (fun _ => h) (fun z => br_c (fun _ => h) (fun y => absurd ⟨Int32.not_lt.mp z, Int32.not_lt.mp y⟩ hx))
theorem sr_xplc_t {n : Nat} {C i : Int32} {f g : Nat → Int32} {post : Int32 → Prop} (h0 : ¬ i < 0) (h1 : ¬ nI n ≤ i) (h : post 1) : wpX_isPlace post (nI n, C, f, g) i := br_f h0 (br_f h1 h)
theorem sr_xplc_f {n : Nat} {C i : Int32} {f g : Nat → Int32} {post : Int32 → Prop} (hx : ¬ (¬ i < 0 ∧ ¬ nI n ≤ i)) (h : post 0) : wpX_isPlace post (nI n, C, f, g) i := br_c (fun _ => h) (fun z => br_c (fun _ => h) (fun y => absurd ⟨z, y⟩ hx))
theorem sr_xtak {a b : Nat} {R C : Int32} {f : Nat → Int32} {post : SX → Prop} (hab : a ≤ b) (hb : b ≤ 48) : ∀ (m p N : Nat) (g : Nat → Int32), p + m = b → a ≤ p → m < N → post (R, nI (b - a), f, sr_tak a f m p g) → wX_fillClip_2 post (nI a) (nI b) R C N (nI p) f g := by
  intro m
  induction m with
  | zero =>
    intro p N g hp ha hN h
    obtain ⟨N, rfl⟩ : ∃ M, N = M + 1 := ⟨N - 1, by omega⟩
    exact br_t (nI_le (by omega) (by omega)) (nm_r (pk_sub hab) h)
  | succ m ih =>
    intro p N g hp ha hN h
    obtain ⟨N, rfl⟩ : ∃ M, N = M + 1 := ⟨N - 1, by omega⟩
    refine br_f (nI_ge (by omega) (by omega)) ⟨vp_in_nI (by omega) (by omega), ?_, ?_⟩
    · rw [pk_sub ha]
      exact vp_in_nI (by omega) (by omega)
    · refine nm_r (e' := upd g (p - a) (f p)) ?_ ?_
      · rw [pk_sub ha, nI_clamp (by omega), nI_clamp (by omega)]
      · refine nm_r (nI_1 p) ?_
        exact ih (p + 1) N _ (by omega) (by omega) (by omega) h
theorem sr_xFill {a b : Nat} {R C : Int32} {f g : Nat → Int32} {post : SX → Prop} (hab : a ≤ b) (hb : b ≤ 48) (h : post (R, nI (b - a), f, sr_tak a f (b - a) a g)) : wpX_fillClip post (R, C, f, g) (nI a) (nI b) := ⟨b - a + 1, sr_xtak hab hb (b - a) a _ g (by omega) (by omega) (by omega) h⟩
theorem sr_xcls {n a b : Nat} {C : Int32} {g : Nat → Int32} {post : SX → Prop} (hab : a ≤ b) (hb : b ≤ n) (hn : n ≤ 48) : ∀ (m p N : Nat) (f : Nat → Int32), p + m = n → b ≤ p → m < N → post (nI (n - (b - a)), C, sr_cls a b m p f, g) → wX_closeGap_2 post (nI a) (nI b) (nI n) C N (nI p) f g := by
  intro m
  induction m with
  | zero =>
    intro p N f hp hbp hN h
    obtain ⟨N, rfl⟩ : ∃ M, N = M + 1 := ⟨N - 1, by omega⟩
    refine br_t (nI_le (by omega) (by omega)) (nm_r ?_ h)
    rw [pk_sub hab, pk_sub (by omega)]
  | succ m ih =>
    intro p N f hp hbp hN h
    obtain ⟨N, rfl⟩ : ∃ M, N = M + 1 := ⟨N - 1, by omega⟩
    refine br_f (nI_ge (by omega) (by omega)) ⟨vp_in_nI (by omega) (by omega), ?_, ?_⟩
    · rw [sr_e2 hab hbp]
      exact vp_in_nI (by omega) (by omega)
    · refine nm_r (e' := upd f (p - (b - a)) (f p)) ?_ ?_
      · rw [sr_e2 hab hbp, nI_clamp (by omega), nI_clamp (by omega)]
      · refine nm_r (nI_1 p) ?_
        exact ih (p + 1) N _ (by omega) (by omega) (by omega) h
theorem sr_xClose {n a b : Nat} {C : Int32} {f g : Nat → Int32} {post : SX → Prop} (hab : a ≤ b) (hb : b ≤ n) (hn : n ≤ 48) (h : post (nI (n - (b - a)), C, sr_cls a b (n - b) b f, g)) : wpX_closeGap post (nI n, C, f, g) (nI a) (nI b) := ⟨n - b + 1, sr_xcls hab hb hn (n - b) b _ f (by omega) (by omega) (by omega) h⟩
theorem sr_xsw {a b : Nat} {R C : Int32} {f g : Nat → Int32} {post : SX → Prop} (hab : a ≤ b) (hb : b ≤ 48) (h : post (R, C, sr_rev a b f, g)) : ∀ (m t N : Nat), t + m = (b - a) / 2 → m < N → wX_turnRound_9 post (nI a) (nI b) (nI ((b - a) / 2)) R C N (nI t) (sr_sw a b t f) g := by
  intro m
  induction m with
  | zero =>
    intro t N ht hN
    obtain ⟨N, rfl⟩ : ∃ M, N = M + 1 := ⟨N - 1, by omega⟩
    have et : t = (b - a) / 2 := by omega
    have es : sr_sw a b t f = sr_rev a b f := by rw [et]; exact sr_swE f hab
    rw [es]
    exact br_t (nI_le (by omega) (by omega)) h
  | succ m ih =>
    intro t N ht hN
    obtain ⟨N, rfl⟩ : ∃ M, N = M + 1 := ⟨N - 1, by omega⟩
    have e1 : nI a + nI t = nI (a + t) := nI_add a t
    have e2 : nI b - 1 - nI t = nI (b - 1 - t) := sr_e1 (by omega)
    refine br_f (nI_ge (by omega) (by omega)) ?_
    rw [e1, e2, nI_clamp (n := a + t) (by omega), nI_clamp (n := b - 1 - t) (by omega)]
    refine ⟨vp_in_nI (by omega) (by omega), nm_e ⟨vp_in_nI (by omega) (by omega), vp_in_nI (by omega) (by omega), nm_e ⟨vp_in_nI (by omega) (by omega), nm_r (sr_swS f (by omega)) (nm_r (nI_1 t) ?_)⟩⟩⟩
    exact ih (t + 1) N (by omega) (by omega)
theorem sr_xTurn {a b : Nat} {R C : Int32} {f g : Nat → Int32} {post : SX → Prop} (hab : a ≤ b) (hb : b ≤ 48) (h : post (R, C, sr_rev a b f, g)) : wpX_turnRound post (R, C, f, g) (nI a) (nI b) := by
  have z := sr_xsw hab hb h ((b - a) / 2) 0 ((b - a) / 2 + 1) (by omega) (by omega)
  rw [sr_sw0] at z
  exact ⟨by decide, nm_r (sr_half hab hb) ⟨_, z⟩⟩
theorem sr_xcan {b : Nat} {d R C : Int32} {f g : Nat → Int32} {post : Int32 → Prop} (hb : b ≤ 48) : ∀ (m p N : Nat), p + m = b → m < N → (sr_can d f m p → post 1) → (¬ sr_can d f m p → post 0) → wX_canRaise_3 post (nI b) d R C f g N (nI p) := by
  intro m
  induction m with
  | zero =>
    intro p N hp hN h1 h0
    obtain ⟨N, rfl⟩ : ∃ M, N = M + 1 := ⟨N - 1, by omega⟩
    exact br_t (nI_le (by omega) (by omega)) (h1 trivial)
  | succ m ih =>
    intro p N hp hN h1 h0
    obtain ⟨N, rfl⟩ : ∃ M, N = M + 1 := ⟨N - 1, by omega⟩
    refine br_f (nI_ge (by omega) (by omega)) ⟨vp_in_nI (by omega) (by omega), ?_⟩
    rw [nI_clamp (n := p) (by omega)]
    by_cases hn : sr_num (f p + d)
    · refine sr_xlim_t hn (br_f (by decide) (nm_r (nI_1 p) ?_))
      exact ih (p + 1) N (by omega) (by omega) (fun z => h1 ⟨hn, z⟩) (fun z => h0 (fun y => z y.2))
    · exact sr_xlim_f hn (br_t rfl (h0 (fun y => hn y.1)))
end
section
/-! the loops of the reference, each against its pure function -/
theorem sr_ylim_t {post : Int32 → Prop} {u : SY} {x : Int32} (hx : sr_num x) (h : post 1) : wpY_isNumber post u x := br_f (Int32.not_lt.mpr hx.1) (br_f (Int32.not_lt.mpr hx.2) h)
theorem sr_ylim_f {post : Int32 → Prop} {u : SY} {x : Int32} (hx : ¬ sr_num x) (h : post 0) : wpY_isNumber post u x := br_c (fun _ => h) (fun z => br_c (fun _ => h) (fun y => absurd ⟨Int32.not_lt.mp z, Int32.not_lt.mp y⟩ hx))
theorem sr_yst_t {n : Nat} {C i j : Int32} {f g s : Nat → Int32} {post : Int32 → Prop} (hx : sr_st n i j) (h : post 1) : wpY_isStretch post (nI n, C, f, g, s) i j := br_f (Int32.not_lt.mpr hx.1) (br_f (Int32.not_lt.mpr hx.2.1) (br_f (Int32.not_lt.mpr hx.2.2) h))
theorem sr_yst_f {n : Nat} {C i j : Int32} {f g s : Nat → Int32} {post : Int32 → Prop} (hx : ¬ sr_st n i j) (h : post 0) : wpY_isStretch post (nI n, C, f, g, s) i j := br_c (fun _ => h) (fun z => br_c (fun _ => h) (fun y => br_c (fun _ => h) (fun w => absurd ⟨Int32.not_lt.mp z, Int32.not_lt.mp y, Int32.not_lt.mp w⟩ hx)))
theorem sr_yopn {n a k : Nat} {C : Int32} {g s : Nat → Int32} {post : SY → Prop} (hk : n + k ≤ 48) : ∀ (d N : Nat) (f : Nat → Int32), a + d ≤ n → d < N → post (nI (n + k), C, sr_opn a k d f, g, s) → wY_open_7 post (nI a) (nI k) (nI n) C N (nI (a + d) - 1) f g s := by
  intro d
  induction d with
  | zero =>
    intro N f hd hN h
    obtain ⟨N, rfl⟩ : ∃ M, N = M + 1 := ⟨N - 1, by omega⟩
    exact br_t (sr_back (by omega)) (nm_r (nI_add n k) h)
  | succ d ih =>
    intro N f hd hN h
    obtain ⟨N, rfl⟩ : ∃ M, N = M + 1 := ⟨N - 1, by omega⟩
    have e : nI (a + (d + 1)) - 1 = nI (a + d) := nI_pred (a + d)
    rw [e]
    refine br_f (nI_nlt (by omega) (by omega)) ⟨vp_in_nI (by omega) (by omega), ?_, ?_⟩
    · rw [nI_add]
      exact vp_in_nI (by omega) (by omega)
    · refine nm_r (e' := upd f (a + d + k) (f (a + d))) ?_ ?_
      · rw [nI_add, nI_clamp (by omega), nI_clamp (by omega)]
      · refine nm_r (sr_m1 (nI (a + d))) ?_
        exact ih N _ (by omega) (by omega) h
theorem sr_yOpen {n a k : Nat} {C : Int32} {f g s : Nat → Int32} {post : SY → Prop} (hk : n + k ≤ 48) (ha : a ≤ n) (h : post (nI (n + k), C, sr_opn a k (n - a) f, g, s)) : wpY_open post (nI n, C, f, g, s) (nI a) (nI k) := by
  have e : a + (n - a) = n := by omega
  have z := sr_yopn (C := C) (g := g) (s := s) hk (n - a) (n - a + 1) f (by omega) (by omega) h
  rw [e] at z
  exact nm_e ⟨_, z⟩
theorem sr_yrun {a k : Nat} {v d R C : Int32} {g s : Nat → Int32} {post : Int32 → SY → Prop} (hk : a + k ≤ 48) : ∀ (m t N : Nat) (f : Nat → Int32), t + m = k → m < N → post R (R, C, sr_run a v d m t f, g, s) → wY_insertRun_90 post (nI a) (nI k) v d R C N (nI t) f g s := by
  intro m
  induction m with
  | zero =>
    intro t N f ht hN h
    obtain ⟨N, rfl⟩ : ∃ M, N = M + 1 := ⟨N - 1, by omega⟩
    exact br_t (nI_le (by omega) (by omega)) h
  | succ m ih =>
    intro t N f ht hN h
    obtain ⟨N, rfl⟩ : ∃ M, N = M + 1 := ⟨N - 1, by omega⟩
    refine br_f (nI_ge (by omega) (by omega)) ⟨?_, ?_⟩
    · rw [nI_add]
      exact vp_in_nI (by omega) (by omega)
    · refine nm_r (e' := upd f (a + t) (v + nI t * d)) ?_ ?_
      · rw [nI_add, nI_clamp (by omega)]
      · refine nm_r (nI_1 t) ?_
        exact ih (t + 1) N _ (by omega) (by omega) h
theorem sr_ypst {a c : Nat} {R : Int32} {g s : Nat → Int32} {post : Int32 → SY → Prop} (hk : a + c ≤ 48) : ∀ (m t N : Nat) (f : Nat → Int32), t + m = c → m < N → post R (R, 0, sr_pst a g m t f, g, s) → wY_paste_25 post (nI a) R (nI c) N (nI t) f g s := by
  intro m
  induction m with
  | zero =>
    intro t N f ht hN h
    obtain ⟨N, rfl⟩ : ∃ M, N = M + 1 := ⟨N - 1, by omega⟩
    exact br_t (nI_le (by omega) (by omega)) h
  | succ m ih =>
    intro t N f ht hN h
    obtain ⟨N, rfl⟩ : ∃ M, N = M + 1 := ⟨N - 1, by omega⟩
    refine br_f (nI_ge (by omega) (by omega)) ⟨vp_in_nI (by omega) (by omega), ?_, ?_⟩
    · rw [nI_add]
      exact vp_in_nI (by omega) (by omega)
    · refine nm_r (e' := upd f (a + t) (g t)) ?_ ?_
      · rw [nI_add, nI_clamp (by omega), nI_clamp (by omega)]
      · refine nm_r (nI_1 t) ?_
        exact ih (t + 1) N _ (by omega) (by omega) h
theorem sr_yrai {a b : Nat} {d R C : Int32} {g s : Nat → Int32} {post : Int32 → SY → Prop} (hb : b ≤ 48) : ∀ (m p N : Nat) (f : Nat → Int32), p + m = b → m < N → post (nI b - nI a) (R, C, sr_map (fun x => x + d) m p f, g, s) → wY_raise_55 post (nI a) (nI b) d R C N (nI p) f g s := by
  intro m
  induction m with
  | zero =>
    intro p N f hp hN h
    obtain ⟨N, rfl⟩ : ∃ M, N = M + 1 := ⟨N - 1, by omega⟩
    exact br_t (nI_le (by omega) (by omega)) h
  | succ m ih =>
    intro p N f hp hN h
    obtain ⟨N, rfl⟩ : ∃ M, N = M + 1 := ⟨N - 1, by omega⟩
    refine br_f (nI_ge (by omega) (by omega)) ⟨vp_in_nI (by omega) (by omega), vp_in_nI (by omega) (by omega), ?_⟩
    refine nm_r (e' := upd f p (f p + d)) ?_ ?_
    · rw [nI_clamp (by omega)]
    · refine nm_r (nI_1 p) ?_
      exact ih (p + 1) N _ (by omega) (by omega) h
theorem sr_yneg {a b : Nat} {R C : Int32} {g s : Nat → Int32} {post : Int32 → SY → Prop} (hb : b ≤ 48) : ∀ (m p N : Nat) (f : Nat → Int32), p + m = b → m < N → post (nI b - nI a) (R, C, sr_map (fun x => -x) m p f, g, s) → wY_negate_13 post (nI a) (nI b) R C N (nI p) f g s := by
  intro m
  induction m with
  | zero =>
    intro p N f hp hN h
    obtain ⟨N, rfl⟩ : ∃ M, N = M + 1 := ⟨N - 1, by omega⟩
    exact br_t (nI_le (by omega) (by omega)) h
  | succ m ih =>
    intro p N f hp hN h
    obtain ⟨N, rfl⟩ : ∃ M, N = M + 1 := ⟨N - 1, by omega⟩
    refine br_f (nI_ge (by omega) (by omega)) ⟨vp_in_nI (by omega) (by omega), vp_in_nI (by omega) (by omega), ?_⟩
    refine nm_r (e' := upd f p (-(f p))) ?_ ?_
    · rw [nI_clamp (by omega)]
    · refine nm_r (nI_1 p) ?_
      exact ih (p + 1) N _ (by omega) (by omega) h
theorem sr_ysum {b : Nat} {R C : Int32} {f g s : Nat → Int32} {post : Int32 → Prop} (hb : b ≤ 48) : ∀ (m p N : Nat) (y : Int32), p + m = b → m < N → post (sr_sum f m p y) → wY_sum_14 post (nI b) R C f g s N y (nI p) := by
  intro m
  induction m with
  | zero =>
    intro p N y hp hN h
    obtain ⟨N, rfl⟩ : ∃ M, N = M + 1 := ⟨N - 1, by omega⟩
    exact br_t (nI_le (by omega) (by omega)) h
  | succ m ih =>
    intro p N y hp hN h
    obtain ⟨N, rfl⟩ : ∃ M, N = M + 1 := ⟨N - 1, by omega⟩
    refine br_f (nI_ge (by omega) (by omega)) ⟨vp_in_nI (by omega) (by omega), ?_⟩
    refine nm_r (e' := y + f p) ?_ ?_
    · rw [nI_clamp (by omega)]
    · refine nm_r (nI_1 p) ?_
      exact ih (p + 1) N _ (by omega) (by omega) h
theorem sr_ywgt {a b : Nat} {R C : Int32} {f g s : Nat → Int32} {post : Int32 → Prop} (hb : b ≤ 48) : ∀ (m p N : Nat) (y : Int32), a ≤ p → p + m = b → m < N → post (sr_wgt a f m p y) → wY_weighted_14 post (nI a) (nI b) R C f g s N y (nI p) := by
  intro m
  induction m with
  | zero =>
    intro p N y ha hp hN h
    obtain ⟨N, rfl⟩ : ∃ M, N = M + 1 := ⟨N - 1, by omega⟩
    exact br_t (nI_le (by omega) (by omega)) h
  | succ m ih =>
    intro p N y ha hp hN h
    obtain ⟨N, rfl⟩ : ∃ M, N = M + 1 := ⟨N - 1, by omega⟩
    refine br_f (nI_ge (by omega) (by omega)) ⟨vp_in_nI (by omega) (by omega), ?_⟩
    refine nm_r (e' := y + nI (p - a + 1) * f p) ?_ ?_
    · rw [nI_clamp (by omega), sr_e4 ha]
    · refine nm_r (nI_1 p) ?_
      exact ih (p + 1) N _ (by omega) (by omega) (by omega) h
theorem sr_ygr {b : Nat} {R C : Int32} {f g s : Nat → Int32} {post : Int32 → Prop} (hb : b ≤ 48) : ∀ (m p q N : Nat), p + m = b → q < b → m < N → post (nI (sr_gr f m p q)) → wY_greatestAt_17 post (nI b) R C f g s N (nI q) (nI p) := by
  intro m
  induction m with
  | zero =>
    intro p q N hp hq hN h
    obtain ⟨N, rfl⟩ : ∃ M, N = M + 1 := ⟨N - 1, by omega⟩
    exact br_t (nI_le (by omega) (by omega)) h
  | succ m ih =>
    intro p q N hp hq hN h
    obtain ⟨N, rfl⟩ : ∃ M, N = M + 1 := ⟨N - 1, by omega⟩
    have h' : post (nI (sr_gr f m (p + 1) (if f q < f p then p else q))) := h
    refine br_f (nI_ge (by omega) (by omega)) ?_
    refine br_f (sr_n4 (by omega)) ?_
    refine ⟨vp_in_nI (by omega) (by omega), vp_in_nI (by omega) (by omega), ?_⟩
    rw [nI_clamp (n := p) (by omega), nI_clamp (n := q) (by omega)]
    by_cases z : f p ≤ f q
    · rw [if_neg (Int32.not_lt.mpr z)] at h'
      refine br_t z (nm_r (nI_1 p) ?_)
      exact ih (p + 1) q N (by omega) (by omega) (by omega) h'
    · rw [if_pos (Int32.not_le.mp z)] at h'
      refine br_f z (nm_r (nI_1 p) ?_)
      exact ih (p + 1) p N (by omega) (by omega) (by omega) h'

theorem sr_ytak {a b : Nat} {R C : Int32} {f s : Nat → Int32} {post : SY → Prop} (hb : b ≤ 48) : ∀ (m p N : Nat) (g : Nat → Int32), p + m = b → a ≤ p → m < N → post (R, C, f, sr_tak a f m p g, s) → wY_take_9 post (nI a) (nI b) R C N (nI p) f g s := by
  intro m
  induction m with
  | zero =>
    intro p N g hp ha hN h
    obtain ⟨N, rfl⟩ : ∃ M, N = M + 1 := ⟨N - 1, by omega⟩
    exact br_t (nI_le (by omega) (by omega)) h
  | succ m ih =>
    intro p N g hp ha hN h
    obtain ⟨N, rfl⟩ : ∃ M, N = M + 1 := ⟨N - 1, by omega⟩
    refine br_f (nI_ge (by omega) (by omega)) ⟨vp_in_nI (by omega) (by omega), ?_, ?_⟩
    · rw [pk_sub ha]
      exact vp_in_nI (by omega) (by omega)
    · refine nm_r (e' := upd g (p - a) (f p)) ?_ ?_
      · rw [pk_sub ha, nI_clamp (by omega), nI_clamp (by omega)]
      · refine nm_r (nI_1 p) ?_
        exact ih (p + 1) N _ (by omega) (by omega) (by omega) h
theorem sr_yTake {a b : Nat} {R C : Int32} {f g s : Nat → Int32} {post : SY → Prop} (hab : a ≤ b) (hb : b ≤ 48) (h : post (R, nI (b - a), f, sr_tak a f (b - a) a g, s)) : wpY_take post (R, C, f, g, s) (nI a) (nI b) := nm_r (pk_sub hab) ⟨b - a + 1, sr_ytak hb (b - a) a _ g (by omega) (by omega) (by omega) h⟩
theorem sr_ycls {n a b : Nat} {g s : Nat → Int32} {post : Int32 → SY → Prop} (hab : a ≤ b) (hb : b ≤ n) (hn : n ≤ 48) : ∀ (m p N : Nat) (f : Nat → Int32), p + m = n → b ≤ p → m < N → post (nI (b - a)) (nI (n - (b - a)), nI (b - a), sr_cls a b m p f, g, s) → wY_cut_19 post (nI n) (nI (b - a)) N (nI p) f g s := by
  intro m
  induction m with
  | zero =>
    intro p N f hp hbp hN h
    obtain ⟨N, rfl⟩ : ∃ M, N = M + 1 := ⟨N - 1, by omega⟩
    exact br_t (nI_le (by omega) (by omega)) (nm_r (pk_sub (by omega)) h)
  | succ m ih =>
    intro p N f hp hbp hN h
    obtain ⟨N, rfl⟩ : ∃ M, N = M + 1 := ⟨N - 1, by omega⟩
    have e : nI p - nI (b - a) = nI (p - (b - a)) := pk_sub (by omega)
    refine br_f (nI_ge (by omega) (by omega)) ⟨vp_in_nI (by omega) (by omega), ?_, ?_⟩
    · rw [e]
      exact vp_in_nI (by omega) (by omega)
    · refine nm_r (e' := upd f (p - (b - a)) (f p)) ?_ ?_
      · rw [e, nI_clamp (by omega), nI_clamp (by omega)]
      · refine nm_r (nI_1 p) ?_
        exact ih (p + 1) N _ (by omega) (by omega) (by omega) h
theorem sr_ybk44 {a b : Nat} {R C : Int32} {f g s : Nat → Int32} {post : Int32 → SY → Prop} (hab : a ≤ b) (hb : b ≤ 48) (h : post (nI b - nI a) (R, C, sr_bk s a (b - a) f, g, s)) : ∀ (m t N : Nat), t + m = b - a → m < N → wY_reverse_44 post (nI a) (nI b) R C N (nI (a + t)) (sr_bk s a t f) g s := by
  intro m
  induction m with
  | zero =>
    intro t N ht hN
    obtain ⟨N, rfl⟩ : ∃ M, N = M + 1 := ⟨N - 1, by omega⟩
    have et : t = b - a := by omega
    rw [et]
    exact br_t (nI_le (by omega) (by omega)) h
  | succ m ih =>
    intro t N ht hN
    obtain ⟨N, rfl⟩ : ∃ M, N = M + 1 := ⟨N - 1, by omega⟩
    refine br_f (nI_ge (by omega) (by omega)) ⟨vp_in_nI (by omega) (by omega), vp_in_nI (by omega) (by omega), ?_⟩
    rw [nI_clamp (n := a + t) (by omega)]
    exact nm_r (sr_bkS s a t f) (nm_r (nI_1 (a + t)) (ih (t + 1) N (by omega) (by omega)))
theorem sr_ybk79 {a b : Nat} {R C : Int32} {f g s : Nat → Int32} {post : Int32 → SY → Prop} (hab : a ≤ b) (hb : b ≤ 48) (h : post 0 (R, C, sr_bk s a (b - a) f, g, s)) : ∀ (m t N : Nat), t + m = b - a → m < N → wY_rotate_79 post (nI b) R C N (nI (a + t)) (sr_bk s a t f) g s := by
  intro m
  induction m with
  | zero =>
    intro t N ht hN
    obtain ⟨N, rfl⟩ : ∃ M, N = M + 1 := ⟨N - 1, by omega⟩
    have et : t = b - a := by omega
    rw [et]
    exact br_t (nI_le (by omega) (by omega)) h
  | succ m ih =>
    intro t N ht hN
    obtain ⟨N, rfl⟩ : ∃ M, N = M + 1 := ⟨N - 1, by omega⟩
    refine br_f (nI_ge (by omega) (by omega)) ⟨vp_in_nI (by omega) (by omega), vp_in_nI (by omega) (by omega), ?_⟩
    rw [nI_clamp (n := a + t) (by omega)]
    exact nm_r (sr_bkS s a t f) (nm_r (nI_1 (a + t)) (ih (t + 1) N (by omega) (by omega)))
theorem sr_yrs {a b : Nat} {R C : Int32} {f g s : Nat → Int32} {post : Int32 → SY → Prop} (hab : a ≤ b) (hb : b ≤ 48) (h : ∃ N, wY_reverse_44 post (nI a) (nI b) R C N (nI a) f g (sr_rs a b (b - a) f s)) : ∀ (m t N : Nat), t + m = b - a → m < N → wY_reverse_13 post (nI a) (nI b) R C N (nI (a + t)) f g (sr_rs a b t f s) := by
  intro m
  induction m with
  | zero =>
    intro t N ht hN
    obtain ⟨N, rfl⟩ : ∃ M, N = M + 1 := ⟨N - 1, by omega⟩
    have et : t = b - a := by omega
    rw [et]
    exact br_t (nI_le (by omega) (by omega)) h
  | succ m ih =>
    intro t N ht hN
    obtain ⟨N, rfl⟩ : ∃ M, N = M + 1 := ⟨N - 1, by omega⟩
    refine br_f (nI_ge (by omega) (by omega)) ⟨vp_in_nI (by omega) (by omega), ?_⟩
    rw [sr_e3 (show a + t < b by omega), nI_clamp (n := b - 1 - t) (by omega), nI_clamp (n := a + t) (by omega)]
    exact ⟨vp_in_nI (by omega) (by omega), nm_r (sr_rsS f s (by omega)) (nm_r (nI_1 (a + t)) (ih (t + 1) N (by omega) (by omega)))⟩
theorem sr_yts {a b k : Nat} {R C : Int32} {f g s : Nat → Int32} {post : Int32 → SY → Prop} (hk : a + k ≤ b) (hb : b ≤ 48) (h : ∃ N, wY_rotate_79 post (nI b) R C N (nI a) f g (sr_ts a b k (b - a) f s)) : ∀ (m t N : Nat), t + m = b - a → m < N → wY_rotate_25 post (nI a) (nI b) (nI k) R C N (nI (a + t)) f g (sr_ts a b k t f s) := by
  intro m
  induction m with
  | zero =>
    intro t N ht hN
    obtain ⟨N, rfl⟩ : ∃ M, N = M + 1 := ⟨N - 1, by omega⟩
    have et : t = b - a := by omega
    rw [et]
    exact br_t (nI_le (by omega) (by omega)) h
  | succ m ih =>
    intro t N ht hN
    obtain ⟨N, rfl⟩ : ∃ M, N = M + 1 := ⟨N - 1, by omega⟩
    have hin := sr_to_in hk (show a + t < b by omega)
    have hst := sr_tsS f s hk (show a + t < b by omega)
    have hto : sr_to a b k t = if t < k then t + b - k else a + t - k := rfl
    refine br_f (nI_ge (by omega) (by omega)) ?_
    by_cases z : t < k
    · rw [if_pos z] at hto
      rw [hto] at hst hin
      refine br_f (Int32.not_le.mpr ((sr_lt_k (by omega) (by omega)).mpr z)) ?_
      rw [sr_e6 hk]
      refine ⟨vp_in_nI (by omega) (by omega), vp_in_nI (by omega) (by omega), nm_r ?_ (nm_r (nI_1 (a + t)) (ih (t + 1) N (by omega) (by omega)))⟩
      rw [nI_clamp (n := t + b - k) (by omega), nI_clamp (n := a + t) (by omega)]
      exact hst
    · rw [if_neg z] at hto
      rw [hto] at hst hin
      have e : nI (a + t) - nI k = nI (a + t - k) := pk_sub (by omega)
      rw [e]
      refine br_t (nI_le (by omega) (by omega)) ?_
      refine ⟨vp_in_nI (by omega) (by omega), vp_in_nI (by omega) (by omega), nm_r ?_ (nm_r (nI_1 (a + t)) (ih (t + 1) N (by omega) (by omega)))⟩
      rw [nI_clamp (n := a + t - k) (by omega), nI_clamp (n := a + t) (by omega)]
      exact hst
theorem sr_ycan {a b : Nat} {d R C : Int32} {f g s : Nat → Int32} {post : Int32 → SY → Prop} (hb : b ≤ 48) : ∀ (m p N : Nat), p + m = b → m < N → (sr_can d f m p → ∃ M, wY_raise_55 post (nI a) (nI b) d R C M (nI a) f g s) → (¬ sr_can d f m p → post (-1) (R, C, f, g, s)) → wY_raise_22 post (nI a) (nI b) d R C f g s N (nI p) := by
  intro m
  induction m with
  | zero =>
    intro p N hp hN h1 h0
    obtain ⟨N, rfl⟩ : ∃ M, N = M + 1 := ⟨N - 1, by omega⟩
    exact br_t (nI_le (by omega) (by omega)) (h1 trivial)
  | succ m ih =>
    intro p N hp hN h1 h0
    obtain ⟨N, rfl⟩ : ∃ M, N = M + 1 := ⟨N - 1, by omega⟩
    refine br_f (nI_ge (by omega) (by omega)) ⟨vp_in_nI (by omega) (by omega), ?_⟩
    rw [nI_clamp (n := p) (by omega)]
    by_cases hn : sr_num (f p + d)
    · refine sr_ylim_t hn (br_f (by decide) (nm_r (nI_1 p) ?_))
      exact ih (p + 1) N (by omega) (by omega) (fun z => h1 ⟨hn, z⟩) (fun z => h0 (fun y => z y.2))
    · exact sr_ylim_f hn (br_t rfl (h0 (fun y => hn y.1)))
end
section
/-! the methods: from related states both sides end in related states again -/
theorem sr_insert {n c : Nat} (hh : n + c ≤ 48) (f g s : Nat → Int32) (i v : Int32) : ∃ (r : Int32) (n' : Nat) (f' : Nat → Int32), n' + c ≤ 48 ∧ (∀ post : Int32 → SX → Prop, post r (nI n', nI c, f', g) → wpX_insert post (nI n, nI c, f, g) i v) ∧ (∀ post : Int32 → SY → Prop, post r (nI n', nI c, f', g, s) → wpY_insert post (nI n, nI c, f, g, s) i v) := by
  by_cases hi : 0 ≤ i ∧ i ≤ nI n
  · by_cases hv : sr_num v
    · obtain ⟨a, ha, rfl⟩ := sr_of (by omega) hi.1 hi.2
      by_cases hf : n + c = 48
      · refine ⟨-2, n, f, hh, fun post h => ?_, fun post h => ?_⟩
        · unfold wpX_insert
          dsimp only
          refine sr_xgap_t hi.1 hi.2 (br_f (by decide) ?_)
          refine sr_xlim_t hv (br_f (by decide) ?_)
          have e : nI n + nI c = 48 := by rw [nI_add, hf]; rfl
          exact nm_e (br_t e (br_f (by decide) h))
        · unfold wpY_insert
          dsimp only
          refine br_f (Int32.not_lt.mpr hi.1) (br_f (Int32.not_lt.mpr hi.2) ?_)
          refine sr_ylim_t hv (br_f (by decide) ?_)
          have e : nI n + nI c = 48 := by rw [nI_add, hf]; rfl
          exact br_t e h
      · refine ⟨nI (n + 1), n + 1, upd (sr_opn a 1 (n - a) f) a v, by omega, fun post h => ?_, fun post h => ?_⟩
        · unfold wpX_insert
          dsimp only
          refine sr_xgap_t hi.1 hi.2 (br_f (by decide) ?_)
          refine sr_xlim_t hv (br_f (by decide) ?_)
          have e : ¬ nI n + nI c = 48 := by rw [nI_add, sr_eq48 (by omega)]; exact hf
          have e2 : nI n + nI c + 1 ≤ 48 := by rw [nI_add, nI_1, sr_le48 (by omega)]; omega
          refine nm_e (br_f e (br_t e2 (br_t rfl ?_)))
          refine sr_xOpen (k := 1) (by omega) ha ?_
          refine ⟨vp_in_nI (by omega) (by omega), nm_r ?_ h⟩
          rw [nI_clamp (by omega)]
        · unfold wpY_insert
          dsimp only
          refine br_f (Int32.not_lt.mpr hi.1) (br_f (Int32.not_lt.mpr hi.2) ?_)
          refine sr_ylim_t hv (br_f (by decide) ?_)
          have e : ¬ nI n + nI c = 48 := by rw [nI_add, sr_eq48 (by omega)]; exact hf
          refine br_f e ?_
          refine sr_yOpen (k := 1) (by omega) ha ?_
          refine ⟨vp_in_nI (by omega) (by omega), nm_r ?_ h⟩
          rw [nI_clamp (by omega)]
    · refine ⟨-1, n, f, hh, fun post h => ?_, fun post h => ?_⟩
      · unfold wpX_insert
        dsimp only
        refine sr_xgap_t hi.1 hi.2 (br_f (by decide) ?_)
        exact sr_xlim_f hv (br_t rfl h)
      · unfold wpY_insert
        dsimp only
        refine br_f (Int32.not_lt.mpr hi.1) (br_f (Int32.not_lt.mpr hi.2) ?_)
        exact sr_ylim_f hv (br_t rfl h)
  · refine ⟨-1, n, f, hh, fun post h => ?_, fun post h => ?_⟩
    · unfold wpX_insert
      dsimp only
      exact sr_xgap_f hi (br_t rfl h)
    · unfold wpY_insert
      dsimp only
      exact br_c (fun _ => h) (fun z => br_c (fun _ => h) (fun y => absurd ⟨Int32.not_lt.mp z, Int32.not_lt.mp y⟩ hi))

/-- the run's own conditions -/
def sr_rk (k v d : Int32) : Prop := (0 ≤ k ∧ k ≤ 48) ∧ sr_num v ∧ sr_num d ∧ (¬ k = 0 → sr_num (v + ((k - 1) * d)))
theorem sr_xrk_t {k v d : Int32} {post : Int32 → Prop} (hx : sr_rk k v d) (h : post 1) : wpX_isRun post k v d := by
  obtain ⟨⟨h0, h48⟩, hv, hd, he⟩ := hx
  refine br_f (Int32.not_lt.mpr h0) (br_f (Int32.not_lt.mpr h48) ?_)
  refine sr_xlim_t hv (br_f (by decide) ?_)
  refine sr_xlim_t hd (br_f (by decide) ?_)
  refine br_c (fun _ => h) (fun z => ?_)
  exact sr_xlim_t (he z) (br_f (by decide) h)
theorem sr_xrk_f {k v d : Int32} {post : Int32 → Prop} (hx : ¬ sr_rk k v d) (h : post 0) : wpX_isRun post k v d := by
  refine br_c (fun _ => h) (fun z0 => br_c (fun _ => h) (fun z1 => ?_))
  by_cases hv : sr_num v
  · refine sr_xlim_t hv (br_f (by decide) ?_)
    by_cases hd : sr_num d
    · refine sr_xlim_t hd (br_f (by decide) ?_)
      refine br_c (fun z => ?_) (fun z => ?_)
      · exact absurd ⟨⟨Int32.not_lt.mp z0, Int32.not_lt.mp z1⟩, hv, hd, fun y => absurd z y⟩ hx
      · refine sr_xlim_f (fun y => ?_) (br_t rfl h)
        exact hx ⟨⟨Int32.not_lt.mp z0, Int32.not_lt.mp z1⟩, hv, hd, fun _ => y⟩
    · exact sr_xlim_f hd (br_t rfl h)
  · exact sr_xlim_f hv (br_t rfl h)
theorem sr_yrk_t {n : Nat} {C i k v d : Int32} {f g s : Nat → Int32} {post : Int32 → SY → Prop} (hi : 0 ≤ i ∧ i ≤ nI n) (hx : sr_rk k v d) (h : wY_insertRun_62 post i k v d (nI n) C f g s) : wpY_insertRun post (nI n, C, f, g, s) i k v d := by
  obtain ⟨⟨h0, h48⟩, hv, hd, he⟩ := hx
  unfold wpY_insertRun
  dsimp only
  refine br_f (Int32.not_lt.mpr hi.1) (br_f (Int32.not_lt.mpr hi.2) ?_)
  refine br_f (Int32.not_lt.mpr h0) (br_f (Int32.not_lt.mpr h48) ?_)
  refine sr_ylim_t hv (br_f (by decide) ?_)
  refine sr_ylim_t hd (br_f (by decide) ?_)
  refine br_c (fun _ => h) (fun z => ?_)
  refine sr_ylim_t (he (fun y => z ?_)) (br_f (by decide) h)
  rw [y]
  exact Int32.le_refl 0
theorem sr_yrk_f {n : Nat} {C i k v d : Int32} {f g s : Nat → Int32} {post : Int32 → SY → Prop} (hi : 0 ≤ i ∧ i ≤ nI n) (hx : ¬ sr_rk k v d) (h : post (-1) (nI n, C, f, g, s)) : wpY_insertRun post (nI n, C, f, g, s) i k v d := by
  unfold wpY_insertRun
  dsimp only
  refine br_f (Int32.not_lt.mpr hi.1) (br_f (Int32.not_lt.mpr hi.2) ?_)
  refine br_c (fun _ => h) (fun z0 => br_c (fun _ => h) (fun z1 => ?_))
  by_cases hv : sr_num v
  · refine sr_ylim_t hv (br_f (by decide) ?_)
    by_cases hd : sr_num d
    · refine sr_ylim_t hd (br_f (by decide) ?_)
      refine br_c (fun z => ?_) (fun z => ?_)
      · have ek : k = 0 := Int32.le_antisymm z (Int32.not_lt.mp z0)
        exact absurd ⟨⟨Int32.not_lt.mp z0, Int32.not_lt.mp z1⟩, hv, hd, fun y => absurd ek y⟩ hx
      · refine sr_ylim_f (fun y => ?_) (br_t rfl h)
        exact hx ⟨⟨Int32.not_lt.mp z0, Int32.not_lt.mp z1⟩, hv, hd, fun _ => y⟩
    · exact sr_ylim_f hd (br_t rfl h)
  · exact sr_ylim_f hv (br_t rfl h)
/-- insertRun: one answer on both sides but where 48 numbers are held and k = 0: there the class says -2 and the reference n, and neither changes anything -/
theorem sr_insertRun {n c : Nat} (hh : n + c ≤ 48) (f g s : Nat → Int32) (i k v d : Int32) : ∃ (r r' : Int32) (n' : Nat) (f' : Nat → Int32), n' + c ≤ 48 ∧ (n + c < 48 → r' = r) ∧ (∀ post : Int32 → SX → Prop, post r (nI n', nI c, f', g) → wpX_insertRun post (nI n, nI c, f, g) i k v d) ∧ (∀ post : Int32 → SY → Prop, post r' (nI n', nI c, f', g, s) → wpY_insertRun post (nI n, nI c, f, g, s) i k v d) := by
  by_cases hi : 0 ≤ i ∧ i ≤ nI n
  · by_cases hr : sr_rk k v d
    · obtain ⟨a, ha, rfl⟩ := sr_of (by omega) hi.1 hi.2
      obtain ⟨q, hq, rfl⟩ := sr_of (n := 48) (by decide) hr.1.1 hr.1.2
      by_cases hf : n + c + q ≤ 48
      · have hY : ∀ post : Int32 → SY → Prop, post (nI (n + q)) (nI (n + q), nI c, sr_run a v d q 0 (sr_opn a q (n - a) f), g, s) → wpY_insertRun post (nI n, nI c, f, g, s) (nI a) (nI q) v d := by
          intro post h
          refine sr_yrk_t hi hr ?_
          have e : nI n + nI c + nI q ≤ 48 := by rw [nI_add, nI_add, sr_le48 (by omega)]; omega
          refine br_t e ?_
          refine sr_yOpen (by omega) ha ?_
          exact ⟨q + 1, sr_yrun (by omega) q 0 _ _ (by omega) (by omega) h⟩
        by_cases h48 : n + c = 48
        · have hq0 : q = 0 := by omega
          subst hq0
          refine ⟨-2, nI (n + 0), n, f, hh, fun z => absurd h48 (by omega), fun post h => ?_, fun post h => hY post ?_⟩
          · unfold wpX_insertRun
            dsimp only
            refine sr_xgap_t hi.1 hi.2 (br_f (by decide) ?_)
            refine sr_xrk_t hr (br_f (by decide) ?_)
            have e : nI n + nI c = 48 := by rw [nI_add, h48]; rfl
            exact nm_e (br_t e (br_f (by decide) h))
          · rw [sr_opn0]
            exact h
        · refine ⟨nI (n + q), nI (n + q), n + q, _, by omega, fun _ => rfl, fun post h => ?_, hY⟩
          unfold wpX_insertRun
          dsimp only
          refine sr_xgap_t hi.1 hi.2 (br_f (by decide) ?_)
          refine sr_xrk_t hr (br_f (by decide) ?_)
          have e : ¬ nI n + nI c = 48 := by rw [nI_add, sr_eq48 (by omega)]; exact h48
          have e2 : nI n + nI c + nI q ≤ 48 := by rw [nI_add, nI_add, sr_le48 (by omega)]; omega
          refine nm_e (br_f e (br_t e2 (br_t rfl ?_)))
          refine sr_xOpen (by omega) ha ?_
          exact ⟨q + 1, sr_xrun (by omega) q 0 _ _ (by omega) (by omega) h⟩
      · refine ⟨-2, -2, n, f, hh, fun _ => rfl, fun post h => ?_, fun post h => ?_⟩
        · unfold wpX_insertRun
          dsimp only
          refine sr_xgap_t hi.1 hi.2 (br_f (by decide) ?_)
          refine sr_xrk_t hr (br_f (by decide) ?_)
          have e2 : ¬ nI n + nI c + nI q ≤ 48 := by rw [nI_add, nI_add, sr_le48 (by omega)]; omega
          exact nm_e (br_c (fun _ => br_f (by decide) h) (fun _ => br_f e2 (br_f (by decide) h)))
        · refine sr_yrk_t hi hr ?_
          have e : ¬ nI n + nI c + nI q ≤ 48 := by rw [nI_add, nI_add, sr_le48 (by omega)]; omega
          exact br_f e h
    · refine ⟨-1, -1, n, f, hh, fun _ => rfl, fun post h => ?_, fun post h => sr_yrk_f hi hr h⟩
      unfold wpX_insertRun
      dsimp only
      refine sr_xgap_t hi.1 hi.2 (br_f (by decide) ?_)
      exact sr_xrk_f hr (br_t rfl h)
  · refine ⟨-1, -1, n, f, hh, fun _ => rfl, fun post h => ?_, fun post h => ?_⟩
    · unfold wpX_insertRun
      dsimp only
      exact sr_xgap_f hi (br_t rfl h)
    · unfold wpY_insertRun
      dsimp only
      exact br_c (fun _ => h) (fun z => br_c (fun _ => h) (fun y => absurd ⟨Int32.not_lt.mp z, Int32.not_lt.mp y⟩ hi))
end
section
theorem sr_get {n c : Nat} (hh : n + c ≤ 48) (f g s : Nat → Int32) (i : Int32) : ∃ r : Int32, (∀ post : Int32 → Prop, post r → wpX_get post (nI n, nI c, f, g) i) ∧ (∀ post : Int32 → Prop, post r → wpY_get post (nI n, nI c, f, g, s) i) := by
  by_cases hi : ¬ i < 0 ∧ ¬ nI n ≤ i
  · obtain ⟨a, ha, rfl⟩ := nI_of hi.1
    have hn : a < n := Nat.lt_of_not_le (fun z => hi.2 (nI_le z ha))
    refine ⟨f a, fun post h => ?_, fun post h => ?_⟩
    · unfold wpX_get
      dsimp only
      refine sr_xplc_t hi.1 hi.2 (br_f (by decide) ⟨vp_in_nI (by omega) (by omega), ?_⟩)
      rw [nI_clamp (by omega)]
      exact h
    · unfold wpY_get
      dsimp only
      refine br_f hi.1 (br_f hi.2 ⟨vp_in_nI (by omega) (by omega), ?_⟩)
      rw [nI_clamp (by omega)]
      exact h
  · refine ⟨0, fun post h => ?_, fun post h => ?_⟩
    · unfold wpX_get
      dsimp only
      exact sr_xplc_f hi (br_t rfl h)
    · unfold wpY_get
      dsimp only
      exact br_c (fun _ => h) (fun z => br_c (fun _ => h) (fun y => absurd ⟨z, y⟩ hi))
theorem sr_set {n c : Nat} (hh : n + c ≤ 48) (f g s : Nat → Int32) (i v : Int32) : ∃ (r : Int32) (f' : Nat → Int32), (∀ post : Int32 → SX → Prop, post r (nI n, nI c, f', g) → wpX_set post (nI n, nI c, f, g) i v) ∧ (∀ post : Int32 → SY → Prop, post r (nI n, nI c, f', g, s) → wpY_set post (nI n, nI c, f, g, s) i v) := by
  by_cases hi : ¬ i < 0 ∧ ¬ nI n ≤ i
  · by_cases hv : sr_num v
    · obtain ⟨a, ha, rfl⟩ := nI_of hi.1
      have hn : a < n := Nat.lt_of_not_le (fun z => hi.2 (nI_le z ha))
      refine ⟨0, upd f a v, fun post h => ?_, fun post h => ?_⟩
      · unfold wpX_set
        dsimp only
        refine sr_xplc_t hi.1 hi.2 (br_f (by decide) ?_)
        refine sr_xlim_t hv (br_f (by decide) ⟨vp_in_nI (by omega) (by omega), nm_r ?_ h⟩)
        rw [nI_clamp (by omega)]
      · unfold wpY_set
        dsimp only
        refine br_f hi.1 (br_f hi.2 ?_)
        refine sr_ylim_t hv (br_f (by decide) ⟨vp_in_nI (by omega) (by omega), nm_r ?_ h⟩)
        rw [nI_clamp (by omega)]
    · refine ⟨-1, f, fun post h => ?_, fun post h => ?_⟩
      · unfold wpX_set
        dsimp only
        refine sr_xplc_t hi.1 hi.2 (br_f (by decide) ?_)
        exact sr_xlim_f hv (br_t rfl h)
      · unfold wpY_set
        dsimp only
        refine br_f hi.1 (br_f hi.2 ?_)
        exact sr_ylim_f hv (br_t rfl h)
  · refine ⟨-1, f, fun post h => ?_, fun post h => ?_⟩
    · unfold wpX_set
      dsimp only
      exact sr_xplc_f hi (br_t rfl h)
    · unfold wpY_set
      dsimp only
      exact br_c (fun _ => h) (fun z => br_c (fun _ => h) (fun y => absurd ⟨z, y⟩ hi))
theorem sr_cut {n c : Nat} (hh : n + c ≤ 48) (f g s : Nat → Int32) (i j : Int32) : ∃ (r : Int32) (n' c' : Nat) (f' g' : Nat → Int32), n' + c' ≤ 48 ∧ (∀ post : Int32 → SX → Prop, post r (nI n', nI c', f', g') → wpX_cut post (nI n, nI c, f, g) i j) ∧ (∀ post : Int32 → SY → Prop, post r (nI n', nI c', f', g', s) → wpY_cut post (nI n, nI c, f, g, s) i j) := by
  by_cases hs : sr_st n i j
  · obtain ⟨a, b, hab, hbn, rfl, rfl⟩ := sr_st_of (by omega) hs
    refine ⟨nI (b - a), n - (b - a), b - a, sr_cls a b (n - b) b f, sr_tak a f (b - a) a g, by omega, fun post h => ?_, fun post h => ?_⟩
    · unfold wpX_cut
      dsimp only
      refine sr_xst_t hs (br_f (by decide) ?_)
      refine sr_xFill hab (by omega) ?_
      exact sr_xClose hab hbn (by omega) h
    · unfold wpY_cut
      dsimp only
      refine sr_yst_t hs (br_f (by decide) ?_)
      refine sr_yTake hab (by omega) ?_
      exact ⟨n - b + 1, sr_ycls hab hbn (by omega) (n - b) b _ f (by omega) (by omega) (by omega) h⟩
  · refine ⟨-1, n, c, f, g, hh, fun post h => ?_, fun post h => ?_⟩
    · unfold wpX_cut
      dsimp only
      exact sr_xst_f hs (br_t rfl h)
    · unfold wpY_cut
      dsimp only
      exact sr_yst_f hs (br_t rfl h)
theorem sr_copy {n c : Nat} (hh : n + c ≤ 48) (f g s : Nat → Int32) (i j : Int32) : ∃ (r : Int32) (c' : Nat) (g' : Nat → Int32), n + c' ≤ 48 ∧ (∀ post : Int32 → SX → Prop, post r (nI n, nI c', f, g') → wpX_copy post (nI n, nI c, f, g) i j) ∧ (∀ post : Int32 → SY → Prop, post r (nI n, nI c', f, g', s) → wpY_copy post (nI n, nI c, f, g, s) i j) := by
  by_cases hs : sr_st n i j
  · obtain ⟨a, b, hab, hbn, rfl, rfl⟩ := sr_st_of (by omega) hs
    have eX : nI n + (nI b - nI a) = nI (n + (b - a)) := by rw [pk_sub hab, nI_add]
    have eY : nI n + nI b - nI a = nI (n + (b - a)) := sr_e5 hab
    by_cases hf : n + (b - a) ≤ 48
    · have h48 : nI (n + (b - a)) ≤ 48 := (sr_le48 (by omega)).mpr hf
      refine ⟨nI (b - a), b - a, sr_tak a f (b - a) a g, by omega, fun post h => ?_, fun post h => ?_⟩
      · unfold wpX_copy
        dsimp only
        refine sr_xst_t hs (br_f (by decide) ?_)
        rw [eX]
        refine br_t h48 ?_
        exact sr_xFill hab (by omega) h
      · unfold wpY_copy
        dsimp only
        refine sr_yst_t hs (br_f (by decide) ?_)
        rw [eY]
        refine br_t h48 ?_
        exact sr_yTake hab (by omega) h
    · have h48 : ¬ nI (n + (b - a)) ≤ 48 := fun z => hf ((sr_le48 (by omega)).mp z)
      refine ⟨-2, c, g, hh, fun post h => ?_, fun post h => ?_⟩
      · unfold wpX_copy
        dsimp only
        refine sr_xst_t hs (br_f (by decide) ?_)
        rw [eX]
        exact br_f h48 h
      · unfold wpY_copy
        dsimp only
        refine sr_yst_t hs (br_f (by decide) ?_)
        rw [eY]
        exact br_f h48 h
  · refine ⟨-1, c, g, hh, fun post h => ?_, fun post h => ?_⟩
    · unfold wpX_copy
      dsimp only
      exact sr_xst_f hs (br_t rfl h)
    · unfold wpY_copy
      dsimp only
      exact sr_yst_f hs (br_t rfl h)
theorem sr_paste {n c : Nat} (hh : n + c ≤ 48) (f g s : Nat → Int32) (i : Int32) : ∃ (r : Int32) (n' c' : Nat) (f' : Nat → Int32), n' + c' ≤ 48 ∧ (∀ post : Int32 → SX → Prop, post r (nI n', nI c', f', g) → wpX_paste post (nI n, nI c, f, g) i) ∧ (∀ post : Int32 → SY → Prop, post r (nI n', nI c', f', g, s) → wpY_paste post (nI n, nI c, f, g, s) i) := by
  by_cases hi : 0 ≤ i ∧ i ≤ nI n
  · obtain ⟨a, ha, rfl⟩ := sr_of (by omega) hi.1 hi.2
    refine ⟨nI (n + c), n + c, 0, sr_pst a g c 0 (sr_opn a c (n - a) f), by omega, fun post h => ?_, fun post h => ?_⟩
    · unfold wpX_paste
      dsimp only
      refine sr_xgap_t hi.1 hi.2 (br_f (by decide) ?_)
      refine sr_xOpen hh ha ?_
      exact ⟨c + 1, sr_xpst (by omega) c 0 _ _ (by omega) (by omega) h⟩
    · unfold wpY_paste
      dsimp only
      refine br_f (Int32.not_lt.mpr hi.1) (br_t hi.2 ?_)
      refine sr_yOpen hh ha ?_
      exact ⟨c + 1, sr_ypst (by omega) c 0 _ _ (by omega) (by omega) h⟩
  · refine ⟨-1, n, c, f, hh, fun post h => ?_, fun post h => ?_⟩
    · unfold wpX_paste
      dsimp only
      exact sr_xgap_f hi (br_t rfl h)
    · unfold wpY_paste
      dsimp only
      exact br_c (fun _ => h) (fun z => br_c (fun y => absurd ⟨Int32.not_lt.mp z, y⟩ hi) (fun _ => h))
theorem sr_reverse {n c : Nat} (hh : n + c ≤ 48) (f g s : Nat → Int32) (i j : Int32) : ∃ (r : Int32) (f' s' : Nat → Int32), (∀ post : Int32 → SX → Prop, post r (nI n, nI c, f', g) → wpX_reverse post (nI n, nI c, f, g) i j) ∧ (∀ post : Int32 → SY → Prop, post r (nI n, nI c, f', g, s') → wpY_reverse post (nI n, nI c, f, g, s) i j) := by
  by_cases hs : sr_st n i j
  · obtain ⟨a, b, hab, hbn, rfl, rfl⟩ := sr_st_of (by omega) hs
    refine ⟨nI b - nI a, sr_rev a b f, sr_rs a b (b - a) f s, fun post h => ?_, fun post h => ?_⟩
    · unfold wpX_reverse
      dsimp only
      refine sr_xst_t hs (br_f (by decide) ?_)
      exact sr_xTurn hab (by omega) h
    · unfold wpY_reverse
      dsimp only
      refine sr_yst_t hs (br_f (by decide) ⟨b - a + 1, ?_⟩)
      rw [← sr_revE f s hab] at h
      have z := sr_ybk44 (f := f) hab (by omega) h (b - a) 0 (b - a + 1) (by omega) (by omega)
      rw [sr_bk0] at z
      have y := sr_yrs (s := s) hab (by omega) ⟨_, z⟩ (b - a) 0 (b - a + 1) (by omega) (by omega)
      rw [sr_rs0] at y
      exact y
  · refine ⟨-1, f, s, fun post h => ?_, fun post h => ?_⟩
    · unfold wpX_reverse
      dsimp only
      exact sr_xst_f hs (br_t rfl h)
    · unfold wpY_reverse
      dsimp only
      exact sr_yst_f hs (br_t rfl h)
theorem sr_raise {n c : Nat} (hh : n + c ≤ 48) (f g s : Nat → Int32) (i j d : Int32) : ∃ (r : Int32) (f' : Nat → Int32), (∀ post : Int32 → SX → Prop, post r (nI n, nI c, f', g) → wpX_raise post (nI n, nI c, f, g) i j d) ∧ (∀ post : Int32 → SY → Prop, post r (nI n, nI c, f', g, s) → wpY_raise post (nI n, nI c, f, g, s) i j d) := by
  by_cases hs : sr_st n i j
  · by_cases hd : sr_num d
    · obtain ⟨a, b, hab, hbn, rfl, rfl⟩ := sr_st_of (by omega) hs
      by_cases hc : sr_can d f (b - a) a
      · refine ⟨nI b - nI a, sr_map (fun x => x + d) (b - a) a f, fun post h => ?_, fun post h => ?_⟩
        · unfold wpX_raise
          dsimp only
          refine sr_xst_t hs (br_f (by decide) ?_)
          refine sr_xlim_t hd (br_f (by decide) ?_)
          refine ⟨b - a + 1, sr_xcan (by omega) (b - a) a _ (by omega) (by omega) (fun _ => ?_) (fun z => absurd hc z)⟩
          exact br_f (by decide) ⟨b - a + 1, sr_xrai (by omega) (b - a) a _ _ (by omega) (by omega) h⟩
        · unfold wpY_raise
          dsimp only
          refine sr_yst_t hs (br_f (by decide) ?_)
          refine sr_ylim_t hd (br_f (by decide) ?_)
          refine ⟨b - a + 1, sr_ycan (by omega) (b - a) a _ (by omega) (by omega) (fun _ => ?_) (fun z => absurd hc z)⟩
          exact ⟨b - a + 1, sr_yrai (by omega) (b - a) a _ _ (by omega) (by omega) h⟩
      · refine ⟨-1, f, fun post h => ?_, fun post h => ?_⟩
        · unfold wpX_raise
          dsimp only
          refine sr_xst_t hs (br_f (by decide) ?_)
          refine sr_xlim_t hd (br_f (by decide) ?_)
          exact ⟨b - a + 1, sr_xcan (by omega) (b - a) a _ (by omega) (by omega) (fun z => absurd z hc) (fun _ => br_t rfl h)⟩
        · unfold wpY_raise
          dsimp only
          refine sr_yst_t hs (br_f (by decide) ?_)
          refine sr_ylim_t hd (br_f (by decide) ?_)
          exact ⟨b - a + 1, sr_ycan (by omega) (b - a) a _ (by omega) (by omega) (fun z => absurd z hc) (fun _ => h)⟩
    · refine ⟨-1, f, fun post h => ?_, fun post h => ?_⟩
      · unfold wpX_raise
        dsimp only
        refine sr_xst_t hs (br_f (by decide) ?_)
        exact sr_xlim_f hd (br_t rfl h)
      · unfold wpY_raise
        dsimp only
        refine sr_yst_t hs (br_f (by decide) ?_)
        exact sr_ylim_f hd (br_t rfl h)
  · refine ⟨-1, f, fun post h => ?_, fun post h => ?_⟩
    · unfold wpX_raise
      dsimp only
      exact sr_xst_f hs (br_t rfl h)
    · unfold wpY_raise
      dsimp only
      exact sr_yst_f hs (br_t rfl h)
theorem sr_negate {n c : Nat} (hh : n + c ≤ 48) (f g s : Nat → Int32) (i j : Int32) : ∃ (r : Int32) (f' : Nat → Int32), (∀ post : Int32 → SX → Prop, post r (nI n, nI c, f', g) → wpX_negate post (nI n, nI c, f, g) i j) ∧ (∀ post : Int32 → SY → Prop, post r (nI n, nI c, f', g, s) → wpY_negate post (nI n, nI c, f, g, s) i j) := by
  by_cases hs : sr_st n i j
  · obtain ⟨a, b, hab, hbn, rfl, rfl⟩ := sr_st_of (by omega) hs
    refine ⟨nI b - nI a, sr_map (fun x => -x) (b - a) a f, fun post h => ?_, fun post h => ?_⟩
    · unfold wpX_negate
      dsimp only
      refine sr_xst_t hs (br_f (by decide) ?_)
      exact ⟨b - a + 1, sr_xneg (by omega) (b - a) a _ _ (by omega) (by omega) h⟩
    · unfold wpY_negate
      dsimp only
      refine sr_yst_t hs (br_f (by decide) ?_)
      exact ⟨b - a + 1, sr_yneg (by omega) (b - a) a _ _ (by omega) (by omega) h⟩
  · refine ⟨-1, f, fun post h => ?_, fun post h => ?_⟩
    · unfold wpX_negate
      dsimp only
      exact sr_xst_f hs (br_t rfl h)
    · unfold wpY_negate
      dsimp only
      exact sr_yst_f hs (br_t rfl h)
theorem sr_rotate {n c : Nat} (hh : n + c ≤ 48) (f g s : Nat → Int32) (i j k : Int32) : ∃ (r : Int32) (f' s' : Nat → Int32), (∀ post : Int32 → SX → Prop, post r (nI n, nI c, f', g) → wpX_rotate post (nI n, nI c, f, g) i j k) ∧ (∀ post : Int32 → SY → Prop, post r (nI n, nI c, f', g, s') → wpY_rotate post (nI n, nI c, f, g, s) i j k) := by
  by_cases hs : sr_st n i j
  · obtain ⟨a, b, hab, hbn, rfl, rfl⟩ := sr_st_of (by omega) hs
    by_cases hk : 0 ≤ k ∧ k ≤ nI b - nI a
    · have hk' := hk.2
      rw [pk_sub hab] at hk'
      obtain ⟨q, hq, rfl⟩ := sr_of (by omega) hk.1 hk'
      refine ⟨0, sr_rot a b q f, sr_ts a b q (b - a) f s, fun post h => ?_, fun post h => ?_⟩
      · unfold wpX_rotate
        dsimp only
        refine sr_xst_t hs (br_f (by decide) ?_)
        refine br_f (Int32.not_lt.mpr hk.1) (br_t hk.2 ?_)
        rw [nI_add]
        refine sr_xTurn (by omega) (by omega) ?_
        refine sr_xTurn (by omega) (by omega) ?_
        refine sr_xTurn (by omega) (by omega) ?_
        rw [sr_rev3 f (by omega)]
        exact h
      · unfold wpY_rotate
        dsimp only
        refine sr_yst_t hs (br_f (by decide) ?_)
        refine br_f (Int32.not_lt.mpr hk.1) (br_t hk.2 ⟨b - a + 1, ?_⟩)
        rw [← sr_rotE f s (show a + q ≤ b by omega)] at h
        have z := sr_ybk79 (f := f) hab (by omega) h (b - a) 0 (b - a + 1) (by omega) (by omega)
        rw [sr_bk0] at z
        have y := sr_yts (s := s) (show a + q ≤ b by omega) (by omega) ⟨_, z⟩ (b - a) 0 (b - a + 1) (by omega) (by omega)
        rw [sr_ts0] at y
        exact y
    · refine ⟨-1, f, s, fun post h => ?_, fun post h => ?_⟩
      · unfold wpX_rotate
        dsimp only
        refine sr_xst_t hs (br_f (by decide) ?_)
        exact br_c (fun _ => h) (fun z => br_c (fun y => absurd ⟨Int32.not_lt.mp z, y⟩ hk) (fun _ => h))
      · unfold wpY_rotate
        dsimp only
        refine sr_yst_t hs (br_f (by decide) ?_)
        exact br_c (fun _ => h) (fun z => br_c (fun y => absurd ⟨Int32.not_lt.mp z, y⟩ hk) (fun _ => h))
  · refine ⟨-1, f, s, fun post h => ?_, fun post h => ?_⟩
    · unfold wpX_rotate
      dsimp only
      exact sr_xst_f hs (br_t rfl h)
    · unfold wpY_rotate
      dsimp only
      exact sr_yst_f hs (br_t rfl h)
end
section
/-! the methods that only read: one answer, for every post -/
theorem sr_sum2 {n c : Nat} (hh : n + c ≤ 48) (f g s : Nat → Int32) (i j : Int32) : ∃ r : Int32, (∀ post : Int32 → Prop, post r → wpX_sum post (nI n, nI c, f, g) i j) ∧ (∀ post : Int32 → Prop, post r → wpY_sum post (nI n, nI c, f, g, s) i j) := by
  by_cases hs : sr_st n i j
  · obtain ⟨a, b, hab, hbn, rfl, rfl⟩ := sr_st_of (by omega) hs
    refine ⟨sr_sum f (b - a) a 0, fun post h => ?_, fun post h => ?_⟩
    · unfold wpX_sum
      dsimp only
      refine sr_xst_t hs (br_f (by decide) ?_)
      exact ⟨b - a + 1, sr_xsum (by omega) (b - a) a _ _ (by omega) (by omega) h⟩
    · unfold wpY_sum
      dsimp only
      refine sr_yst_t hs (br_f (by decide) ?_)
      exact ⟨b - a + 1, sr_ysum (by omega) (b - a) a _ _ (by omega) (by omega) h⟩
  · refine ⟨0, fun post h => ?_, fun post h => ?_⟩
    · unfold wpX_sum
      dsimp only
      exact sr_xst_f hs (br_t rfl h)
    · unfold wpY_sum
      dsimp only
      exact sr_yst_f hs (br_t rfl h)
theorem sr_weighted {n c : Nat} (hh : n + c ≤ 48) (f g s : Nat → Int32) (i j : Int32) : ∃ r : Int32, (∀ post : Int32 → Prop, post r → wpX_weighted post (nI n, nI c, f, g) i j) ∧ (∀ post : Int32 → Prop, post r → wpY_weighted post (nI n, nI c, f, g, s) i j) := by
  by_cases hs : sr_st n i j
  · obtain ⟨a, b, hab, hbn, rfl, rfl⟩ := sr_st_of (by omega) hs
    refine ⟨sr_wgt a f (b - a) a 0, fun post h => ?_, fun post h => ?_⟩
    · unfold wpX_weighted
      dsimp only
      refine sr_xst_t hs (br_f (by decide) ?_)
      exact ⟨b - a + 1, sr_xwgt (by omega) (b - a) a _ _ (by omega) (by omega) (by omega) h⟩
    · unfold wpY_weighted
      dsimp only
      refine sr_yst_t hs (br_f (by decide) ?_)
      exact ⟨b - a + 1, sr_ywgt (by omega) (b - a) a _ _ (by omega) (by omega) (by omega) h⟩
  · refine ⟨0, fun post h => ?_, fun post h => ?_⟩
    · unfold wpX_weighted
      dsimp only
      exact sr_xst_f hs (br_t rfl h)
    · unfold wpY_weighted
      dsimp only
      exact sr_yst_f hs (br_t rfl h)
theorem sr_xPlace {n a b : Nat} {C : Int32} {f g : Nat → Int32} {post : Int32 → Prop} (hab : a < b) (hb : b ≤ 48) (h : post (nI (sr_gr f (b - a - 1) (a + 1) a))) : wpX_placeOfGreatest post (nI n, C, f, g) (nI a) (nI b) := nm_r (nI_1 a) ⟨b - a, sr_xgr hb (b - a - 1) (a + 1) a _ (by omega) (by omega) (by omega) h⟩
theorem sr_yGrAt {n a b : Nat} {C : Int32} {f g s : Nat → Int32} {post : Int32 → Prop} (hs : sr_st n (nI a) (nI b)) (hab : a < b) (hb : b ≤ 48) (h : post (nI (sr_gr f (b - a - 1) (a + 1) a))) : wpY_greatestAt post (nI n, C, f, g, s) (nI a) (nI b) := by
  unfold wpY_greatestAt
  dsimp only
  refine sr_yst_t hs (br_f (by decide) ⟨b - a + 1, ?_⟩)
  refine br_f (nI_ge hab (by omega)) (br_t rfl (nm_r (nI_1 a) ?_))
  exact sr_ygr hb (b - a - 1) (a + 1) a _ (by omega) (by omega) (by omega) h
theorem sr_yGrAt0 {n a : Nat} {C : Int32} {f g s : Nat → Int32} {post : Int32 → Prop} (hs : sr_st n (nI a) (nI a)) (h : post (-4)) : wpY_greatestAt post (nI n, C, f, g, s) (nI a) (nI a) := by
  unfold wpY_greatestAt
  dsimp only
  refine sr_yst_t hs (br_f (by decide) ⟨1, ?_⟩)
  exact br_t (Int32.le_refl _) h
theorem sr_yGrAtN {n : Nat} {C i j : Int32} {f g s : Nat → Int32} {post : Int32 → Prop} (hs : ¬ sr_st n i j) (h : post (-1)) : wpY_greatestAt post (nI n, C, f, g, s) i j := by
  unfold wpY_greatestAt
  dsimp only
  exact sr_yst_f hs (br_t rfl h)
theorem sr_greatestAt {n c : Nat} (hh : n + c ≤ 48) (f g s : Nat → Int32) (i j : Int32) : ∃ r : Int32, (∀ post : Int32 → Prop, post r → wpX_greatestAt post (nI n, nI c, f, g) i j) ∧ (∀ post : Int32 → Prop, post r → wpY_greatestAt post (nI n, nI c, f, g, s) i j) := by
  by_cases hs : sr_st n i j
  · obtain ⟨a, b, hab, hbn, rfl, rfl⟩ := sr_st_of (by omega) hs
    by_cases hlt : a < b
    · have hne : ¬ nI a = nI b := fun z => absurd ((nI_eq (by omega) (by omega)).mp z) (by omega)
      refine ⟨nI (sr_gr f (b - a - 1) (a + 1) a), fun post h => ?_, fun post h => sr_yGrAt hs hlt (by omega) h⟩
      unfold wpX_greatestAt
      dsimp only
      refine sr_xst_t hs (br_f (by decide) (br_f hne ?_))
      exact sr_xPlace hlt (by omega) h
    · have e : b = a := by omega
      subst e
      refine ⟨-4, fun post h => ?_, fun post h => sr_yGrAt0 hs h⟩
      unfold wpX_greatestAt
      dsimp only
      exact sr_xst_t hs (br_f (by decide) (br_t rfl h))
  · refine ⟨-1, fun post h => ?_, fun post h => sr_yGrAtN hs h⟩
    unfold wpX_greatestAt
    dsimp only
    exact sr_xst_f hs (br_t rfl h)
theorem sr_greatest {n c : Nat} (hh : n + c ≤ 48) (f g s : Nat → Int32) (i j : Int32) : ∃ r : Int32, (∀ post : Int32 → Prop, post r → wpX_greatest post (nI n, nI c, f, g) i j) ∧ (∀ post : Int32 → Prop, post r → wpY_greatest post (nI n, nI c, f, g, s) i j) := by
  by_cases hs : sr_st n i j
  · obtain ⟨a, b, hab, hbn, rfl, rfl⟩ := sr_st_of (by omega) hs
    by_cases hlt : a < b
    · have hne : ¬ nI a = nI b := fun z => absurd ((nI_eq (by omega) (by omega)).mp z) (by omega)
      have hg : sr_gr f (b - a - 1) (a + 1) a < b := sr_gr_lt f b (b - a - 1) (a + 1) a (by omega) hlt
      refine ⟨f (sr_gr f (b - a - 1) (a + 1) a), fun post h => ?_, fun post h => ?_⟩
      · unfold wpX_greatest
        dsimp only
        refine sr_xst_t hs (br_f (by decide) (br_f hne ?_))
        refine sr_xPlace hlt (by omega) ⟨vp_in_nI (by omega) (by omega), ?_⟩
        rw [nI_clamp (by omega)]
        exact h
      · unfold wpY_greatest
        dsimp only
        refine sr_yGrAt hs hlt (by omega) (br_t (nI_pos' (by omega)) ⟨vp_in_nI (by omega) (by omega), ?_⟩)
        rw [nI_clamp (by omega)]
        exact h
    · have e : b = a := by omega
      subst e
      refine ⟨0, fun post h => ?_, fun post h => ?_⟩
      · unfold wpX_greatest
        dsimp only
        exact sr_xst_t hs (br_f (by decide) (br_t rfl h))
      · unfold wpY_greatest
        dsimp only
        exact sr_yGrAt0 hs (br_f (by decide) h)
  · refine ⟨0, fun post h => ?_, fun post h => ?_⟩
    · unfold wpX_greatest
      dsimp only
      exact sr_xst_f hs (br_t rfl h)
    · unfold wpY_greatest
      dsimp only
      exact sr_yGrAtN hs (br_f (by decide) h)
theorem sr_fst {n : Nat} (hn : n ≤ 48) {C : Int32} (f g s : Nat → Int32) (w : Int32) : ∀ m p : Nat, p + m = n → ∃ r : Int32, (∀ (N : Nat) (post : Int32 → Prop), m < N → post r → wX_firstFrom_13 post w (nI n) C f g N (nI p)) ∧ (∀ (N : Nat) (post : Int32 → Prop), m < N → post r → wY_firstFrom_17 post w (nI n) C f g s N (nI p)) := by
  intro m
  induction m with
  | zero =>
    intro p hp
    have z : nI n ≤ nI p := nI_le (by omega) (by omega)
    refine ⟨-4, fun N post hN h => ?_, fun N post hN h => ?_⟩
    · obtain ⟨N, rfl⟩ : ∃ M, N = M + 1 := ⟨N - 1, by omega⟩
      exact br_t z h
    · obtain ⟨N, rfl⟩ : ∃ M, N = M + 1 := ⟨N - 1, by omega⟩
      exact br_t z h
  | succ m ih =>
    intro p hp
    have z : ¬ nI n ≤ nI p := nI_ge (by omega) (by omega)
    have hin : vp_in (nI p) 48 := vp_in_nI (by omega) (by omega)
    have e : (nI p).toNatClampNeg = p := nI_clamp (by omega)
    by_cases y : f p < w
    · rw [← e] at y
      obtain ⟨r, hX, hY⟩ := ih (p + 1) (by omega)
      refine ⟨r, fun N post hN h => ?_, fun N post hN h => ?_⟩
      · obtain ⟨N, rfl⟩ : ∃ M, N = M + 1 := ⟨N - 1, by omega⟩
        exact br_f z ⟨hin, br_t y (nm_r (nI_1 p) (hX N post (by omega) h))⟩
      · obtain ⟨N, rfl⟩ : ∃ M, N = M + 1 := ⟨N - 1, by omega⟩
        exact br_f z ⟨hin, br_t y (nm_r (nI_1 p) (hY N post (by omega) h))⟩
    · rw [← e] at y
      refine ⟨nI p, fun N post hN h => ?_, fun N post hN h => ?_⟩
      · obtain ⟨N, rfl⟩ : ∃ M, N = M + 1 := ⟨N - 1, by omega⟩
        exact br_f z ⟨hin, br_f y h⟩
      · obtain ⟨N, rfl⟩ : ∃ M, N = M + 1 := ⟨N - 1, by omega⟩
        exact br_f z ⟨hin, br_f y h⟩
theorem sr_firstFrom {n c : Nat} (hh : n + c ≤ 48) (f g s : Nat → Int32) (i w : Int32) : ∃ r : Int32, (∀ post : Int32 → Prop, post r → wpX_firstFrom post (nI n, nI c, f, g) i w) ∧ (∀ post : Int32 → Prop, post r → wpY_firstFrom post (nI n, nI c, f, g, s) i w) := by
  by_cases hi : 0 ≤ i ∧ i ≤ nI n
  · obtain ⟨a, ha, rfl⟩ := sr_of (by omega) hi.1 hi.2
    obtain ⟨r, hX, hY⟩ := sr_fst (n := n) (by omega) (C := nI c) f g s w (n - a) a (by omega)
    refine ⟨r, fun post h => ?_, fun post h => ?_⟩
    · unfold wpX_firstFrom
      dsimp only
      exact sr_xgap_t hi.1 hi.2 (br_f (by decide) ⟨n - a + 1, hX _ post (by omega) h⟩)
    · unfold wpY_firstFrom
      dsimp only
      exact br_f (Int32.not_lt.mpr hi.1) (br_t hi.2 ⟨n - a + 1, hY _ post (by omega) h⟩)
  · refine ⟨-4, fun post h => ?_, fun post h => ?_⟩
    · unfold wpX_firstFrom
      dsimp only
      exact sr_xgap_f hi (br_t rfl h)
    · unfold wpY_firstFrom
      dsimp only
      exact br_c (fun _ => h) (fun z => br_c (fun y => absurd ⟨Int32.not_lt.mp z, y⟩ hi) (fun _ => h))
theorem sr_alk {a b q : Nat} (ha : a + q ≤ 48) (hb : b + q ≤ 48) {R C : Int32} (f g s : Nat → Int32) : ∀ m t : Nat, t + m = q → ∃ r : Int32, (∀ (N : Nat) (post : Int32 → Prop), m < N → post r → wX_alike_23 post (nI a) (nI b) (nI q) R C f g N (nI t)) ∧ (∀ (N : Nat) (post : Int32 → Prop), m < N → post r → wY_alike_45 post (nI a) (nI b) (nI q) R C f g s N (nI t)) := by
  intro m
  induction m with
  | zero =>
    intro t ht
    have z : nI q ≤ nI t := nI_le (by omega) (by omega)
    refine ⟨1, fun N post hN h => ?_, fun N post hN h => ?_⟩
    · obtain ⟨N, rfl⟩ : ∃ M, N = M + 1 := ⟨N - 1, by omega⟩
      exact br_t z h
    · obtain ⟨N, rfl⟩ : ∃ M, N = M + 1 := ⟨N - 1, by omega⟩
      exact br_t z h
  | succ m ih =>
    intro t ht
    have z : ¬ nI q ≤ nI t := nI_ge (by omega) (by omega)
    have i1 : vp_in (nI a + nI t) 48 := by rw [nI_add]; exact vp_in_nI (by omega) (by omega)
    have i2 : vp_in (nI b + nI t) 48 := by rw [nI_add]; exact vp_in_nI (by omega) (by omega)
    by_cases y : f (nI a + nI t).toNatClampNeg = f (nI b + nI t).toNatClampNeg
    · obtain ⟨r, hX, hY⟩ := ih (t + 1) (by omega)
      refine ⟨r, fun N post hN h => ?_, fun N post hN h => ?_⟩
      · obtain ⟨N, rfl⟩ : ∃ M, N = M + 1 := ⟨N - 1, by omega⟩
        exact br_f z ⟨i1, i2, br_t y (nm_r (nI_1 t) (hX N post (by omega) h))⟩
      · obtain ⟨N, rfl⟩ : ∃ M, N = M + 1 := ⟨N - 1, by omega⟩
        exact br_f z ⟨i1, i2, br_t y (nm_r (nI_1 t) (hY N post (by omega) h))⟩
    · refine ⟨0, fun N post hN h => ?_, fun N post hN h => ?_⟩
      · obtain ⟨N, rfl⟩ : ∃ M, N = M + 1 := ⟨N - 1, by omega⟩
        exact br_f z ⟨i1, i2, br_f y h⟩
      · obtain ⟨N, rfl⟩ : ∃ M, N = M + 1 := ⟨N - 1, by omega⟩
        exact br_f z ⟨i1, i2, br_f y h⟩
theorem sr_kfit {n q a : Nat} (hn : n ≤ 48) (hq : q < 2 ^ 31) (ha : a < 2 ^ 31) (h : ¬ nI n - nI q < nI a) : a + q ≤ n := by
  rw [Int32.lt_iff_toInt_lt, sr_nk hn hq, nI_toInt ha] at h
  omega
theorem sr_alike {n c : Nat} (hh : n + c ≤ 48) (f g s : Nat → Int32) (i j k : Int32) : ∃ r : Int32, (∀ post : Int32 → Prop, post r → wpX_alike post (nI n, nI c, f, g) i j k) ∧ (∀ post : Int32 → Prop, post r → wpY_alike post (nI n, nI c, f, g, s) i j k) := by
  by_cases hP : ¬ k < 0 ∧ ¬ i < 0 ∧ ¬ j < 0 ∧ ¬ nI n - k < i ∧ ¬ nI n - k < j
  · obtain ⟨hk, hi, hj, h1, h2⟩ := hP
    obtain ⟨q, hq, rfl⟩ := nI_of hk
    obtain ⟨a, ha, rfl⟩ := nI_of hi
    obtain ⟨b, hb, rfl⟩ := nI_of hj
    have f1 := sr_kfit (by omega) hq ha h1
    have f2 := sr_kfit (by omega) hq hb h2
    obtain ⟨r, hX, hY⟩ := sr_alk (a := a) (b := b) (q := q) (by omega) (by omega) (R := nI n) (C := nI c) f g s q 0 (by omega)
    refine ⟨r, fun post h => ?_, fun post h => ?_⟩
    · unfold wpX_alike
      dsimp only
      refine br_f hk (br_f hi (br_f h1 (br_f (by decide) ?_)))
      refine br_f hk (br_f hj (br_f h2 (br_f (by decide) ?_)))
      exact ⟨q + 1, hX _ post (by omega) h⟩
    · unfold wpY_alike
      dsimp only
      refine br_f hk (br_f hi (br_f hj (br_f h1 (br_f h2 (br_t (nI_le (by omega) (by omega)) ?_)))))
      exact ⟨q + 1, hY _ post (by omega) h⟩
  · refine ⟨0, fun post h => ?_, fun post h => ?_⟩
    · unfold wpX_alike
      dsimp only
      refine br_c (fun _ => br_t rfl h) (fun hk => br_c (fun _ => br_t rfl h) (fun hi => br_c (fun _ => br_t rfl h) (fun h1 => br_f (by decide) ?_)))
      refine br_c (fun _ => br_t rfl h) (fun _ => br_c (fun _ => br_t rfl h) (fun hj => br_c (fun _ => br_t rfl h) (fun h2 => ?_)))
      exact absurd ⟨hk, hi, hj, h1, h2⟩ hP
    · unfold wpY_alike
      dsimp only
      refine br_c (fun _ => h) (fun hk => br_c (fun _ => h) (fun hi => br_c (fun _ => h) (fun hj => br_c (fun _ => h) (fun h1 => br_c (fun _ => h) (fun h2 => ?_)))))
      exact absurd ⟨hk, hi, hj, h1, h2⟩ hP
end
section
/-! the owed statements: the relation and one statement a method -/
def i_Rel (_ : Nat) (u : SX) (v : SY) : Prop := ∃ n c : Nat, n + c ≤ 48 ∧ ∃ f g s : Nat → Int32, u = (nI n, nI c, f, g) ∧ v = (nI n, nI c, f, g, s)
theorem i_up {k : Nat} {u : SX} {v : SY} (h : i_Rel k u v) : i_Rel (k + 5) u v := h
theorem i_vc0 : wpX_init (fun u => wpY_init (fun v => i_Rel 0 u v)) := ⟨0, 0, by decide, _, _, _, rfl, rfl⟩
theorem i_vc_insert {k : Nat} {u : SX} {v : SY} (I : i_Rel k u v) (hk : k + 5 ≤ 2560) (v1 : Int32) (v2 : Int32) : wpX_insert (fun r u' => wpY_insert (fun r' v' => i_Rel (k + 5) u' v') v v1 v2) u v1 v2 := by
  obtain ⟨n, c, hh, f, g, s, rfl, rfl⟩ := I
  obtain ⟨r, n', f', h', hX, hY⟩ := sr_insert hh f g s v1 v2
  exact hX _ (hY _ ⟨n', c, h', f', g, s, rfl, rfl⟩)
theorem i_vc_insertRun {k : Nat} {u : SX} {v : SY} (I : i_Rel k u v) (hk : k + 5 ≤ 2560) (v1 : Int32) (v2 : Int32) (v3 : Int32) (v4 : Int32) : wpX_insertRun (fun r u' => wpY_insertRun (fun r' v' => i_Rel (k + 5) u' v') v v1 v2 v3 v4) u v1 v2 v3 v4 := by
  obtain ⟨n, c, hh, f, g, s, rfl, rfl⟩ := I
  obtain ⟨r, r', n', f', h', he, hX, hY⟩ := sr_insertRun hh f g s v1 v2 v3 v4
  exact hX _ (hY _ ⟨n', c, h', f', g, s, rfl, rfl⟩)
theorem i_vc_size {k : Nat} {u : SX} {v : SY} (I : i_Rel k u v) (hk : k + 5 ≤ 2560) : wpX_size (fun r => wpY_size (fun r' => i_Rel (k + 5) u v) v) u := by
  obtain ⟨n, c, hh, f, g, s, rfl, rfl⟩ := I
  exact ⟨n, c, hh, f, g, s, rfl, rfl⟩
theorem i_vc_get {k : Nat} {u : SX} {v : SY} (I : i_Rel k u v) (hk : k + 5 ≤ 2560) (v1 : Int32) : wpX_get (fun r => wpY_get (fun r' => i_Rel (k + 5) u v) v v1) u v1 := by
  obtain ⟨n, c, hh, f, g, s, rfl, rfl⟩ := I
  obtain ⟨r, hX, hY⟩ := sr_get hh f g s v1
  exact hX _ (hY _ ⟨n, c, hh, f, g, s, rfl, rfl⟩)
theorem i_vc_set {k : Nat} {u : SX} {v : SY} (I : i_Rel k u v) (hk : k + 5 ≤ 2560) (v1 : Int32) (v2 : Int32) : wpX_set (fun r u' => wpY_set (fun r' v' => i_Rel (k + 5) u' v') v v1 v2) u v1 v2 := by
  obtain ⟨n, c, hh, f, g, s, rfl, rfl⟩ := I
  obtain ⟨r, f', hX, hY⟩ := sr_set hh f g s v1 v2
  exact hX _ (hY _ ⟨n, c, hh, f', g, s, rfl, rfl⟩)
theorem i_vc_cut {k : Nat} {u : SX} {v : SY} (I : i_Rel k u v) (hk : k + 5 ≤ 2560) (v1 : Int32) (v2 : Int32) : wpX_cut (fun r u' => wpY_cut (fun r' v' => i_Rel (k + 5) u' v') v v1 v2) u v1 v2 := by
  obtain ⟨n, c, hh, f, g, s, rfl, rfl⟩ := I
  obtain ⟨r, n', c', f', g', h', hX, hY⟩ := sr_cut hh f g s v1 v2
  exact hX _ (hY _ ⟨n', c', h', f', g', s, rfl, rfl⟩)
theorem i_vc_copy {k : Nat} {u : SX} {v : SY} (I : i_Rel k u v) (hk : k + 5 ≤ 2560) (v1 : Int32) (v2 : Int32) : wpX_copy (fun r u' => wpY_copy (fun r' v' => i_Rel (k + 5) u' v') v v1 v2) u v1 v2 := by
  obtain ⟨n, c, hh, f, g, s, rfl, rfl⟩ := I
  obtain ⟨r, c', g', h', hX, hY⟩ := sr_copy hh f g s v1 v2
  exact hX _ (hY _ ⟨n, c', h', f, g', s, rfl, rfl⟩)
theorem i_vc_paste {k : Nat} {u : SX} {v : SY} (I : i_Rel k u v) (hk : k + 5 ≤ 2560) (v1 : Int32) : wpX_paste (fun r u' => wpY_paste (fun r' v' => i_Rel (k + 5) u' v') v v1) u v1 := by
  obtain ⟨n, c, hh, f, g, s, rfl, rfl⟩ := I
  obtain ⟨r, n', c', f', h', hX, hY⟩ := sr_paste hh f g s v1
  exact hX _ (hY _ ⟨n', c', h', f', g, s, rfl, rfl⟩)
theorem i_vc_clip {k : Nat} {u : SX} {v : SY} (I : i_Rel k u v) (hk : k + 5 ≤ 2560) : wpX_clip (fun r => wpY_clip (fun r' => i_Rel (k + 5) u v) v) u := by
  obtain ⟨n, c, hh, f, g, s, rfl, rfl⟩ := I
  exact ⟨n, c, hh, f, g, s, rfl, rfl⟩
theorem i_vc_reverse {k : Nat} {u : SX} {v : SY} (I : i_Rel k u v) (hk : k + 5 ≤ 2560) (v1 : Int32) (v2 : Int32) : wpX_reverse (fun r u' => wpY_reverse (fun r' v' => i_Rel (k + 5) u' v') v v1 v2) u v1 v2 := by
  obtain ⟨n, c, hh, f, g, s, rfl, rfl⟩ := I
  obtain ⟨r, f', s', hX, hY⟩ := sr_reverse hh f g s v1 v2
  exact hX _ (hY _ ⟨n, c, hh, f', g, s', rfl, rfl⟩)
theorem i_vc_raise {k : Nat} {u : SX} {v : SY} (I : i_Rel k u v) (hk : k + 5 ≤ 2560) (v1 : Int32) (v2 : Int32) (v3 : Int32) : wpX_raise (fun r u' => wpY_raise (fun r' v' => i_Rel (k + 5) u' v') v v1 v2 v3) u v1 v2 v3 := by
  obtain ⟨n, c, hh, f, g, s, rfl, rfl⟩ := I
  obtain ⟨r, f', hX, hY⟩ := sr_raise hh f g s v1 v2 v3
  exact hX _ (hY _ ⟨n, c, hh, f', g, s, rfl, rfl⟩)
theorem i_vc_negate {k : Nat} {u : SX} {v : SY} (I : i_Rel k u v) (hk : k + 5 ≤ 2560) (v1 : Int32) (v2 : Int32) : wpX_negate (fun r u' => wpY_negate (fun r' v' => i_Rel (k + 5) u' v') v v1 v2) u v1 v2 := by
  obtain ⟨n, c, hh, f, g, s, rfl, rfl⟩ := I
  obtain ⟨r, f', hX, hY⟩ := sr_negate hh f g s v1 v2
  exact hX _ (hY _ ⟨n, c, hh, f', g, s, rfl, rfl⟩)
theorem i_vc_rotate {k : Nat} {u : SX} {v : SY} (I : i_Rel k u v) (hk : k + 5 ≤ 2560) (v1 : Int32) (v2 : Int32) (v3 : Int32) : wpX_rotate (fun r u' => wpY_rotate (fun r' v' => i_Rel (k + 5) u' v') v v1 v2 v3) u v1 v2 v3 := by
  obtain ⟨n, c, hh, f, g, s, rfl, rfl⟩ := I
  obtain ⟨r, f', s', hX, hY⟩ := sr_rotate hh f g s v1 v2 v3
  exact hX _ (hY _ ⟨n, c, hh, f', g, s', rfl, rfl⟩)
theorem i_vc_sum {k : Nat} {u : SX} {v : SY} (I : i_Rel k u v) (hk : k + 5 ≤ 2560) (v1 : Int32) (v2 : Int32) : wpX_sum (fun r => wpY_sum (fun r' => i_Rel (k + 5) u v) v v1 v2) u v1 v2 := by
  obtain ⟨n, c, hh, f, g, s, rfl, rfl⟩ := I
  obtain ⟨r, hX, hY⟩ := sr_sum2 hh f g s v1 v2
  exact hX _ (hY _ ⟨n, c, hh, f, g, s, rfl, rfl⟩)
theorem i_vc_greatest {k : Nat} {u : SX} {v : SY} (I : i_Rel k u v) (hk : k + 5 ≤ 2560) (v1 : Int32) (v2 : Int32) : wpX_greatest (fun r => wpY_greatest (fun r' => i_Rel (k + 5) u v) v v1 v2) u v1 v2 := by
  obtain ⟨n, c, hh, f, g, s, rfl, rfl⟩ := I
  obtain ⟨r, hX, hY⟩ := sr_greatest hh f g s v1 v2
  exact hX _ (hY _ ⟨n, c, hh, f, g, s, rfl, rfl⟩)
theorem i_vc_greatestAt {k : Nat} {u : SX} {v : SY} (I : i_Rel k u v) (hk : k + 5 ≤ 2560) (v1 : Int32) (v2 : Int32) : wpX_greatestAt (fun r => wpY_greatestAt (fun r' => i_Rel (k + 5) u v) v v1 v2) u v1 v2 := by
  obtain ⟨n, c, hh, f, g, s, rfl, rfl⟩ := I
  obtain ⟨r, hX, hY⟩ := sr_greatestAt hh f g s v1 v2
  exact hX _ (hY _ ⟨n, c, hh, f, g, s, rfl, rfl⟩)
theorem i_vc_firstFrom {k : Nat} {u : SX} {v : SY} (I : i_Rel k u v) (hk : k + 5 ≤ 2560) (v1 : Int32) (v2 : Int32) : wpX_firstFrom (fun r => wpY_firstFrom (fun r' => i_Rel (k + 5) u v) v v1 v2) u v1 v2 := by
  obtain ⟨n, c, hh, f, g, s, rfl, rfl⟩ := I
  obtain ⟨r, hX, hY⟩ := sr_firstFrom hh f g s v1 v2
  exact hX _ (hY _ ⟨n, c, hh, f, g, s, rfl, rfl⟩)
theorem i_vc_weighted {k : Nat} {u : SX} {v : SY} (I : i_Rel k u v) (hk : k + 5 ≤ 2560) (v1 : Int32) (v2 : Int32) : wpX_weighted (fun r => wpY_weighted (fun r' => i_Rel (k + 5) u v) v v1 v2) u v1 v2 := by
  obtain ⟨n, c, hh, f, g, s, rfl, rfl⟩ := I
  obtain ⟨r, hX, hY⟩ := sr_weighted hh f g s v1 v2
  exact hX _ (hY _ ⟨n, c, hh, f, g, s, rfl, rfl⟩)
theorem i_vc_alike {k : Nat} {u : SX} {v : SY} (I : i_Rel k u v) (hk : k + 5 ≤ 2560) (v1 : Int32) (v2 : Int32) (v3 : Int32) : wpX_alike (fun r => wpY_alike (fun r' => r' = r ∧ i_Rel (k + 5) u v) v v1 v2 v3) u v1 v2 v3 := by
  obtain ⟨n, c, hh, f, g, s, rfl, rfl⟩ := I
  obtain ⟨r, hX, hY⟩ := sr_alike hh f g s v1 v2 v3
  exact hX _ (hY _ ⟨rfl, n, c, hh, f, g, s, rfl, rfl⟩)
end
