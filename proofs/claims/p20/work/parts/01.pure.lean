/-! the loops' pure functions: both sides write the same cells, so one function serves both -/
theorem pk_us {f : Nat → Int32} {k : Nat} {x : Int32} : upd f k x k = x := if_pos rfl
theorem pk_un {f : Nat → Int32} {k j : Nat} {x : Int32} (h : j ≠ k) : upd f k x j = f j := if_neg h
theorem pk_sub {a b : Nat} (h : b ≤ a) : nI a - nI b = nI (a - b) := by
  obtain ⟨c, rfl⟩ : ∃ c, a = c + b := ⟨a - b, by omega⟩
  rw [← nI_add, Int32.add_sub_cancel, Nat.add_sub_cancel]
theorem pk_mul (a b : Nat) : nI a * nI b = nI (a * b) := (Int32.ofNat_mul a b).symm
theorem pk_div {a d : Nat} (ha : a < 2 ^ 31) (h0 : 0 < d) (hd : d < 2 ^ 31) : nI a / nI d = nI (a / d) := by
  apply Int32.toInt_inj.mp
  rw [lg_idiv_nonneg (by rw [nI_toInt ha]; omega) (by rw [nI_toInt hd]; omega), nI_toInt ha, nI_toInt hd, nI_toInt (Nat.lt_of_le_of_lt (Nat.div_le_self a d) ha)]
  first | rfl | exact (Int.natCast_ediv _ _).symm
theorem pk_sub_toInt {a b : Nat} (ha : a < 2 ^ 30) (hb : b < 2 ^ 30) : (nI a - nI b).toInt = (a : Int) - b := by
  rw [Int32.toInt_sub, nI_toInt (by omega), nI_toInt (by omega)]
  exact Int.bmod_eq_of_le (by omega) (by omega)

theorem sr_upd_at (f : Nat → Int32) (k : Nat) (v : Int32) (j : Nat) : upd f k v j = if j = k then v else f j := rfl
theorem sr_upd_self (f : Nat → Int32) (k : Nat) : upd f k (f k) = f := by
  funext j
  rw [sr_upd_at]
  by_cases h : j = k
  · rw [if_pos h, h]
  · rw [if_neg h]

/-- the gap of k cells at a, opened from the back: d numbers are still to be moved -/
def sr_opn (a k : Nat) : Nat → (Nat → Int32) → (Nat → Int32)
  | 0, f => f
  | d + 1, f => sr_opn a k d (upd f (a + d + k) (f (a + d)))
theorem sr_opn0 (a : Nat) : ∀ (d : Nat) (f : Nat → Int32), sr_opn a 0 d f = f := by
  intro d
  induction d with
  | zero => intro f; rfl
  | succ d ih =>
    intro f
    show sr_opn a 0 d (upd f (a + d + 0) (f (a + d))) = f
    rw [Nat.add_zero, sr_upd_self]
    exact ih f
/-- a run's numbers written: m more, t written already -/
def sr_run (a : Nat) (v d : Int32) : Nat → Nat → (Nat → Int32) → (Nat → Int32)
  | 0, _, f => f
  | m + 1, t, f => sr_run a v d m (t + 1) (upd f (a + t) (v + nI t * d))
/-- the clip g written at a -/
def sr_pst (a : Nat) (g : Nat → Int32) : Nat → Nat → (Nat → Int32) → (Nat → Int32)
  | 0, _, f => f
  | m + 1, t, f => sr_pst a g m (t + 1) (upd f (a + t) (g t))
/-- the gap from a to b closed: m numbers more, the next at p -/
def sr_cls (a b : Nat) : Nat → Nat → (Nat → Int32) → (Nat → Int32)
  | 0, _, f => f
  | m + 1, p, f => sr_cls a b m (p + 1) (upd f (p - (b - a)) (f p))
/-- the clip filled from a on -/
def sr_tak (a : Nat) (f : Nat → Int32) : Nat → Nat → (Nat → Int32) → (Nat → Int32)
  | 0, _, g => g
  | m + 1, p, g => sr_tak a f m (p + 1) (upd g (p - a) (f p))
/-- h at every number of a stretch -/
def sr_map (h : Int32 → Int32) : Nat → Nat → (Nat → Int32) → (Nat → Int32)
  | 0, _, f => f
  | m + 1, p, f => sr_map h m (p + 1) (upd f p (h (f p)))
def sr_sum (f : Nat → Int32) : Nat → Nat → Int32 → Int32
  | 0, _, s => s
  | m + 1, p, s => sr_sum f m (p + 1) (s + f p)
def sr_wgt (a : Nat) (f : Nat → Int32) : Nat → Nat → Int32 → Int32
  | 0, _, s => s
  | m + 1, p, s => sr_wgt a f m (p + 1) (s + nI (p - a + 1) * f p)
/-- the place of the greatest: the best so far at q -/
def sr_gr (f : Nat → Int32) : Nat → Nat → Nat → Nat
  | 0, _, q => q
  | m + 1, p, q => sr_gr f m (p + 1) (if f q < f p then p else q)
theorem sr_gr_lt (f : Nat → Int32) (B : Nat) : ∀ (m p q : Nat), p + m ≤ B → q < B → sr_gr f m p q < B := by
  intro m
  induction m with
  | zero => intro p q _ h; exact h
  | succ m ih =>
    intro p q hp hq
    refine ih (p + 1) _ (by omega) ?_
    by_cases h : f q < f p
    · rw [if_pos h]; omega
    · rw [if_neg h]; exact hq

/-- a stretch turned round -/
def sr_rev (a b : Nat) (f : Nat → Int32) : Nat → Int32 := fun x => if a ≤ x ∧ x < b then f (a + b - 1 - x) else f x
theorem sr_rev_at (a b : Nat) (f : Nat → Int32) (x : Nat) : sr_rev a b f x = if a ≤ x ∧ x < b then f (a + b - 1 - x) else f x := rfl
/-- t swaps from both ends done -/
def sr_sw (a b t : Nat) (f : Nat → Int32) : Nat → Int32 := fun x => if (a ≤ x ∧ x < a + t) ∨ (b ≤ x + t ∧ x < b) then f (a + b - 1 - x) else f x
theorem sr_sw_at (a b t : Nat) (f : Nat → Int32) (x : Nat) : sr_sw a b t f x = if (a ≤ x ∧ x < a + t) ∨ (b ≤ x + t ∧ x < b) then f (a + b - 1 - x) else f x := rfl
theorem sr_sw0 (a b : Nat) (f : Nat → Int32) : sr_sw a b 0 f = f := by
  funext x
  rw [sr_sw_at, if_neg (by omega)]
theorem sr_swS {a b t : Nat} (f : Nat → Int32) (h : a + 2 * t + 2 ≤ b) : upd (upd (sr_sw a b t f) (a + t) (sr_sw a b t f (b - 1 - t))) (b - 1 - t) (sr_sw a b t f (a + t)) = sr_sw a b (t + 1) f := by
  funext x
  have e1 : sr_sw a b t f (b - 1 - t) = f (b - 1 - t) := by rw [sr_sw_at, if_neg (by omega)]
  have e2 : sr_sw a b t f (a + t) = f (a + t) := by rw [sr_sw_at, if_neg (by omega)]
  rw [e1, e2, sr_upd_at, sr_upd_at, sr_sw_at, sr_sw_at]
  by_cases h1 : x = b - 1 - t
  · rw [if_pos h1, if_pos (by omega)]
    exact congrArg f (by omega)
  · rw [if_neg h1]
    by_cases h2 : x = a + t
    · rw [if_pos h2, if_pos (by omega)]
      exact congrArg f (by omega)
    · rw [if_neg h2]
      by_cases h3 : (a ≤ x ∧ x < a + t) ∨ (b ≤ x + t ∧ x < b)
      · rw [if_pos h3, if_pos (by omega)]
      · rw [if_neg h3, if_neg (by omega)]
theorem sr_swE {a b : Nat} (f : Nat → Int32) (h : a ≤ b) : sr_sw a b ((b - a) / 2) f = sr_rev a b f := by
  funext x
  rw [sr_sw_at, sr_rev_at]
  by_cases h1 : (a ≤ x ∧ x < a + (b - a) / 2) ∨ (b ≤ x + (b - a) / 2 ∧ x < b)
  · rw [if_pos h1, if_pos (by omega)]
  · rw [if_neg h1]
    by_cases h2 : a ≤ x ∧ x < b
    · rw [if_pos h2]
      exact congrArg f (by omega)
    · rw [if_neg h2]
/-- the spare row of the reference's reverse, t numbers written -/
def sr_rs (a b t : Nat) (f s : Nat → Int32) : Nat → Int32 := fun x => if b ≤ x + t ∧ x < b then f (a + b - 1 - x) else s x
theorem sr_rs_at (a b t : Nat) (f s : Nat → Int32) (x : Nat) : sr_rs a b t f s x = if b ≤ x + t ∧ x < b then f (a + b - 1 - x) else s x := rfl
theorem sr_rs0 (a b : Nat) (f s : Nat → Int32) : sr_rs a b 0 f s = s := by
  funext x
  rw [sr_rs_at, if_neg (by omega)]
theorem sr_rsS {a b t : Nat} (f s : Nat → Int32) (h : a + t < b) : upd (sr_rs a b t f s) (b - 1 - t) (f (a + t)) = sr_rs a b (t + 1) f s := by
  funext x
  rw [sr_upd_at, sr_rs_at, sr_rs_at]
  by_cases h1 : x = b - 1 - t
  · rw [if_pos h1, if_pos (by omega)]
    exact congrArg f (by omega)
  · rw [if_neg h1]
    by_cases h3 : b ≤ x + t ∧ x < b
    · rw [if_pos h3, if_pos (by omega)]
    · rw [if_neg h3, if_neg (by omega)]
/-- t numbers copied back from s -/
def sr_bk (s : Nat → Int32) (a t : Nat) (f : Nat → Int32) : Nat → Int32 := fun x => if a ≤ x ∧ x < a + t then s x else f x
theorem sr_bk_at (s : Nat → Int32) (a t : Nat) (f : Nat → Int32) (x : Nat) : sr_bk s a t f x = if a ≤ x ∧ x < a + t then s x else f x := rfl
theorem sr_bk0 (s : Nat → Int32) (a : Nat) (f : Nat → Int32) : sr_bk s a 0 f = f := by
  funext x
  rw [sr_bk_at, if_neg (by omega)]
theorem sr_bkS (s : Nat → Int32) (a t : Nat) (f : Nat → Int32) : upd (sr_bk s a t f) (a + t) (s (a + t)) = sr_bk s a (t + 1) f := by
  funext x
  rw [sr_upd_at, sr_bk_at, sr_bk_at]
  by_cases h1 : x = a + t
  · rw [if_pos h1, if_pos (by omega), h1]
  · rw [if_neg h1]
    by_cases h3 : a ≤ x ∧ x < a + t
    · rw [if_pos h3, if_pos (by omega)]
    · rw [if_neg h3, if_neg (by omega)]
theorem sr_revE {a b : Nat} (f s : Nat → Int32) (h : a ≤ b) : sr_bk (sr_rs a b (b - a) f s) a (b - a) f = sr_rev a b f := by
  funext x
  rw [sr_bk_at, sr_rev_at]
  by_cases h2 : a ≤ x ∧ x < b
  · rw [if_pos (by omega), if_pos h2, sr_rs_at, if_pos (by omega)]
  · rw [if_neg (by omega), if_neg h2]

/-- where the number comes from that a rotation by k lays at x -/
def sr_src (a b k x : Nat) : Nat := if x + k < b then x + k else x + k - (b - a)
theorem sr_src_at (a b k x : Nat) : sr_src a b k x = if x + k < b then x + k else x + k - (b - a) := rfl
def sr_rot (a b k : Nat) (f : Nat → Int32) : Nat → Int32 := fun x => if a ≤ x ∧ x < b then f (sr_src a b k x) else f x
theorem sr_rot_at (a b k : Nat) (f : Nat → Int32) (x : Nat) : sr_rot a b k f x = if a ≤ x ∧ x < b then f (sr_src a b k x) else f x := rfl
/-- the spare row of the reference's rotate, t numbers written -/
def sr_ts (a b k t : Nat) (f s : Nat → Int32) : Nat → Int32 := fun x => if (a ≤ x ∧ x < b) ∧ sr_src a b k x < a + t then f (sr_src a b k x) else s x
theorem sr_ts_at (a b k t : Nat) (f s : Nat → Int32) (x : Nat) : sr_ts a b k t f s x = if (a ≤ x ∧ x < b) ∧ sr_src a b k x < a + t then f (sr_src a b k x) else s x := rfl
theorem sr_src_ge {a b k x : Nat} (h1 : a ≤ x) (h2 : x < b) : a ≤ sr_src a b k x := by
  rw [sr_src_at]
  by_cases h : x + k < b
  · rw [if_pos h]; omega
  · rw [if_neg h]; omega
theorem sr_ts0 (a b k : Nat) (f s : Nat → Int32) : sr_ts a b k 0 f s = s := by
  funext x
  rw [sr_ts_at, if_neg]
  intro h
  have := sr_src_ge (k := k) h.1.1 h.1.2
  omega
/-- where the reference lays the number at a + t -/
def sr_to (a b k t : Nat) : Nat := if t < k then t + b - k else a + t - k
theorem sr_to_in {a b k t : Nat} (hk : a + k ≤ b) (h : a + t < b) : a ≤ sr_to a b k t ∧ sr_to a b k t < b := by
  unfold sr_to
  by_cases h1 : t < k
  · rw [if_pos h1]; omega
  · rw [if_neg h1]; omega
theorem sr_src_to {a b k t : Nat} (hk : a + k ≤ b) (h : a + t < b) : sr_src a b k (sr_to a b k t) = a + t := by
  unfold sr_to sr_src
  by_cases h1 : t < k
  · rw [if_pos h1]
    rw [if_neg (by omega)]; omega
  · rw [if_neg h1]
    rw [if_pos (by omega)]; omega
theorem sr_to_src {a b k t x : Nat} (hk : a + k ≤ b) (h : a + t < b) (h1 : a ≤ x) (h2 : x < b) (e : sr_src a b k x = a + t) : x = sr_to a b k t := by
  rw [sr_src_at] at e
  unfold sr_to
  by_cases h3 : x + k < b
  · rw [if_pos h3] at e
    rw [if_neg (by omega)]; omega
  · rw [if_neg h3] at e
    rw [if_pos (by omega)]; omega
theorem sr_tsS {a b k t : Nat} (f s : Nat → Int32) (hk : a + k ≤ b) (h : a + t < b) : upd (sr_ts a b k t f s) (sr_to a b k t) (f (a + t)) = sr_ts a b k (t + 1) f s := by
  funext x
  rw [sr_upd_at, sr_ts_at, sr_ts_at]
  by_cases h1 : x = sr_to a b k t
  · have hin := sr_to_in hk h
    have hs := sr_src_to hk h
    rw [if_pos h1, h1, hs, if_pos ⟨hin, by omega⟩]
  · rw [if_neg h1]
    by_cases h2 : a ≤ x ∧ x < b
    · have hne : sr_src a b k x ≠ a + t := fun e => h1 (sr_to_src hk h h2.1 h2.2 e)
      by_cases h3 : sr_src a b k x < a + t
      · rw [if_pos ⟨h2, h3⟩, if_pos ⟨h2, by omega⟩]
      · rw [if_neg (fun z => h3 z.2), if_neg (fun z => h3 (by have := z.2; omega))]
    · rw [if_neg (fun z => h2 z.1), if_neg (fun z => h2 z.1)]
theorem sr_src_lt {a b k x : Nat} (hk : a + k ≤ b) (h1 : a ≤ x) (h2 : x < b) : sr_src a b k x < b := by
  rw [sr_src_at]
  by_cases h : x + k < b
  · rw [if_pos h]; exact h
  · rw [if_neg h]; omega
theorem sr_rotE {a b k : Nat} (f s : Nat → Int32) (hk : a + k ≤ b) : sr_bk (sr_ts a b k (b - a) f s) a (b - a) f = sr_rot a b k f := by
  funext x
  rw [sr_bk_at, sr_rot_at]
  by_cases h2 : a ≤ x ∧ x < b
  · have := sr_src_lt hk h2.1 h2.2
    rw [if_pos (by omega), if_pos h2, sr_ts_at, if_pos ⟨h2, by omega⟩]
  · rw [if_neg (by omega), if_neg h2]
theorem sr_rev3 {a b k : Nat} (f : Nat → Int32) (hk : a + k ≤ b) : sr_rev a b (sr_rev (a + k) b (sr_rev a (a + k) f)) = sr_rot a b k f := by
  funext x
  rw [sr_rev_at a b, sr_rot_at]
  by_cases h : a ≤ x ∧ x < b
  · rw [if_pos h, if_pos h, sr_rev_at (a + k) b, sr_src_at]
    by_cases h1 : x + k < b
    · rw [if_pos (by omega), if_pos h1, sr_rev_at, if_neg (by omega)]
      exact congrArg f (by omega)
    · rw [if_neg (by omega), if_neg h1, sr_rev_at, if_pos (by omega)]
      exact congrArg f (by omega)
  · rw [if_neg h, if_neg h, sr_rev_at, if_neg (by omega), sr_rev_at, if_neg (by omega)]
