/-! the loops of the reference, each against its pure function -/
theorem sr_ylim_t {post : Int32 → Prop} {u : SY} {x : Int32} (hx : sr_num x) (h : post 1) : wpY_isNumber post u x := br_f (Int32.not_lt.mpr hx.1) (br_f (Int32.not_lt.mpr hx.2) h)
theorem sr_ylim_f {post : Int32 → Prop} {u : SY} {x : Int32} (hx : ¬ sr_num x) (h : post 0) : wpY_isNumber post u x := br_c (fun _ => h) (fun z => br_c (fun _ => h) (fun y => absurd ⟨Int32.not_lt.mp z, Int32.not_lt.mp y⟩ hx))
theorem sr_yst_t {n : Nat} {C i j : Int32} {f g s : Nat → Int32} {post : Int32 → Prop} (hx : sr_st n i j) (h : post 1) : wpY_isStretch post (nI n, C, f, g, s) i j := br_f (Int32.not_lt.mpr hx.1) (br_f (Int32.not_lt.mpr hx.2.1) (br_f (Int32.not_lt.mpr hx.2.2) h))
theorem sr_yst_f {n : Nat} {C i j : Int32} {f g s : Nat → Int32} {post : Int32 → Prop} (hx : ¬ sr_st n i j) (h : post 0) : wpY_isStretch post (nI n, C, f, g, s) i j := br_c (fun _ => h) (fun z => br_c (fun _ => h) (fun y => br_c (fun _ => h) (fun w => absurd ⟨Int32.not_lt.mp z, Int32.not_lt.mp y, Int32.not_lt.mp w⟩ hx)))
theorem sr_yopn {n a k : Nat} {C : Int32} {g s : Nat → Int32} {post : SY → Prop} (hk : n + k ≤ 48) : ∀ (d N : Nat) (f : Nat → Int32), a + d ≤ n → d < N → post (nI (n + k), C, sr_opn a k d f, g, s) → wY_open_7 post (nI a) (nI k) (nI n) C N (nI (a + d) - 1) f g s := by
  intro d
  induction d with
  | zero =>
    intro N f hd hN h
    obtain ⟨N, rfl⟩ : ∃ M, N = M + 1 := ⟨N - 1, by omega⟩
    exact br_t (sr_back (by omega)) (nm_r (nI_add n k) h)
  | succ d ih =>
    intro N f hd hN h
    obtain ⟨N, rfl⟩ : ∃ M, N = M + 1 := ⟨N - 1, by omega⟩
    have e : nI (a + (d + 1)) - 1 = nI (a + d) := nI_pred (a + d)
    rw [e]
    refine br_f (nI_nlt (by omega) (by omega)) ⟨vp_in_nI (by omega) (by omega), ?_, ?_⟩
    · rw [nI_add]
      exact vp_in_nI (by omega) (by omega)
    · refine nm_r (e' := upd f (a + d + k) (f (a + d))) ?_ ?_
      · rw [nI_add, nI_clamp (by omega), nI_clamp (by omega)]
      · refine nm_r (sr_m1 (nI (a + d))) ?_
        exact ih N _ (by omega) (by omega) h
theorem sr_yOpen {n a k : Nat} {C : Int32} {f g s : Nat → Int32} {post : SY → Prop} (hk : n + k ≤ 48) (ha : a ≤ n) (h : post (nI (n + k), C, sr_opn a k (n - a) f, g, s)) : wpY_open post (nI n, C, f, g, s) (nI a) (nI k) := by
  have e : a + (n - a) = n := by omega
  have z := sr_yopn (C := C) (g := g) (s := s) hk (n - a) (n - a + 1) f (by omega) (by omega) h
  rw [e] at z
  exact nm_e ⟨_, z⟩
theorem sr_yrun {a k : Nat} {v d R C : Int32} {g s : Nat → Int32} {post : Int32 → SY → Prop} (hk : a + k ≤ 48) : ∀ (m t N : Nat) (f : Nat → Int32), t + m = k → m < N → post R (R, C, sr_run a v d m t f, g, s) → wY_insertRun_90 post (nI a) (nI k) v d R C N (nI t) f g s := by
  intro m
  induction m with
  | zero =>
    intro t N f ht hN h
    obtain ⟨N, rfl⟩ : ∃ M, N = M + 1 := ⟨N - 1, by omega⟩
    exact br_t (nI_le (by omega) (by omega)) h
  | succ m ih =>
    intro t N f ht hN h
    obtain ⟨N, rfl⟩ : ∃ M, N = M + 1 := ⟨N - 1, by omega⟩
    refine br_f (nI_ge (by omega) (by omega)) ⟨?_, ?_⟩
    · rw [nI_add]
      exact vp_in_nI (by omega) (by omega)
    · refine nm_r (e' := upd f (a + t) (v + nI t * d)) ?_ ?_
      · rw [nI_add, nI_clamp (by omega)]
      · refine nm_r (nI_1 t) ?_
        exact ih (t + 1) N _ (by omega) (by omega) h
theorem sr_ypst {a c : Nat} {R : Int32} {g s : Nat → Int32} {post : Int32 → SY → Prop} (hk : a + c ≤ 48) : ∀ (m t N : Nat) (f : Nat → Int32), t + m = c → m < N → post R (R, 0, sr_pst a g m t f, g, s) → wY_paste_25 post (nI a) R (nI c) N (nI t) f g s := by
  intro m
  induction m with
  | zero =>
    intro t N f ht hN h
    obtain ⟨N, rfl⟩ : ∃ M, N = M + 1 := ⟨N - 1, by omega⟩
    exact br_t (nI_le (by omega) (by omega)) h
  | succ m ih =>
    intro t N f ht hN h
    obtain ⟨N, rfl⟩ : ∃ M, N = M + 1 := ⟨N - 1, by omega⟩
    refine br_f (nI_ge (by omega) (by omega)) ⟨vp_in_nI (by omega) (by omega), ?_, ?_⟩
    · rw [nI_add]
      exact vp_in_nI (by omega) (by omega)
    · refine nm_r (e' := upd f (a + t) (g t)) ?_ ?_
      · rw [nI_add, nI_clamp (by omega), nI_clamp (by omega)]
      · refine nm_r (nI_1 t) ?_
        exact ih (t + 1) N _ (by omega) (by omega) h
theorem sr_yrai {a b : Nat} {d R C : Int32} {g s : Nat → Int32} {post : Int32 → SY → Prop} (hb : b ≤ 48) : ∀ (m p N : Nat) (f : Nat → Int32), p + m = b → m < N → post (nI b - nI a) (R, C, sr_map (fun x => x + d) m p f, g, s) → wY_raise_55 post (nI a) (nI b) d R C N (nI p) f g s := by
  intro m
  induction m with
  | zero =>
    intro p N f hp hN h
    obtain ⟨N, rfl⟩ : ∃ M, N = M + 1 := ⟨N - 1, by omega⟩
    exact br_t (nI_le (by omega) (by omega)) h
  | succ m ih =>
    intro p N f hp hN h
    obtain ⟨N, rfl⟩ : ∃ M, N = M + 1 := ⟨N - 1, by omega⟩
    refine br_f (nI_ge (by omega) (by omega)) ⟨vp_in_nI (by omega) (by omega), vp_in_nI (by omega) (by omega), ?_⟩
    refine nm_r (e' := upd f p (f p + d)) ?_ ?_
    · rw [nI_clamp (by omega)]
    · refine nm_r (nI_1 p) ?_
      exact ih (p + 1) N _ (by omega) (by omega) h
theorem sr_yneg {a b : Nat} {R C : Int32} {g s : Nat → Int32} {post : Int32 → SY → Prop} (hb : b ≤ 48) : ∀ (m p N : Nat) (f : Nat → Int32), p + m = b → m < N → post (nI b - nI a) (R, C, sr_map (fun x => -x) m p f, g, s) → wY_negate_13 post (nI a) (nI b) R C N (nI p) f g s := by
  intro m
  induction m with
  | zero =>
    intro p N f hp hN h
    obtain ⟨N, rfl⟩ : ∃ M, N = M + 1 := ⟨N - 1, by omega⟩
    exact br_t (nI_le (by omega) (by omega)) h
  | succ m ih =>
    intro p N f hp hN h
    obtain ⟨N, rfl⟩ : ∃ M, N = M + 1 := ⟨N - 1, by omega⟩
    refine br_f (nI_ge (by omega) (by omega)) ⟨vp_in_nI (by omega) (by omega), vp_in_nI (by omega) (by omega), ?_⟩
    refine nm_r (e' := upd f p (-(f p))) ?_ ?_
    · rw [nI_clamp (by omega)]
    · refine nm_r (nI_1 p) ?_
      exact ih (p + 1) N _ (by omega) (by omega) h
theorem sr_ysum {b : Nat} {R C : Int32} {f g s : Nat → Int32} {post : Int32 → Prop} (hb : b ≤ 48) : ∀ (m p N : Nat) (y : Int32), p + m = b → m < N → post (sr_sum f m p y) → wY_sum_14 post (nI b) R C f g s N y (nI p) := by
  intro m
  induction m with
  | zero =>
    intro p N y hp hN h
    obtain ⟨N, rfl⟩ : ∃ M, N = M + 1 := ⟨N - 1, by omega⟩
    exact br_t (nI_le (by omega) (by omega)) h
  | succ m ih =>
    intro p N y hp hN h
    obtain ⟨N, rfl⟩ : ∃ M, N = M + 1 := ⟨N - 1, by omega⟩
    refine br_f (nI_ge (by omega) (by omega)) ⟨vp_in_nI (by omega) (by omega), ?_⟩
    refine nm_r (e' := y + f p) ?_ ?_
    · rw [nI_clamp (by omega)]
    · refine nm_r (nI_1 p) ?_
      exact ih (p + 1) N _ (by omega) (by omega) h
theorem sr_ywgt {a b : Nat} {R C : Int32} {f g s : Nat → Int32} {post : Int32 → Prop} (hb : b ≤ 48) : ∀ (m p N : Nat) (y : Int32), a ≤ p → p + m = b → m < N → post (sr_wgt a f m p y) → wY_weighted_14 post (nI a) (nI b) R C f g s N y (nI p) := by
  intro m
  induction m with
  | zero =>
    intro p N y ha hp hN h
    obtain ⟨N, rfl⟩ : ∃ M, N = M + 1 := ⟨N - 1, by omega⟩
    exact br_t (nI_le (by omega) (by omega)) h
  | succ m ih =>
    intro p N y ha hp hN h
    obtain ⟨N, rfl⟩ : ∃ M, N = M + 1 := ⟨N - 1, by omega⟩
    refine br_f (nI_ge (by omega) (by omega)) ⟨vp_in_nI (by omega) (by omega), ?_⟩
    refine nm_r (e' := y + nI (p - a + 1) * f p) ?_ ?_
    · rw [nI_clamp (by omega), sr_e4 ha]
    · refine nm_r (nI_1 p) ?_
      exact ih (p + 1) N _ (by omega) (by omega) (by omega) h
theorem sr_ygr {b : Nat} {R C : Int32} {f g s : Nat → Int32} {post : Int32 → Prop} (hb : b ≤ 48) : ∀ (m p q N : Nat), p + m = b → q < b → m < N → post (nI (sr_gr f m p q)) → wY_greatestAt_17 post (nI b) R C f g s N (nI q) (nI p) := by
  intro m
  induction m with
  | zero =>
    intro p q N hp hq hN h
    obtain ⟨N, rfl⟩ : ∃ M, N = M + 1 := ⟨N - 1, by omega⟩
    exact br_t (nI_le (by omega) (by omega)) h
  | succ m ih =>
    intro p q N hp hq hN h
    obtain ⟨N, rfl⟩ : ∃ M, N = M + 1 := ⟨N - 1, by omega⟩
    have h' : post (nI (sr_gr f m (p + 1) (if f q < f p then p else q))) := h
    refine br_f (nI_ge (by omega) (by omega)) ?_
    refine br_f (sr_n4 (by omega)) ?_
    refine ⟨vp_in_nI (by omega) (by omega), vp_in_nI (by omega) (by omega), ?_⟩
    rw [nI_clamp (n := p) (by omega), nI_clamp (n := q) (by omega)]
    by_cases z : f p ≤ f q
    · rw [if_neg (Int32.not_lt.mpr z)] at h'
      refine br_t z (nm_r (nI_1 p) ?_)
      exact ih (p + 1) q N (by omega) (by omega) (by omega) h'
    · rw [if_pos (Int32.not_le.mp z)] at h'
      refine br_f z (nm_r (nI_1 p) ?_)
      exact ih (p + 1) p N (by omega) (by omega) (by omega) h'

theorem sr_ytak {a b : Nat} {R C : Int32} {f s : Nat → Int32} {post : SY → Prop} (hb : b ≤ 48) : ∀ (m p N : Nat) (g : Nat → Int32), p + m = b → a ≤ p → m < N → post (R, C, f, sr_tak a f m p g, s) → wY_take_9 post (nI a) (nI b) R C N (nI p) f g s := by
  intro m
  induction m with
  | zero =>
    intro p N g hp ha hN h
    obtain ⟨N, rfl⟩ : ∃ M, N = M + 1 := ⟨N - 1, by omega⟩
    exact br_t (nI_le (by omega) (by omega)) h
  | succ m ih =>
    intro p N g hp ha hN h
    obtain ⟨N, rfl⟩ : ∃ M, N = M + 1 := ⟨N - 1, by omega⟩
    refine br_f (nI_ge (by omega) (by omega)) ⟨vp_in_nI (by omega) (by omega), ?_, ?_⟩
    · rw [pk_sub ha]
      exact vp_in_nI (by omega) (by omega)
    · refine nm_r (e' := upd g (p - a) (f p)) ?_ ?_
      · rw [pk_sub ha, nI_clamp (by omega), nI_clamp (by omega)]
      · refine nm_r (nI_1 p) ?_
        exact ih (p + 1) N _ (by omega) (by omega) (by omega) h
theorem sr_yTake {a b : Nat} {R C : Int32} {f g s : Nat → Int32} {post : SY → Prop} (hab : a ≤ b) (hb : b ≤ 48) (h : post (R, nI (b - a), f, sr_tak a f (b - a) a g, s)) : wpY_take post (R, C, f, g, s) (nI a) (nI b) := nm_r (pk_sub hab) ⟨b - a + 1, sr_ytak hb (b - a) a _ g (by omega) (by omega) (by omega) h⟩
theorem sr_ycls {n a b : Nat} {g s : Nat → Int32} {post : Int32 → SY → Prop} (hab : a ≤ b) (hb : b ≤ n) (hn : n ≤ 48) : ∀ (m p N : Nat) (f : Nat → Int32), p + m = n → b ≤ p → m < N → post (nI (b - a)) (nI (n - (b - a)), nI (b - a), sr_cls a b m p f, g, s) → wY_cut_19 post (nI n) (nI (b - a)) N (nI p) f g s := by
  intro m
  induction m with
  | zero =>
    intro p N f hp hbp hN h
    obtain ⟨N, rfl⟩ : ∃ M, N = M + 1 := ⟨N - 1, by omega⟩
    exact br_t (nI_le (by omega) (by omega)) (nm_r (pk_sub (by omega)) h)
  | succ m ih =>
    intro p N f hp hbp hN h
    obtain ⟨N, rfl⟩ : ∃ M, N = M + 1 := ⟨N - 1, by omega⟩
    have e : nI p - nI (b - a) = nI (p - (b - a)) := pk_sub (by omega)
    refine br_f (nI_ge (by omega) (by omega)) ⟨vp_in_nI (by omega) (by omega), ?_, ?_⟩
    · rw [e]
      exact vp_in_nI (by omega) (by omega)
    · refine nm_r (e' := upd f (p - (b - a)) (f p)) ?_ ?_
      · rw [e, nI_clamp (by omega), nI_clamp (by omega)]
      · refine nm_r (nI_1 p) ?_
        exact ih (p + 1) N _ (by omega) (by omega) (by omega) h
theorem sr_ybk44 {a b : Nat} {R C : Int32} {f g s : Nat → Int32} {post : Int32 → SY → Prop} (hab : a ≤ b) (hb : b ≤ 48) (h : post (nI b - nI a) (R, C, sr_bk s a (b - a) f, g, s)) : ∀ (m t N : Nat), t + m = b - a → m < N → wY_reverse_44 post (nI a) (nI b) R C N (nI (a + t)) (sr_bk s a t f) g s := by
  intro m
  induction m with
  | zero =>
    intro t N ht hN
    obtain ⟨N, rfl⟩ : ∃ M, N = M + 1 := ⟨N - 1, by omega⟩
    have et : t = b - a := by omega
    rw [et]
    exact br_t (nI_le (by omega) (by omega)) h
  | succ m ih =>
    intro t N ht hN
    obtain ⟨N, rfl⟩ : ∃ M, N = M + 1 := ⟨N - 1, by omega⟩
    refine br_f (nI_ge (by omega) (by omega)) ⟨vp_in_nI (by omega) (by omega), vp_in_nI (by omega) (by omega), ?_⟩
    rw [nI_clamp (n := a + t) (by omega)]
    exact nm_r (sr_bkS s a t f) (nm_r (nI_1 (a + t)) (ih (t + 1) N (by omega) (by omega)))
theorem sr_ybk79 {a b : Nat} {R C : Int32} {f g s : Nat → Int32} {post : Int32 → SY → Prop} (hab : a ≤ b) (hb : b ≤ 48) (h : post 0 (R, C, sr_bk s a (b - a) f, g, s)) : ∀ (m t N : Nat), t + m = b - a → m < N → wY_rotate_79 post (nI b) R C N (nI (a + t)) (sr_bk s a t f) g s := by
  intro m
  induction m with
  | zero =>
    intro t N ht hN
    obtain ⟨N, rfl⟩ : ∃ M, N = M + 1 := ⟨N - 1, by omega⟩
    have et : t = b - a := by omega
    rw [et]
    exact br_t (nI_le (by omega) (by omega)) h
  | succ m ih =>
    intro t N ht hN
    obtain ⟨N, rfl⟩ : ∃ M, N = M + 1 := ⟨N - 1, by omega⟩
    refine br_f (nI_ge (by omega) (by omega)) ⟨vp_in_nI (by omega) (by omega), vp_in_nI (by omega) (by omega), ?_⟩
    rw [nI_clamp (n := a + t) (by omega)]
    exact nm_r (sr_bkS s a t f) (nm_r (nI_1 (a + t)) (ih (t + 1) N (by omega) (by omega)))
theorem sr_yrs {a b : Nat} {R C : Int32} {f g s : Nat → Int32} {post : Int32 → SY → Prop} (hab : a ≤ b) (hb : b ≤ 48) (h : ∃ N, wY_reverse_44 post (nI a) (nI b) R C N (nI a) f g (sr_rs a b (b - a) f s)) : ∀ (m t N : Nat), t + m = b - a → m < N → wY_reverse_13 post (nI a) (nI b) R C N (nI (a + t)) f g (sr_rs a b t f s) := by
  intro m
  induction m with
  | zero =>
    intro t N ht hN
    obtain ⟨N, rfl⟩ : ∃ M, N = M + 1 := ⟨N - 1, by omega⟩
    have et : t = b - a := by omega
    rw [et]
    exact br_t (nI_le (by omega) (by omega)) h
  | succ m ih =>
    intro t N ht hN
    obtain ⟨N, rfl⟩ : ∃ M, N = M + 1 := ⟨N - 1, by omega⟩
    refine br_f (nI_ge (by omega) (by omega)) ⟨vp_in_nI (by omega) (by omega), ?_⟩
    rw [sr_e3 (show a + t < b by omega), nI_clamp (n := b - 1 - t) (by omega), nI_clamp (n := a + t) (by omega)]
    exact ⟨vp_in_nI (by omega) (by omega), nm_r (sr_rsS f s (by omega)) (nm_r (nI_1 (a + t)) (ih (t + 1) N (by omega) (by omega)))⟩
theorem sr_yts {a b k : Nat} {R C : Int32} {f g s : Nat → Int32} {post : Int32 → SY → Prop} (hk : a + k ≤ b) (hb : b ≤ 48) (h : ∃ N, wY_rotate_79 post (nI b) R C N (nI a) f g (sr_ts a b k (b - a) f s)) : ∀ (m t N : Nat), t + m = b - a → m < N → wY_rotate_25 post (nI a) (nI b) (nI k) R C N (nI (a + t)) f g (sr_ts a b k t f s) := by
  intro m
  induction m with
  | zero =>
    intro t N ht hN
    obtain ⟨N, rfl⟩ : ∃ M, N = M + 1 := ⟨N - 1, by omega⟩
    have et : t = b - a := by omega
    rw [et]
    exact br_t (nI_le (by omega) (by omega)) h
  | succ m ih =>
    intro t N ht hN
    obtain ⟨N, rfl⟩ : ∃ M, N = M + 1 := ⟨N - 1, by omega⟩
    have hin := sr_to_in hk (show a + t < b by omega)
    have hst := sr_tsS f s hk (show a + t < b by omega)
    have hto : sr_to a b k t = if t < k then t + b - k else a + t - k := rfl
    refine br_f (nI_ge (by omega) (by omega)) ?_
    by_cases z : t < k
    · rw [if_pos z] at hto
      rw [hto] at hst hin
      refine br_f (Int32.not_le.mpr ((sr_lt_k (by omega) (by omega)).mpr z)) ?_
      rw [sr_e6 hk]
      refine ⟨vp_in_nI (by omega) (by omega), vp_in_nI (by omega) (by omega), nm_r ?_ (nm_r (nI_1 (a + t)) (ih (t + 1) N (by omega) (by omega)))⟩
      rw [nI_clamp (n := t + b - k) (by omega), nI_clamp (n := a + t) (by omega)]
      exact hst
    · rw [if_neg z] at hto
      rw [hto] at hst hin
      have e : nI (a + t) - nI k = nI (a + t - k) := pk_sub (by omega)
      rw [e]
      refine br_t (nI_le (by omega) (by omega)) ?_
      refine ⟨vp_in_nI (by omega) (by omega), vp_in_nI (by omega) (by omega), nm_r ?_ (nm_r (nI_1 (a + t)) (ih (t + 1) N (by omega) (by omega)))⟩
      rw [nI_clamp (n := a + t - k) (by omega), nI_clamp (n := a + t) (by omega)]
      exact hst
theorem sr_ycan {a b : Nat} {d R C : Int32} {f g s : Nat → Int32} {post : Int32 → SY → Prop} (hb : b ≤ 48) : ∀ (m p N : Nat), p + m = b → m < N → (sr_can d f m p → ∃ M, wY_raise_55 post (nI a) (nI b) d R C M (nI a) f g s) → (¬ sr_can d f m p → post (-1) (R, C, f, g, s)) → wY_raise_22 post (nI a) (nI b) d R C f g s N (nI p) := by
  intro m
  induction m with
  | zero =>
    intro p N hp hN h1 h0
    obtain ⟨N, rfl⟩ : ∃ M, N = M + 1 := ⟨N - 1, by omega⟩
    exact br_t (nI_le (by omega) (by omega)) (h1 trivial)
  | succ m ih =>
    intro p N hp hN h1 h0
    obtain ⟨N, rfl⟩ : ∃ M, N = M + 1 := ⟨N - 1, by omega⟩
    refine br_f (nI_ge (by omega) (by omega)) ⟨vp_in_nI (by omega) (by omega), ?_⟩
    rw [nI_clamp (n := p) (by omega)]
    by_cases hn : sr_num (f p + d)
    · refine sr_ylim_t hn (br_f (by decide) (nm_r (nI_1 p) ?_))
      exact ih (p + 1) N (by omega) (by omega) (fun z => h1 ⟨hn, z⟩) (fun z => h0 (fun y => z y.2))
    · exact sr_ylim_f hn (br_t rfl (h0 (fun y => hn y.1)))
