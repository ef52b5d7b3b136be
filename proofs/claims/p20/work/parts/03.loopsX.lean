/-! the loops of the class, each against its pure function -/
theorem sr_xlim_t {post : Int32 → Prop} {x : Int32} (hx : sr_num x) (h : post 1) : wpX_isWithinLimit post x := br_f (Int32.not_lt.mpr hx.1) (br_f (Int32.not_lt.mpr hx.2) h)
theorem sr_xlim_f {post : Int32 → Prop} {x : Int32} (hx : ¬ sr_num x) (h : post 0) : wpX_isWithinLimit post x := br_c (fun _ => h) (fun z => br_c (fun _ => h) (fun y => absurd ⟨Int32.not_lt.mp z, Int32.not_lt.mp y⟩ hx))
theorem sr_xst_t {n : Nat} {C i j : Int32} {f g : Nat → Int32} {post : Int32 → Prop} (hx : sr_st n i j) (h : post 1) : wpX_isStretch post (nI n, C, f, g) i j := br_f (Int32.not_lt.mpr hx.1) (br_f (Int32.not_lt.mpr hx.2.1) (br_f (Int32.not_lt.mpr hx.2.2) h))
theorem sr_xst_f {n : Nat} {C i j : Int32} {f g : Nat → Int32} {post : Int32 → Prop} (hx : ¬ sr_st n i j) (h : post 0) : wpX_isStretch post (nI n, C, f, g) i j := br_c (fun _ => h) (fun z => br_c (fun _ => h) (fun y => br_c (fun _ => h) (fun w => absurd ⟨Int32.not_lt.mp z, Int32.not_lt.mp y, Int32.not_lt.mp w⟩ hx)))
theorem sr_xopn {n a k : Nat} {C : Int32} {g : Nat → Int32} {post : SX → Prop} (hk : n + k ≤ 48) : ∀ (d N : Nat) (f : Nat → Int32), a + d ≤ n → d < N → post (nI (n + k), C, sr_opn a k d f, g) → wX_openGap_7 post (nI a) (nI k) (nI n) C N (nI (a + d) - 1) f g := by
  intro d
  induction d with
  | zero =>
    intro N f hd hN h
    obtain ⟨N, rfl⟩ : ∃ M, N = M + 1 := ⟨N - 1, by omega⟩
    exact br_t (sr_back (by omega)) (nm_r (nI_add n k) h)
  | succ d ih =>
    intro N f hd hN h
    obtain ⟨N, rfl⟩ : ∃ M, N = M + 1 := ⟨N - 1, by omega⟩
    have e : nI (a + (d + 1)) - 1 = nI (a + d) := nI_pred (a + d)
    rw [e]
    refine br_f (nI_nlt (by omega) (by omega)) ⟨vp_in_nI (by omega) (by omega), ?_, ?_⟩
    · rw [nI_add]
      exact vp_in_nI (by omega) (by omega)
    · refine nm_r (e' := upd f (a + d + k) (f (a + d))) ?_ ?_
      · rw [nI_add, nI_clamp (by omega), nI_clamp (by omega)]
      · refine nm_r (sr_m1 (nI (a + d))) ?_
        exact ih N _ (by omega) (by omega) h
theorem sr_xOpen {n a k : Nat} {C : Int32} {f g : Nat → Int32} {post : SX → Prop} (hk : n + k ≤ 48) (ha : a ≤ n) (h : post (nI (n + k), C, sr_opn a k (n - a) f, g)) : wpX_openGap post (nI n, C, f, g) (nI a) (nI k) := by
  have e : a + (n - a) = n := by omega
  have z := sr_xopn (C := C) (g := g) hk (n - a) (n - a + 1) f (by omega) (by omega) h
  rw [e] at z
  exact nm_e ⟨_, z⟩
theorem sr_xrun {a k : Nat} {v d R C : Int32} {g : Nat → Int32} {post : Int32 → SX → Prop} (hk : a + k ≤ 48) : ∀ (m t N : Nat) (f : Nat → Int32), t + m = k → m < N → post R (R, C, sr_run a v d m t f, g) → wX_insertRun_40 post (nI a) (nI k) v d R C N (nI t) f g := by
  intro m
  induction m with
  | zero =>
    intro t N f ht hN h
    obtain ⟨N, rfl⟩ : ∃ M, N = M + 1 := ⟨N - 1, by omega⟩
    exact br_t (nI_le (by omega) (by omega)) h
  | succ m ih =>
    intro t N f ht hN h
    obtain ⟨N, rfl⟩ : ∃ M, N = M + 1 := ⟨N - 1, by omega⟩
    refine br_f (nI_ge (by omega) (by omega)) ⟨?_, ?_⟩
    · rw [nI_add]
      exact vp_in_nI (by omega) (by omega)
    · refine nm_r (e' := upd f (a + t) (v + nI t * d)) ?_ ?_
      · rw [nI_add, nI_clamp (by omega)]
      · refine nm_r (nI_1 t) ?_
        exact ih (t + 1) N _ (by omega) (by omega) h
theorem sr_xpst {a c : Nat} {R : Int32} {g : Nat → Int32} {post : Int32 → SX → Prop} (hk : a + c ≤ 48) : ∀ (m t N : Nat) (f : Nat → Int32), t + m = c → m < N → post R (R, 0, sr_pst a g m t f, g) → wX_paste_21 post (nI a) R (nI c) N (nI t) f g := by
  intro m
  induction m with
  | zero =>
    intro t N f ht hN h
    obtain ⟨N, rfl⟩ : ∃ M, N = M + 1 := ⟨N - 1, by omega⟩
    exact br_t (nI_le (by omega) (by omega)) h
  | succ m ih =>
    intro t N f ht hN h
    obtain ⟨N, rfl⟩ : ∃ M, N = M + 1 := ⟨N - 1, by omega⟩
    refine br_f (nI_ge (by omega) (by omega)) ⟨vp_in_nI (by omega) (by omega), ?_, ?_⟩
    · rw [nI_add]
      exact vp_in_nI (by omega) (by omega)
    · refine nm_r (e' := upd f (a + t) (g t)) ?_ ?_
      · rw [nI_add, nI_clamp (by omega), nI_clamp (by omega)]
      · refine nm_r (nI_1 t) ?_
        exact ih (t + 1) N _ (by omega) (by omega) h
theorem sr_xrai {a b : Nat} {d R C : Int32} {g : Nat → Int32} {post : Int32 → SX → Prop} (hb : b ≤ 48) : ∀ (m p N : Nat) (f : Nat → Int32), p + m = b → m < N → post (nI b - nI a) (R, C, sr_map (fun x => x + d) m p f, g) → wX_raise_31 post (nI a) (nI b) d R C N (nI p) f g := by
  intro m
  induction m with
  | zero =>
    intro p N f hp hN h
    obtain ⟨N, rfl⟩ : ∃ M, N = M + 1 := ⟨N - 1, by omega⟩
    exact br_t (nI_le (by omega) (by omega)) h
  | succ m ih =>
    intro p N f hp hN h
    obtain ⟨N, rfl⟩ : ∃ M, N = M + 1 := ⟨N - 1, by omega⟩
    refine br_f (nI_ge (by omega) (by omega)) ⟨vp_in_nI (by omega) (by omega), vp_in_nI (by omega) (by omega), ?_⟩
    refine nm_r (e' := upd f p (f p + d)) ?_ ?_
    · rw [nI_clamp (by omega)]
    · refine nm_r (nI_1 p) ?_
      exact ih (p + 1) N _ (by omega) (by omega) h
theorem sr_xneg {a b : Nat} {R C : Int32} {g : Nat → Int32} {post : Int32 → SX → Prop} (hb : b ≤ 48) : ∀ (m p N : Nat) (f : Nat → Int32), p + m = b → m < N → post (nI b - nI a) (R, C, sr_map (fun x => -x) m p f, g) → wX_negate_13 post (nI a) (nI b) R C N (nI p) f g := by
  intro m
  induction m with
  | zero =>
    intro p N f hp hN h
    obtain ⟨N, rfl⟩ : ∃ M, N = M + 1 := ⟨N - 1, by omega⟩
    exact br_t (nI_le (by omega) (by omega)) h
  | succ m ih =>
    intro p N f hp hN h
    obtain ⟨N, rfl⟩ : ∃ M, N = M + 1 := ⟨N - 1, by omega⟩
    refine br_f (nI_ge (by omega) (by omega)) ⟨vp_in_nI (by omega) (by omega), vp_in_nI (by omega) (by omega), ?_⟩
    refine nm_r (e' := upd f p (-(f p))) ?_ ?_
    · rw [nI_clamp (by omega)]
    · refine nm_r (nI_1 p) ?_
      exact ih (p + 1) N _ (by omega) (by omega) h
theorem sr_xsum {b : Nat} {R C : Int32} {f g : Nat → Int32} {post : Int32 → Prop} (hb : b ≤ 48) : ∀ (m p N : Nat) (y : Int32), p + m = b → m < N → post (sr_sum f m p y) → wX_sum_16 post (nI b) R C f g N y (nI p) := by
  intro m
  induction m with
  | zero =>
    intro p N y hp hN h
    obtain ⟨N, rfl⟩ : ∃ M, N = M + 1 := ⟨N - 1, by omega⟩
    exact br_t (nI_le (by omega) (by omega)) h
  | succ m ih =>
    intro p N y hp hN h
    obtain ⟨N, rfl⟩ : ∃ M, N = M + 1 := ⟨N - 1, by omega⟩
    refine br_f (nI_ge (by omega) (by omega)) ⟨vp_in_nI (by omega) (by omega), ?_⟩
    refine nm_r (e' := y + f p) ?_ ?_
    · rw [nI_clamp (by omega)]
    · refine nm_r (nI_1 p) ?_
      exact ih (p + 1) N _ (by omega) (by omega) h
theorem sr_xwgt {a b : Nat} {R C : Int32} {f g : Nat → Int32} {post : Int32 → Prop} (hb : b ≤ 48) : ∀ (m p N : Nat) (y : Int32), a ≤ p → p + m = b → m < N → post (sr_wgt a f m p y) → wX_weighted_16 post (nI a) (nI b) R C f g N y (nI p) := by
  intro m
  induction m with
  | zero =>
    intro p N y ha hp hN h
    obtain ⟨N, rfl⟩ : ∃ M, N = M + 1 := ⟨N - 1, by omega⟩
    exact br_t (nI_le (by omega) (by omega)) h
  | succ m ih =>
    intro p N y ha hp hN h
    obtain ⟨N, rfl⟩ : ∃ M, N = M + 1 := ⟨N - 1, by omega⟩
    refine br_f (nI_ge (by omega) (by omega)) ⟨vp_in_nI (by omega) (by omega), ?_⟩
    refine nm_r (e' := y + nI (p - a + 1) * f p) ?_ ?_
    · rw [nI_clamp (by omega), sr_e4 ha]
    · refine nm_r (nI_1 p) ?_
      exact ih (p + 1) N _ (by omega) (by omega) (by omega) h
theorem sr_xgr {b : Nat} {R C : Int32} {f g : Nat → Int32} {post : Int32 → Prop} (hb : b ≤ 48) : ∀ (m p q N : Nat), p + m = b → q < b → m < N → post (nI (sr_gr f m p q)) → wX_placeOfGreatest_7 post (nI b) R C f g N (nI q) (nI p) := by
  intro m
  induction m with
  | zero =>
    intro p q N hp hq hN h
    obtain ⟨N, rfl⟩ : ∃ M, N = M + 1 := ⟨N - 1, by omega⟩
    exact br_t (nI_le (by omega) (by omega)) h
  | succ m ih =>
    intro p q N hp hq hN h
    obtain ⟨N, rfl⟩ : ∃ M, N = M + 1 := ⟨N - 1, by omega⟩
    have h' : post (nI (sr_gr f m (p + 1) (if f q < f p then p else q))) := h
    refine br_f (nI_ge (by omega) (by omega)) ?_
    refine ⟨vp_in_nI (by omega) (by omega), vp_in_nI (by omega) (by omega), ?_⟩
    rw [nI_clamp (n := p) (by omega), nI_clamp (n := q) (by omega)]
    by_cases z : f p ≤ f q
    · rw [if_neg (Int32.not_lt.mpr z)] at h'
      refine br_t z (nm_r (nI_1 p) ?_)
      exact ih (p + 1) q N (by omega) (by omega) (by omega) h'
    · rw [if_pos (Int32.not_le.mp z)] at h'
      refine br_f z (nm_r (nI_1 p) ?_)
      exact ih (p + 1) p N (by omega) (by omega) (by omega) h'

theorem sr_xgap_t {n : Nat} {C i : Int32} {f g : Nat → Int32} {post : Int32 → Prop} (h0 : 0 ≤ i) (h1 : i ≤ nI n) (h : post 1) : wpX_isGap post (nI n, C, f, g) i := br_f (Int32.not_lt.mpr h0) (br_f (Int32.not_lt.mpr h1) h)
theorem sr_xgap_f {n : Nat} {C i : Int32} {f g : Nat → Int32} {post : Int32 → Prop} (hx : ¬ (0 ≤ i ∧ i ≤ nI n)) (h : post 0) : wpX_isGap post (nI n, C, f, g) i := br_c (fun _ => h) (fun z => br_c (fun _ => h) (fun y => absurd ⟨Int32.not_lt.mp z, Int32.not_lt.mp y⟩ hx))
theorem sr_xplc_t {n : Nat} {C i : Int32} {f g : Nat → Int32} {post : Int32 → Prop} (h0 : ¬ i < 0) (h1 : ¬ nI n ≤ i) (h : post 1) : wpX_isPlace post (nI n, C, f, g) i := br_f h0 (br_f h1 h)
theorem sr_xplc_f {n : Nat} {C i : Int32} {f g : Nat → Int32} {post : Int32 → Prop} (hx : ¬ (¬ i < 0 ∧ ¬ nI n ≤ i)) (h : post 0) : wpX_isPlace post (nI n, C, f, g) i := br_c (fun _ => h) (fun z => br_c (fun _ => h) (fun y => absurd ⟨z, y⟩ hx))
theorem sr_xtak {a b : Nat} {R C : Int32} {f : Nat → Int32} {post : SX → Prop} (hab : a ≤ b) (hb : b ≤ 48) : ∀ (m p N : Nat) (g : Nat → Int32), p + m = b → a ≤ p → m < N → post (R, nI (b - a), f, sr_tak a f m p g) → wX_fillClip_2 post (nI a) (nI b) R C N (nI p) f g := by
  intro m
  induction m with
  | zero =>
    intro p N g hp ha hN h
    obtain ⟨N, rfl⟩ : ∃ M, N = M + 1 := ⟨N - 1, by omega⟩
    exact br_t (nI_le (by omega) (by omega)) (nm_r (pk_sub hab) h)
  | succ m ih =>
    intro p N g hp ha hN h
    obtain ⟨N, rfl⟩ : ∃ M, N = M + 1 := ⟨N - 1, by omega⟩
    refine br_f (nI_ge (by omega) (by omega)) ⟨vp_in_nI (by omega) (by omega), ?_, ?_⟩
    · rw [pk_sub ha]
      exact vp_in_nI (by omega) (by omega)
    · refine nm_r (e' := upd g (p - a) (f p)) ?_ ?_
      · rw [pk_sub ha, nI_clamp (by omega), nI_clamp (by omega)]
      · refine nm_r (nI_1 p) ?_
        exact ih (p + 1) N _ (by omega) (by omega) (by omega) h
theorem sr_xFill {a b : Nat} {R C : Int32} {f g : Nat → Int32} {post : SX → Prop} (hab : a ≤ b) (hb : b ≤ 48) (h : post (R, nI (b - a), f, sr_tak a f (b - a) a g)) : wpX_fillClip post (R, C, f, g) (nI a) (nI b) := ⟨b - a + 1, sr_xtak hab hb (b - a) a _ g (by omega) (by omega) (by omega) h⟩
theorem sr_xcls {n a b : Nat} {C : Int32} {g : Nat → Int32} {post : SX → Prop} (hab : a ≤ b) (hb : b ≤ n) (hn : n ≤ 48) : ∀ (m p N : Nat) (f : Nat → Int32), p + m = n → b ≤ p → m < N → post (nI (n - (b - a)), C, sr_cls a b m p f, g) → wX_closeGap_2 post (nI a) (nI b) (nI n) C N (nI p) f g := by
  intro m
  induction m with
  | zero =>
    intro p N f hp hbp hN h
    obtain ⟨N, rfl⟩ : ∃ M, N = M + 1 := ⟨N - 1, by omega⟩
    refine br_t (nI_le (by omega) (by omega)) (nm_r ?_ h)
    rw [pk_sub hab, pk_sub (by omega)]
  | succ m ih =>
    intro p N f hp hbp hN h
    obtain ⟨N, rfl⟩ : ∃ M, N = M + 1 := ⟨N - 1, by omega⟩
    refine br_f (nI_ge (by omega) (by omega)) ⟨vp_in_nI (by omega) (by omega), ?_, ?_⟩
    · rw [sr_e2 hab hbp]
      exact vp_in_nI (by omega) (by omega)
    · refine nm_r (e' := upd f (p - (b - a)) (f p)) ?_ ?_
      · rw [sr_e2 hab hbp, nI_clamp (by omega), nI_clamp (by omega)]
      · refine nm_r (nI_1 p) ?_
        exact ih (p + 1) N _ (by omega) (by omega) (by omega) h
theorem sr_xClose {n a b : Nat} {C : Int32} {f g : Nat → Int32} {post : SX → Prop} (hab : a ≤ b) (hb : b ≤ n) (hn : n ≤ 48) (h : post (nI (n - (b - a)), C, sr_cls a b (n - b) b f, g)) : wpX_closeGap post (nI n, C, f, g) (nI a) (nI b) := ⟨n - b + 1, sr_xcls hab hb hn (n - b) b _ f (by omega) (by omega) (by omega) h⟩
theorem sr_xsw {a b : Nat} {R C : Int32} {f g : Nat → Int32} {post : SX → Prop} (hab : a ≤ b) (hb : b ≤ 48) (h : post (R, C, sr_rev a b f, g)) : ∀ (m t N : Nat), t + m = (b - a) / 2 → m < N → wX_turnRound_9 post (nI a) (nI b) (nI ((b - a) / 2)) R C N (nI t) (sr_sw a b t f) g := by
  intro m
  induction m with
  | zero =>
    intro t N ht hN
    obtain ⟨N, rfl⟩ : ∃ M, N = M + 1 := ⟨N - 1, by omega⟩
    have et : t = (b - a) / 2 := by omega
    have es : sr_sw a b t f = sr_rev a b f := by rw [et]; exact sr_swE f hab
    rw [es]
    exact br_t (nI_le (by omega) (by omega)) h
  | succ m ih =>
    intro t N ht hN
    obtain ⟨N, rfl⟩ : ∃ M, N = M + 1 := ⟨N - 1, by omega⟩
    have e1 : nI a + nI t = nI (a + t) := nI_add a t
    have e2 : nI b - 1 - nI t = nI (b - 1 - t) := sr_e1 (by omega)
    refine br_f (nI_ge (by omega) (by omega)) ?_
    rw [e1, e2, nI_clamp (n := a + t) (by omega), nI_clamp (n := b - 1 - t) (by omega)]
    refine ⟨vp_in_nI (by omega) (by omega), nm_e ⟨vp_in_nI (by omega) (by omega), vp_in_nI (by omega) (by omega), nm_e ⟨vp_in_nI (by omega) (by omega), nm_r (sr_swS f (by omega)) (nm_r (nI_1 t) ?_)⟩⟩⟩
    exact ih (t + 1) N (by omega) (by omega)
theorem sr_xTurn {a b : Nat} {R C : Int32} {f g : Nat → Int32} {post : SX → Prop} (hab : a ≤ b) (hb : b ≤ 48) (h : post (R, C, sr_rev a b f, g)) : wpX_turnRound post (R, C, f, g) (nI a) (nI b) := by
  have z := sr_xsw hab hb h ((b - a) / 2) 0 ((b - a) / 2 + 1) (by omega) (by omega)
  rw [sr_sw0] at z
  exact ⟨by decide, nm_r (sr_half hab hb) ⟨_, z⟩⟩
theorem sr_xcan {b : Nat} {d R C : Int32} {f g : Nat → Int32} {post : Int32 → Prop} (hb : b ≤ 48) : ∀ (m p N : Nat), p + m = b → m < N → (sr_can d f m p → post 1) → (¬ sr_can d f m p → post 0) → wX_canRaise_3 post (nI b) d R C f g N (nI p) := by
  intro m
  induction m with
  | zero =>
    intro p N hp hN h1 h0
    obtain ⟨N, rfl⟩ : ∃ M, N = M + 1 := ⟨N - 1, by omega⟩
    exact br_t (nI_le (by omega) (by omega)) (h1 trivial)
  | succ m ih =>
    intro p N hp hN h1 h0
    obtain ⟨N, rfl⟩ : ∃ M, N = M + 1 := ⟨N - 1, by omega⟩
    refine br_f (nI_ge (by omega) (by omega)) ⟨vp_in_nI (by omega) (by omega), ?_⟩
    rw [nI_clamp (n := p) (by omega)]
    by_cases hn : sr_num (f p + d)
    · refine sr_xlim_t hn (br_f (by decide) (nm_r (nI_1 p) ?_))
      exact ih (p + 1) N (by omega) (by omega) (fun z => h1 ⟨hn, z⟩) (fun z => h0 (fun y => z y.2))
    · exact sr_xlim_f hn (br_t rfl (h0 (fun y => hn y.1)))
