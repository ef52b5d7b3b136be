/-! the methods that only read: one answer, for every post -/
theorem sr_sum2 {n c : Nat} (hh : n + c ≤ 48) (f g s : Nat → Int32) (i j : Int32) : ∃ r : Int32, (∀ post : Int32 → Prop, post r → wpX_sum post (nI n, nI c, f, g) i j) ∧ (∀ post : Int32 → Prop, post r → wpY_sum post (nI n, nI c, f, g, s) i j) := by
  by_cases hs : sr_st n i j
  · obtain ⟨a, b, hab, hbn, rfl, rfl⟩ := sr_st_of (by omega) hs
    refine ⟨sr_sum f (b - a) a 0, fun post h => ?_, fun post h => ?_⟩
    · unfold wpX_sum
      dsimp only
      refine sr_xst_t hs (br_f (by decide) ?_)
      exact ⟨b - a + 1, sr_xsum (by omega) (b - a) a _ _ (by omega) (by omega) h⟩
    · unfold wpY_sum
      dsimp only
      refine sr_yst_t hs (br_f (by decide) ?_)
      exact ⟨b - a + 1, sr_ysum (by omega) (b - a) a _ _ (by omega) (by omega) h⟩
  · refine ⟨0, fun post h => ?_, fun post h => ?_⟩
    · unfold wpX_sum
      dsimp only
      exact sr_xst_f hs (br_t rfl h)
    · unfold wpY_sum
      dsimp only
      exact sr_yst_f hs (br_t rfl h)
theorem sr_weighted {n c : Nat} (hh : n + c ≤ 48) (f g s : Nat → Int32) (i j : Int32) : ∃ r : Int32, (∀ post : Int32 → Prop, post r → wpX_weighted post (nI n, nI c, f, g) i j) ∧ (∀ post : Int32 → Prop, post r → wpY_weighted post (nI n, nI c, f, g, s) i j) := by
  by_cases hs : sr_st n i j
  · obtain ⟨a, b, hab, hbn, rfl, rfl⟩ := sr_st_of (by omega) hs
    refine ⟨sr_wgt a f (b - a) a 0, fun post h => ?_, fun post h => ?_⟩
    · unfold wpX_weighted
      dsimp only
      refine sr_xst_t hs (br_f (by decide) ?_)
      exact ⟨b - a + 1, sr_xwgt (by omega) (b - a) a _ _ (by omega) (by omega) (by omega) h⟩
    · unfold wpY_weighted
      dsimp only
      refine sr_yst_t hs (br_f (by decide) ?_)
      exact ⟨b - a + 1, sr_ywgt (by omega) (b - a) a _ _ (by omega) (by omega) (by omega) h⟩
  · refine ⟨0, fun post h => ?_, fun post h => ?_⟩
    · unfold wpX_weighted
      dsimp only
      exact sr_xst_f hs (br_t rfl h)
    · unfold wpY_weighted
      dsimp only
      exact sr_yst_f hs (br_t rfl h)
theorem sr_xPlace {n a b : Nat} {C : Int32} {f g : Nat → Int32} {post : Int32 → Prop} (hab : a < b) (hb : b ≤ 48) (h : post (nI (sr_gr f (b - a - 1) (a + 1) a))) : wpX_placeOfGreatest post (nI n, C, f, g) (nI a) (nI b) := nm_r (nI_1 a) ⟨b - a, sr_xgr hb (b - a - 1) (a + 1) a _ (by omega) (by omega) (by omega) h⟩
theorem sr_yGrAt {n a b : Nat} {C : Int32} {f g s : Nat → Int32} {post : Int32 → Prop} (hs : sr_st n (nI a) (nI b)) (hab : a < b) (hb : b ≤ 48) (h : post (nI (sr_gr f (b - a - 1) (a + 1) a))) : wpY_greatestAt post (nI n, C, f, g, s) (nI a) (nI b) := by
  unfold wpY_greatestAt
  dsimp only
  refine sr_yst_t hs (br_f (by decide) ⟨b - a + 1, ?_⟩)
  refine br_f (nI_ge hab (by omega)) (br_t rfl (nm_r (nI_1 a) ?_))
  exact sr_ygr hb (b - a - 1) (a + 1) a _ (by omega) (by omega) (by omega) h
theorem sr_yGrAt0 {n a : Nat} {C : Int32} {f g s : Nat → Int32} {post : Int32 → Prop} (hs : sr_st n (nI a) (nI a)) (h : post (-4)) : wpY_greatestAt post (nI n, C, f, g, s) (nI a) (nI a) := by
  unfold wpY_greatestAt
  dsimp only
  refine sr_yst_t hs (br_f (by decide) ⟨1, ?_⟩)
  exact br_t (Int32.le_refl _) h
theorem sr_yGrAtN {n : Nat} {C i j : Int32} {f g s : Nat → Int32} {post : Int32 → Prop} (hs : ¬ sr_st n i j) (h : post (-1)) : wpY_greatestAt post (nI n, C, f, g, s) i j := by
  unfold wpY_greatestAt
  dsimp only
  exact sr_yst_f hs (br_t rfl h)
theorem sr_greatestAt {n c : Nat} (hh : n + c ≤ 48) (f g s : Nat → Int32) (i j : Int32) : ∃ r : Int32, (∀ post : Int32 → Prop, post r → wpX_greatestAt post (nI n, nI c, f, g) i j) ∧ (∀ post : Int32 → Prop, post r → wpY_greatestAt post (nI n, nI c, f, g, s) i j) := by
  by_cases hs : sr_st n i j
  · obtain ⟨a, b, hab, hbn, rfl, rfl⟩ := sr_st_of (by omega) hs
    by_cases hlt : a < b
    · have hne : ¬ nI a = nI b := fun z => absurd ((nI_eq (by omega) (by omega)).mp z) (by omega)
      refine ⟨nI (sr_gr f (b - a - 1) (a + 1) a), fun post h => ?_, fun post h => sr_yGrAt hs hlt (by omega) h⟩
      unfold wpX_greatestAt
      dsimp only
      refine sr_xst_t hs (br_f (by decide) (br_f hne ?_))
      exact sr_xPlace hlt (by omega) h
    · have e : b = a := by omega
      subst e
      refine ⟨-4, fun post h => ?_, fun post h => sr_yGrAt0 hs h⟩
      unfold wpX_greatestAt
      dsimp only
      exact sr_xst_t hs (br_f (by decide) (br_t rfl h))
  · refine ⟨-1, fun post h => ?_, fun post h => sr_yGrAtN hs h⟩
    unfold wpX_greatestAt
    dsimp only
    exact sr_xst_f hs (br_t rfl h)
theorem sr_greatest {n c : Nat} (hh : n + c ≤ 48) (f g s : Nat → Int32) (i j : Int32) : ∃ r : Int32, (∀ post : Int32 → Prop, post r → wpX_greatest post (nI n, nI c, f, g) i j) ∧ (∀ post : Int32 → Prop, post r → wpY_greatest post (nI n, nI c, f, g, s) i j) := by
  by_cases hs : sr_st n i j
  · obtain ⟨a, b, hab, hbn, rfl, rfl⟩ := sr_st_of (by omega) hs
    by_cases hlt : a < b
    · have hne : ¬ nI a = nI b := fun z => absurd ((nI_eq (by omega) (by omega)).mp z) (by omega)
      have hg : sr_gr f (b - a - 1) (a + 1) a < b := sr_gr_lt f b (b - a - 1) (a + 1) a (by omega) hlt
      refine ⟨f (sr_gr f (b - a - 1) (a + 1) a), fun post h => ?_, fun post h => ?_⟩
      · unfold wpX_greatest
        dsimp only
        refine sr_xst_t hs (br_f (by decide) (br_f hne ?_))
        refine sr_xPlace hlt (by omega) ⟨vp_in_nI (by omega) (by omega), ?_⟩
        rw [nI_clamp (by omega)]
        exact h
      · unfold wpY_greatest
        dsimp only
        refine sr_yGrAt hs hlt (by omega) (br_t (nI_pos' (by omega)) ⟨vp_in_nI (by omega) (by omega), ?_⟩)
        rw [nI_clamp (by omega)]
        exact h
    · have e : b = a := by omega
      subst e
      refine ⟨0, fun post h => ?_, fun post h => ?_⟩
      · unfold wpX_greatest
        dsimp only
        exact sr_xst_t hs (br_f (by decide) (br_t rfl h))
      · unfold wpY_greatest
        dsimp only
        exact sr_yGrAt0 hs (br_f (by decide) h)
  · refine ⟨0, fun post h => ?_, fun post h => ?_⟩
    · unfold wpX_greatest
      dsimp only
      exact sr_xst_f hs (br_t rfl h)
    · unfold wpY_greatest
      dsimp only
      exact sr_yGrAtN hs (br_f (by decide) h)
theorem sr_fst {n : Nat} (hn : n ≤ 48) {C : Int32} (f g s : Nat → Int32) (w : Int32) : ∀ m p : Nat, p + m = n → ∃ r : Int32, (∀ (N : Nat) (post : Int32 → Prop), m < N → post r → wX_firstFrom_13 post w (nI n) C f g N (nI p)) ∧ (∀ (N : Nat) (post : Int32 → Prop), m < N → post r → wY_firstFrom_17 post w (nI n) C f g s N (nI p)) := by
  intro m
  induction m with
  | zero =>
    intro p hp
    have z : nI n ≤ nI p := nI_le (by omega) (by omega)
    refine ⟨-4, fun N post hN h => ?_, fun N post hN h => ?_⟩
    · obtain ⟨N, rfl⟩ : ∃ M, N = M + 1 := ⟨N - 1, by omega⟩
      exact br_t z h
    · obtain ⟨N, rfl⟩ : ∃ M, N = M + 1 := ⟨N - 1, by omega⟩
      exact br_t z h
  | succ m ih =>
    intro p hp
    have z : ¬ nI n ≤ nI p := nI_ge (by omega) (by omega)
    have hin : vp_in (nI p) 48 := vp_in_nI (by omega) (by omega)
    have e : (nI p).toNatClampNeg = p := nI_clamp (by omega)
    by_cases y : f p < w
    · rw [← e] at y
      obtain ⟨r, hX, hY⟩ := ih (p + 1) (by omega)
      refine ⟨r, fun N post hN h => ?_, fun N post hN h => ?_⟩
      · obtain ⟨N, rfl⟩ : ∃ M, N = M + 1 := ⟨N - 1, by omega⟩
        exact br_f z ⟨hin, br_t y (nm_r (nI_1 p) (hX N post (by omega) h))⟩
      · obtain ⟨N, rfl⟩ : ∃ M, N = M + 1 := ⟨N - 1, by omega⟩
        exact br_f z ⟨hin, br_t y (nm_r (nI_1 p) (hY N post (by omega) h))⟩
    · rw [← e] at y
      refine ⟨nI p, fun N post hN h => ?_, fun N post hN h => ?_⟩
      · obtain ⟨N, rfl⟩ : ∃ M, N = M + 1 := ⟨N - 1, by omega⟩
        exact br_f z ⟨hin, br_f y h⟩
      · obtain ⟨N, rfl⟩ : ∃ M, N = M + 1 := ⟨N - 1, by omega⟩
        exact br_f z ⟨hin, br_f y h⟩
theorem sr_firstFrom {n c : Nat} (hh : n + c ≤ 48) (f g s : Nat → Int32) (i w : Int32) : ∃ r : Int32, (∀ post : Int32 → Prop, post r → wpX_firstFrom post (nI n, nI c, f, g) i w) ∧ (∀ post : Int32 → Prop, post r → wpY_firstFrom post (nI n, nI c, f, g, s) i w) := by
  by_cases hi : 0 ≤ i ∧ i ≤ nI n
  · obtain ⟨a, ha, rfl⟩ := sr_of (by omega) hi.1 hi.2
    obtain ⟨r, hX, hY⟩ := sr_fst (n := n) (by omega) (C := nI c) f g s w (n - a) a (by omega)
    refine ⟨r, fun post h => ?_, fun post h => ?_⟩
    · unfold wpX_firstFrom
      dsimp only
      exact sr_xgap_t hi.1 hi.2 (br_f (by decide) ⟨n - a + 1, hX _ post (by omega) h⟩)
    · unfold wpY_firstFrom
      dsimp only
      exact br_f (Int32.not_lt.mpr hi.1) (br_t hi.2 ⟨n - a + 1, hY _ post (by omega) h⟩)
  · refine ⟨-4, fun post h => ?_, fun post h => ?_⟩
    · unfold wpX_firstFrom
      dsimp only
      exact sr_xgap_f hi (br_t rfl h)
    · unfold wpY_firstFrom
      dsimp only
      exact br_c (fun _ => h) (fun z => br_c (fun y => absurd ⟨Int32.not_lt.mp z, y⟩ hi) (fun _ => h))
theorem sr_alk {a b q : Nat} (ha : a + q ≤ 48) (hb : b + q ≤ 48) {R C : Int32} (f g s : Nat → Int32) : ∀ m t : Nat, t + m = q → ∃ r : Int32, (∀ (N : Nat) (post : Int32 → Prop), m < N → post r → wX_alike_23 post (nI a) (nI b) (nI q) R C f g N (nI t)) ∧ (∀ (N : Nat) (post : Int32 → Prop), m < N → post r → wY_alike_45 post (nI a) (nI b) (nI q) R C f g s N (nI t)) := by
  intro m
  induction m with
  | zero =>
    intro t ht
    have z : nI q ≤ nI t := nI_le (by omega) (by omega)
    refine ⟨1, fun N post hN h => ?_, fun N post hN h => ?_⟩
    · obtain ⟨N, rfl⟩ : ∃ M, N = M + 1 := ⟨N - 1, by omega⟩
      exact br_t z h
    · obtain ⟨N, rfl⟩ : ∃ M, N = M + 1 := ⟨N - 1, by omega⟩
      exact br_t z h
  | succ m ih =>
    intro t ht
    have z : ¬ nI q ≤ nI t := nI_ge (by omega) (by omega)
    have i1 : vp_in (nI a + nI t) 48 := by rw [nI_add]; exact vp_in_nI (by omega) (by omega)
    have i2 : vp_in (nI b + nI t) 48 := by rw [nI_add]; exact vp_in_nI (by omega) (by omega)
    by_cases y : f (nI a + nI t).toNatClampNeg = f (nI b + nI t).toNatClampNeg
    · obtain ⟨r, hX, hY⟩ := ih (t + 1) (by omega)
      refine ⟨r, fun N post hN h => ?_, fun N post hN h => ?_⟩
      · obtain ⟨N, rfl⟩ : ∃ M, N = M + 1 := ⟨N - 1, by omega⟩
        exact br_f z ⟨i1, i2, br_t y (nm_r (nI_1 t) (hX N post (by omega) h))⟩
      · obtain ⟨N, rfl⟩ : ∃ M, N = M + 1 := ⟨N - 1, by omega⟩
        exact br_f z ⟨i1, i2, br_t y (nm_r (nI_1 t) (hY N post (by omega) h))⟩
    · refine ⟨0, fun N post hN h => ?_, fun N post hN h => ?_⟩
      · obtain ⟨N, rfl⟩ : ∃ M, N = M + 1 := ⟨N - 1, by omega⟩
        exact br_f z ⟨i1, i2, br_f y h⟩
      · obtain ⟨N, rfl⟩ : ∃ M, N = M + 1 := ⟨N - 1, by omega⟩
        exact br_f z ⟨i1, i2, br_f y h⟩
theorem sr_kfit {n q a : Nat} (hn : n ≤ 48) (hq : q < 2 ^ 31) (ha : a < 2 ^ 31) (h : ¬ nI n - nI q < nI a) : a + q ≤ n := by
  rw [Int32.lt_iff_toInt_lt, sr_nk hn hq, nI_toInt ha] at h
  omega
theorem sr_alike {n c : Nat} (hh : n + c ≤ 48) (f g s : Nat → Int32) (i j k : Int32) : ∃ r : Int32, (∀ post : Int32 → Prop, post r → wpX_alike post (nI n, nI c, f, g) i j k) ∧ (∀ post : Int32 → Prop, post r → wpY_alike post (nI n, nI c, f, g, s) i j k) := by
  by_cases hP : ¬ k < 0 ∧ ¬ i < 0 ∧ ¬ j < 0 ∧ ¬ nI n - k < i ∧ ¬ nI n - k < j
  · obtain ⟨hk, hi, hj, h1, h2⟩ := hP
    obtain ⟨q, hq, rfl⟩ := nI_of hk
    obtain ⟨a, ha, rfl⟩ := nI_of hi
    obtain ⟨b, hb, rfl⟩ := nI_of hj
    have f1 := sr_kfit (by omega) hq ha h1
    have f2 := sr_kfit (by omega) hq hb h2
    obtain ⟨r, hX, hY⟩ := sr_alk (a := a) (b := b) (q := q) (by omega) (by omega) (R := nI n) (C := nI c) f g s q 0 (by omega)
    refine ⟨r, fun post h => ?_, fun post h => ?_⟩
    · unfold wpX_alike
      dsimp only
      refine br_f hk (br_f hi (br_f h1 (br_f (by decide) ?_)))
      refine br_f hk (br_f hj (br_f h2 (br_f (by decide) ?_)))
      exact ⟨q + 1, hX _ post (by omega) h⟩
    · unfold wpY_alike
      dsimp only
      refine br_f hk (br_f hi (br_f hj (br_f h1 (br_f h2 (br_t (nI_le (by omega) (by omega)) ?_)))))
      exact ⟨q + 1, hY _ post (by omega) h⟩
  · refine ⟨0, fun post h => ?_, fun post h => ?_⟩
    · unfold wpX_alike
      dsimp only
      refine br_c (fun _ => br_t rfl h) (fun hk => br_c (fun _ => br_t rfl h) (fun hi => br_c (fun _ => br_t rfl h) (fun h1 => br_f (by decide) ?_)))
      refine br_c (fun _ => br_t rfl h) (fun _ => br_c (fun _ => br_t rfl h) (fun hj => br_c (fun _ => br_t rfl h) (fun h2 => ?_)))
      exact absurd ⟨hk, hi, hj, h1, h2⟩ hP
    · unfold wpY_alike
      dsimp only
      refine br_c (fun _ => h) (fun hk => br_c (fun _ => h) (fun hi => br_c (fun _ => h) (fun hj => br_c (fun _ => h) (fun h1 => br_c (fun _ => h) (fun h2 => ?_)))))
      exact absurd ⟨hk, hi, hj, h1, h2⟩ hP
