theorem sr_get {n c : Nat} (hh : n + c ≤ 48) (f g s : Nat → Int32) (i : Int32) : ∃ r : Int32, (∀ post : Int32 → Prop, post r → wpX_get post (nI n, nI c, f, g) i) ∧ (∀ post : Int32 → Prop, post r → wpY_get post (nI n, nI c, f, g, s) i) := by
  by_cases hi : ¬ i < 0 ∧ ¬ nI n ≤ i
  · obtain ⟨a, ha, rfl⟩ := nI_of hi.1
    have hn : a < n := Nat.lt_of_not_le (fun z => hi.2 (nI_le z ha))
    refine ⟨f a, fun post h => ?_, fun post h => ?_⟩
    · unfold wpX_get
      dsimp only
      refine sr_xplc_t hi.1 hi.2 (br_f (by decide) ⟨vp_in_nI (by omega) (by omega), ?_⟩)
      rw [nI_clamp (by omega)]
      exact h
    · unfold wpY_get
      dsimp only
      refine br_f hi.1 (br_f hi.2 ⟨vp_in_nI (by omega) (by omega), ?_⟩)
      rw [nI_clamp (by omega)]
      exact h
  · refine ⟨0, fun post h => ?_, fun post h => ?_⟩
    · unfold wpX_get
      dsimp only
      exact sr_xplc_f hi (br_t rfl h)
    · unfold wpY_get
      dsimp only
      exact br_c (fun _ => h) (fun z => br_c (fun _ => h) (fun y => absurd ⟨z, y⟩ hi))
theorem sr_set {n c : Nat} (hh : n + c ≤ 48) (f g s : Nat → Int32) (i v : Int32) : ∃ (r : Int32) (f' : Nat → Int32), (∀ post : Int32 → SX → Prop, post r (nI n, nI c, f', g) → wpX_set post (nI n, nI c, f, g) i v) ∧ (∀ post : Int32 → SY → Prop, post r (nI n, nI c, f', g, s) → wpY_set post (nI n, nI c, f, g, s) i v) := by
  by_cases hi : ¬ i < 0 ∧ ¬ nI n ≤ i
  · by_cases hv : sr_num v
    · obtain ⟨a, ha, rfl⟩ := nI_of hi.1
      have hn : a < n := Nat.lt_of_not_le (fun z => hi.2 (nI_le z ha))
      refine ⟨0, upd f a v, fun post h => ?_, fun post h => ?_⟩
      · unfold wpX_set
        dsimp only
        refine sr_xplc_t hi.1 hi.2 (br_f (by decide) ?_)
        refine sr_xlim_t hv (br_f (by decide) ⟨vp_in_nI (by omega) (by omega), nm_r ?_ h⟩)
        rw [nI_clamp (by omega)]
      · unfold wpY_set
        dsimp only
        refine br_f hi.1 (br_f hi.2 ?_)
        refine sr_ylim_t hv (br_f (by decide) ⟨vp_in_nI (by omega) (by omega), nm_r ?_ h⟩)
        rw [nI_clamp (by omega)]
    · refine ⟨-1, f, fun post h => ?_, fun post h => ?_⟩
      · unfold wpX_set
        dsimp only
        refine sr_xplc_t hi.1 hi.2 (br_f (by decide) ?_)
        exact sr_xlim_f hv (br_t rfl h)
      · unfold wpY_set
        dsimp only
        refine br_f hi.1 (br_f hi.2 ?_)
        exact sr_ylim_f hv (br_t rfl h)
  · refine ⟨-1, f, fun post h => ?_, fun post h => ?_⟩
    · unfold wpX_set
      dsimp only
      exact sr_xplc_f hi (br_t rfl h)
    · unfold wpY_set
      dsimp only
      exact br_c (fun _ => h) (fun z => br_c (fun _ => h) (fun y => absurd ⟨z, y⟩ hi))
theorem sr_cut {n c : Nat} (hh : n + c ≤ 48) (f g s : Nat → Int32) (i j : Int32) : ∃ (r : Int32) (n' c' : Nat) (f' g' : Nat → Int32), n' + c' ≤ 48 ∧ (∀ post : Int32 → SX → Prop, post r (nI n', nI c', f', g') → wpX_cut post (nI n, nI c, f, g) i j) ∧ (∀ post : Int32 → SY → Prop, post r (nI n', nI c', f', g', s) → wpY_cut post (nI n, nI c, f, g, s) i j) := by
  by_cases hs : sr_st n i j
  · obtain ⟨a, b, hab, hbn, rfl, rfl⟩ := sr_st_of (by omega) hs
    refine ⟨nI (b - a), n - (b - a), b - a, sr_cls a b (n - b) b f, sr_tak a f (b - a) a g, by omega, fun post h => ?_, fun post h => ?_⟩
    · unfold wpX_cut
      dsimp only
      refine sr_xst_t hs (br_f (by decide) ?_)
      refine sr_xFill hab (by omega) ?_
      exact sr_xClose hab hbn (by omega) h
    · unfold wpY_cut
      dsimp only
      refine sr_yst_t hs (br_f (by decide) ?_)
      refine sr_yTake hab (by omega) ?_
      exact ⟨n - b + 1, sr_ycls hab hbn (by omega) (n - b) b _ f (by omega) (by omega) (by omega) h⟩
  · refine ⟨-1, n, c, f, g, hh, fun post h => ?_, fun post h => ?_⟩
    · unfold wpX_cut
      dsimp only
      exact sr_xst_f hs (br_t rfl h)
    · unfold wpY_cut
      dsimp only
      exact sr_yst_f hs (br_t rfl h)
theorem sr_copy {n c : Nat} (hh : n + c ≤ 48) (f g s : Nat → Int32) (i j : Int32) : ∃ (r : Int32) (c' : Nat) (g' : Nat → Int32), n + c' ≤ 48 ∧ (∀ post : Int32 → SX → Prop, post r (nI n, nI c', f, g') → wpX_copy post (nI n, nI c, f, g) i j) ∧ (∀ post : Int32 → SY → Prop, post r (nI n, nI c', f, g', s) → wpY_copy post (nI n, nI c, f, g, s) i j) := by
  by_cases hs : sr_st n i j
  · obtain ⟨a, b, hab, hbn, rfl, rfl⟩ := sr_st_of (by omega) hs
    have eX : nI n + (nI b - nI a) = nI (n + (b - a)) := by rw [pk_sub hab, nI_add]
    have eY : nI n + nI b - nI a = nI (n + (b - a)) := sr_e5 hab
    by_cases hf : n + (b - a) ≤ 48
    · have h48 : nI (n + (b - a)) ≤ 48 := (sr_le48 (by omega)).mpr hf
      refine ⟨nI (b - a), b - a, sr_tak a f (b - a) a g, by omega, fun post h => ?_, fun post h => ?_⟩
      · unfold wpX_copy
        dsimp only
        refine sr_xst_t hs (br_f (by decide) ?_)
        rw [eX]
        refine br_t h48 ?_
        exact sr_xFill hab (by omega) h
      · unfold wpY_copy
        dsimp only
        refine sr_yst_t hs (br_f (by decide) ?_)
        rw [eY]
        refine br_t h48 ?_
        exact sr_yTake hab (by omega) h
    · have h48 : ¬ nI (n + (b - a)) ≤ 48 := fun z => hf ((sr_le48 (by omega)).mp z)
      refine ⟨-2, c, g, hh, fun post h => ?_, fun post h => ?_⟩
      · unfold wpX_copy
        dsimp only
        refine sr_xst_t hs (br_f (by decide) ?_)
        rw [eX]
        exact br_f h48 h
      · unfold wpY_copy
        dsimp only
        refine sr_yst_t hs (br_f (by decide) ?_)
        rw [eY]
        exact br_f h48 h
  · refine ⟨-1, c, g, hh, fun post h => ?_, fun post h => ?_⟩
    · unfold wpX_copy
      dsimp only
      exact sr_xst_f hs (br_t rfl h)
    · unfold wpY_copy
      dsimp only
      exact sr_yst_f hs (br_t rfl h)
theorem sr_paste {n c : Nat} (hh : n + c ≤ 48) (f g s : Nat → Int32) (i : Int32) : ∃ (r : Int32) (n' c' : Nat) (f' : Nat → Int32), n' + c' ≤ 48 ∧ (∀ post : Int32 → SX → Prop, post r (nI n', nI c', f', g) → wpX_paste post (nI n, nI c, f, g) i) ∧ (∀ post : Int32 → SY → Prop, post r (nI n', nI c', f', g, s) → wpY_paste post (nI n, nI c, f, g, s) i) := by
  by_cases hi : 0 ≤ i ∧ i ≤ nI n
  · obtain ⟨a, ha, rfl⟩ := sr_of (by omega) hi.1 hi.2
    refine ⟨nI (n + c), n + c, 0, sr_pst a g c 0 (sr_opn a c (n - a) f), by omega, fun post h => ?_, fun post h => ?_⟩
    · unfold wpX_paste
      dsimp only
      refine sr_xgap_t hi.1 hi.2 (br_f (by decide) ?_)
      refine sr_xOpen hh ha ?_
      exact ⟨c + 1, sr_xpst (by omega) c 0 _ _ (by omega) (by omega) h⟩
    · unfold wpY_paste
      dsimp only
      refine br_f (Int32.not_lt.mpr hi.1) (br_t hi.2 ?_)
      refine sr_yOpen hh ha ?_
      exact ⟨c + 1, sr_ypst (by omega) c 0 _ _ (by omega) (by omega) h⟩
  · refine ⟨-1, n, c, f, hh, fun post h => ?_, fun post h => ?_⟩
    · unfold wpX_paste
      dsimp only
      exact sr_xgap_f hi (br_t rfl h)
    · unfold wpY_paste
      dsimp only
      exact br_c (fun _ => h) (fun z => br_c (fun y => absurd ⟨Int32.not_lt.mp z, y⟩ hi) (fun _ => h))
theorem sr_reverse {n c : Nat} (hh : n + c ≤ 48) (f g s : Nat → Int32) (i j : Int32) : ∃ (r : Int32) (f' s' : Nat → Int32), (∀ post : Int32 → SX → Prop, post r (nI n, nI c, f', g) → wpX_reverse post (nI n, nI c, f, g) i j) ∧ (∀ post : Int32 → SY → Prop, post r (nI n, nI c, f', g, s') → wpY_reverse post (nI n, nI c, f, g, s) i j) := by
  by_cases hs : sr_st n i j
  · obtain ⟨a, b, hab, hbn, rfl, rfl⟩ := sr_st_of (by omega) hs
    refine ⟨nI b - nI a, sr_rev a b f, sr_rs a b (b - a) f s, fun post h => ?_, fun post h => ?_⟩
    · unfold wpX_reverse
      dsimp only
      refine sr_xst_t hs (br_f (by decide) ?_)
      exact sr_xTurn hab (by omega) h
    · unfold wpY_reverse
      dsimp only
      refine sr_yst_t hs (br_f (by decide) ⟨b - a + 1, ?_⟩)
      rw [← sr_revE f s hab] at h
      have z := sr_ybk44 (f := f) hab (by omega) h (b - a) 0 (b - a + 1) (by omega) (by omega)
      rw [sr_bk0] at z
      have y := sr_yrs (s := s) hab (by omega) ⟨_, z⟩ (b - a) 0 (b - a + 1) (by omega) (by omega)
      rw [sr_rs0] at y
      exact y
  · refine ⟨-1, f, s, fun post h => ?_, fun post h => ?_⟩
    · unfold wpX_reverse
      dsimp only
      exact sr_xst_f hs (br_t rfl h)
    · unfold wpY_reverse
      dsimp only
      exact sr_yst_f hs (br_t rfl h)
theorem sr_raise {n c : Nat} (hh : n + c ≤ 48) (f g s : Nat → Int32) (i j d : Int32) : ∃ (r : Int32) (f' : Nat → Int32), (∀ post : Int32 → SX → Prop, post r (nI n, nI c, f', g) → wpX_raise post (nI n, nI c, f, g) i j d) ∧ (∀ post : Int32 → SY → Prop, post r (nI n, nI c, f', g, s) → wpY_raise post (nI n, nI c, f, g, s) i j d) := by
  by_cases hs : sr_st n i j
  · by_cases hd : sr_num d
    · obtain ⟨a, b, hab, hbn, rfl, rfl⟩ := sr_st_of (by omega) hs
      by_cases hc : sr_can d f (b - a) a
      · refine ⟨nI b - nI a, sr_map (fun x => x + d) (b - a) a f, fun post h => ?_, fun post h => ?_⟩
        · unfold wpX_raise
          dsimp only
          refine sr_xst_t hs (br_f (by decide) ?_)
          refine sr_xlim_t hd (br_f (by decide) ?_)
          refine ⟨b - a + 1, sr_xcan (by omega) (b - a) a _ (by omega) (by omega) (fun _ => ?_) (fun z => absurd hc z)⟩
          exact br_f (by decide) ⟨b - a + 1, sr_xrai (by omega) (b - a) a _ _ (by omega) (by omega) h⟩
        · unfold wpY_raise
          dsimp only
          refine sr_yst_t hs (br_f (by decide) ?_)
          refine sr_ylim_t hd (br_f (by decide) ?_)
          refine ⟨b - a + 1, sr_ycan (by omega) (b - a) a _ (by omega) (by omega) (fun _ => ?_) (fun z => absurd hc z)⟩
          exact ⟨b - a + 1, sr_yrai (by omega) (b - a) a _ _ (by omega) (by omega) h⟩
      · refine ⟨-1, f, fun post h => ?_, fun post h => ?_⟩
        · unfold wpX_raise
          dsimp only
          refine sr_xst_t hs (br_f (by decide) ?_)
          refine sr_xlim_t hd (br_f (by decide) ?_)
          exact ⟨b - a + 1, sr_xcan (by omega) (b - a) a _ (by omega) (by omega) (fun z => absurd z hc) (fun _ => br_t rfl h)⟩
        · unfold wpY_raise
          dsimp only
          refine sr_yst_t hs (br_f (by decide) ?_)
          refine sr_ylim_t hd (br_f (by decide) ?_)
          exact ⟨b - a + 1, sr_ycan (by omega) (b - a) a _ (by omega) (by omega) (fun z => absurd z hc) (fun _ => h)⟩
    · refine ⟨-1, f, fun post h => ?_, fun post h => ?_⟩
      · unfold wpX_raise
        dsimp only
        refine sr_xst_t hs (br_f (by decide) ?_)
        exact sr_xlim_f hd (br_t rfl h)
      · unfold wpY_raise
        dsimp only
        refine sr_yst_t hs (br_f (by decide) ?_)
        exact sr_ylim_f hd (br_t rfl h)
  · refine ⟨-1, f, fun post h => ?_, fun post h => ?_⟩
    · unfold wpX_raise
      dsimp only
      exact sr_xst_f hs (br_t rfl h)
    · unfold wpY_raise
      dsimp only
      exact sr_yst_f hs (br_t rfl h)
theorem sr_negate {n c : Nat} (hh : n + c ≤ 48) (f g s : Nat → Int32) (i j : Int32) : ∃ (r : Int32) (f' : Nat → Int32), (∀ post : Int32 → SX → Prop, post r (nI n, nI c, f', g) → wpX_negate post (nI n, nI c, f, g) i j) ∧ (∀ post : Int32 → SY → Prop, post r (nI n, nI c, f', g, s) → wpY_negate post (nI n, nI c, f, g, s) i j) := by
  by_cases hs : sr_st n i j
  · obtain ⟨a, b, hab, hbn, rfl, rfl⟩ := sr_st_of (by omega) hs
    refine ⟨nI b - nI a, sr_map (fun x => -x) (b - a) a f, fun post h => ?_, fun post h => ?_⟩
    · unfold wpX_negate
      dsimp only
      refine sr_xst_t hs (br_f (by decide) ?_)
      exact ⟨b - a + 1, sr_xneg (by omega) (b - a) a _ _ (by omega) (by omega) h⟩
    · unfold wpY_negate
      dsimp only
      refine sr_yst_t hs (br_f (by decide) ?_)
      exact ⟨b - a + 1, sr_yneg (by omega) (b - a) a _ _ (by omega) (by omega) h⟩
  · refine ⟨-1, f, fun post h => ?_, fun post h => ?_⟩
    · unfold wpX_negate
      dsimp only
      exact sr_xst_f hs (br_t rfl h)
    · unfold wpY_negate
      dsimp only
      exact sr_yst_f hs (br_t rfl h)
theorem sr_rotate {n c : Nat} (hh : n + c ≤ 48) (f g s : Nat → Int32) (i j k : Int32) : ∃ (r : Int32) (f' s' : Nat → Int32), (∀ post : Int32 → SX → Prop, post r (nI n, nI c, f', g) → wpX_rotate post (nI n, nI c, f, g) i j k) ∧ (∀ post : Int32 → SY → Prop, post r (nI n, nI c, f', g, s') → wpY_rotate post (nI n, nI c, f, g, s) i j k) := by
  by_cases hs : sr_st n i j
  · obtain ⟨a, b, hab, hbn, rfl, rfl⟩ := sr_st_of (by omega) hs
    by_cases hk : 0 ≤ k ∧ k ≤ nI b - nI a
    · have hk' := hk.2
      rw [pk_sub hab] at hk'
      obtain ⟨q, hq, rfl⟩ := sr_of (by omega) hk.1 hk'
      refine ⟨0, sr_rot a b q f, sr_ts a b q (b - a) f s, fun post h => ?_, fun post h => ?_⟩
      · unfold wpX_rotate
        dsimp only
        refine sr_xst_t hs (br_f (by decide) ?_)
        refine br_f (Int32.not_lt.mpr hk.1) (br_t hk.2 ?_)
        rw [nI_add]
        refine sr_xTurn (by omega) (by omega) ?_
        refine sr_xTurn (by omega) (by omega) ?_
        refine sr_xTurn (by omega) (by omega) ?_
        rw [sr_rev3 f (by omega)]
        exact h
      · unfold wpY_rotate
        dsimp only
        refine sr_yst_t hs (br_f (by decide) ?_)
        refine br_f (Int32.not_lt.mpr hk.1) (br_t hk.2 ⟨b - a + 1, ?_⟩)
        rw [← sr_rotE f s (show a + q ≤ b by omega)] at h
        have z := sr_ybk79 (f := f) hab (by omega) h (b - a) 0 (b - a + 1) (by omega) (by omega)
        rw [sr_bk0] at z
        have y := sr_yts (s := s) (show a + q ≤ b by omega) (by omega) ⟨_, z⟩ (b - a) 0 (b - a + 1) (by omega) (by omega)
        rw [sr_ts0] at y
        exact y
    · refine ⟨-1, f, s, fun post h => ?_, fun post h => ?_⟩
      · unfold wpX_rotate
        dsimp only
        refine sr_xst_t hs (br_f (by decide) ?_)
        exact br_c (fun _ => h) (fun z => br_c (fun y => absurd ⟨Int32.not_lt.mp z, y⟩ hk) (fun _ => h))
      · unfold wpY_rotate
        dsimp only
        refine sr_yst_t hs (br_f (by decide) ?_)
        exact br_c (fun _ => h) (fun z => br_c (fun y => absurd ⟨Int32.not_lt.mp z, y⟩ hk) (fun _ => h))
  · refine ⟨-1, f, s, fun post h => ?_, fun post h => ?_⟩
    · unfold wpX_rotate
      dsimp only
      exact sr_xst_f hs (br_t rfl h)
    · unfold wpY_rotate
      dsimp only
      exact sr_yst_f hs (br_t rfl h)
