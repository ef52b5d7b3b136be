/-! the methods: from related states both sides end in related states again -/
theorem sr_insert {n c : Nat} (hh : n + c ≤ 48) (f g s : Nat → Int32) (i v : Int32) : ∃ (r : Int32) (n' : Nat) (f' : Nat → Int32), n' + c ≤ 48 ∧ (∀ post : Int32 → SX → Prop, post r (nI n', nI c, f', g) → wpX_insert post (nI n, nI c, f, g) i v) ∧ (∀ post : Int32 → SY → Prop, post r (nI n', nI c, f', g, s) → wpY_insert post (nI n, nI c, f, g, s) i v) := by
  by_cases hi : 0 ≤ i ∧ i ≤ nI n
  · by_cases hv : sr_num v
    · obtain ⟨a, ha, rfl⟩ := sr_of (by omega) hi.1 hi.2
      by_cases hf : n + c = 48
      · refine ⟨-2, n, f, hh, fun post h => ?_, fun post h => ?_⟩
        · unfold wpX_insert
          dsimp only
          refine sr_xgap_t hi.1 hi.2 (br_f (by decide) ?_)
          refine sr_xlim_t hv (br_f (by decide) ?_)
          have e : nI n + nI c = 48 := by rw [nI_add, hf]; rfl
          exact nm_e (br_t e (br_f (by decide) h))
        · unfold wpY_insert
          dsimp only
          refine br_f (Int32.not_lt.mpr hi.1) (br_f (Int32.not_lt.mpr hi.2) ?_)
          refine sr_ylim_t hv (br_f (by decide) ?_)
          have e : nI n + nI c = 48 := by rw [nI_add, hf]; rfl
          exact br_t e h
      · refine ⟨nI (n + 1), n + 1, upd (sr_opn a 1 (n - a) f) a v, by omega, fun post h => ?_, fun post h => ?_⟩
        · unfold wpX_insert
          dsimp only
          refine sr_xgap_t hi.1 hi.2 (br_f (by decide) ?_)
          refine sr_xlim_t hv (br_f (by decide) ?_)
          have e : ¬ nI n + nI c = 48 := by rw [nI_add, sr_eq48 (by omega)]; exact hf
          have e2 : nI n + nI c + 1 ≤ 48 := by rw [nI_add, nI_1, sr_le48 (by omega)]; omega
          refine nm_e (br_f e (br_t e2 (br_t rfl ?_)))
          refine sr_xOpen (k := 1) (by omega) ha ?_
          refine ⟨vp_in_nI (by omega) (by omega), nm_r ?_ h⟩
          rw [nI_clamp (by omega)]
        · unfold wpY_insert
          dsimp only
          refine br_f (Int32.not_lt.mpr hi.1) (br_f (Int32.not_lt.mpr hi.2) ?_)
          refine sr_ylim_t hv (br_f (by decide) ?_)
          have e : ¬ nI n + nI c = 48 := by rw [nI_add, sr_eq48 (by omega)]; exact hf
          refine br_f e ?_
          refine sr_yOpen (k := 1) (by omega) ha ?_
          refine ⟨vp_in_nI (by omega) (by omega), nm_r ?_ h⟩
          rw [nI_clamp (by omega)]
    · refine ⟨-1, n, f, hh, fun post h => ?_, fun post h => ?_⟩
      · unfold wpX_insert
        dsimp only
        refine sr_xgap_t hi.1 hi.2 (br_f (by decide) ?_)
        exact sr_xlim_f hv (br_t rfl h)
      · unfold wpY_insert
        dsimp only
        refine br_f (Int32.not_lt.mpr hi.1) (br_f (Int32.not_lt.mpr hi.2) ?_)
        exact sr_ylim_f hv (br_t rfl h)
  · refine ⟨-1, n, f, hh, fun post h => ?_, fun post h => ?_⟩
    · unfold wpX_insert
      dsimp only
      exact sr_xgap_f hi (br_t rfl h)
    · unfold wpY_insert
      dsimp only
      exact br_c (fun _ => h) (fun z => br_c (fun _ => h) (fun y => absurd ⟨Int32.not_lt.mp z, Int32.not_lt.mp y⟩ hi))

/-- the run's own conditions -/
def sr_rk (k v d : Int32) : Prop := (0 ≤ k ∧ k ≤ 48) ∧ sr_num v ∧ sr_num d ∧ (¬ k = 0 → sr_num (v + ((k - 1) * d)))
theorem sr_xrk_t {k v d : Int32} {post : Int32 → Prop} (hx : sr_rk k v d) (h : post 1) : wpX_isRun post k v d := by
  obtain ⟨⟨h0, h48⟩, hv, hd, he⟩ := hx
  refine br_f (Int32.not_lt.mpr h0) (br_f (Int32.not_lt.mpr h48) ?_)
  refine sr_xlim_t hv (br_f (by decide) ?_)
  refine sr_xlim_t hd (br_f (by decide) ?_)
  refine br_c (fun _ => h) (fun z => ?_)
  exact sr_xlim_t (he z) (br_f (by decide) h)
theorem sr_xrk_f {k v d : Int32} {post : Int32 → Prop} (hx : ¬ sr_rk k v d) (h : post 0) : wpX_isRun post k v d := by
  refine br_c (fun _ => h) (fun z0 => br_c (fun _ => h) (fun z1 => ?_))
  by_cases hv : sr_num v
  · refine sr_xlim_t hv (br_f (by decide) ?_)
    by_cases hd : sr_num d
    · refine sr_xlim_t hd (br_f (by decide) ?_)
      refine br_c (fun z => ?_) (fun z => ?_)
      · exact absurd ⟨⟨Int32.not_lt.mp z0, Int32.not_lt.mp z1⟩, hv, hd, fun y => absurd z y⟩ hx
      · refine sr_xlim_f (fun y => ?_) (br_t rfl h)
        exact hx ⟨⟨Int32.not_lt.mp z0, Int32.not_lt.mp z1⟩, hv, hd, fun _ => y⟩
    · exact sr_xlim_f hd (br_t rfl h)
  · exact sr_xlim_f hv (br_t rfl h)
theorem sr_yrk_t {n : Nat} {C i k v d : Int32} {f g s : Nat → Int32} {post : Int32 → SY → Prop} (hi : 0 ≤ i ∧ i ≤ nI n) (hx : sr_rk k v d) (h : wY_insertRun_62 post i k v d (nI n) C f g s) : wpY_insertRun post (nI n, C, f, g, s) i k v d := by
  obtain ⟨⟨h0, h48⟩, hv, hd, he⟩ := hx
  unfold wpY_insertRun
  dsimp only
  refine br_f (Int32.not_lt.mpr hi.1) (br_f (Int32.not_lt.mpr hi.2) ?_)
  refine br_f (Int32.not_lt.mpr h0) (br_f (Int32.not_lt.mpr h48) ?_)
  refine sr_ylim_t hv (br_f (by decide) ?_)
  refine sr_ylim_t hd (br_f (by decide) ?_)
  refine br_c (fun _ => h) (fun z => ?_)
  refine sr_ylim_t (he (fun y => z ?_)) (br_f (by decide) h)
  rw [y]
  exact Int32.le_refl 0
theorem sr_yrk_f {n : Nat} {C i k v d : Int32} {f g s : Nat → Int32} {post : Int32 → SY → Prop} (hi : 0 ≤ i ∧ i ≤ nI n) (hx : ¬ sr_rk k v d) (h : post (-1) (nI n, C, f, g, s)) : wpY_insertRun post (nI n, C, f, g, s) i k v d := by
  unfold wpY_insertRun
  dsimp only
  refine br_f (Int32.not_lt.mpr hi.1) (br_f (Int32.not_lt.mpr hi.2) ?_)
  refine br_c (fun _ => h) (fun z0 => br_c (fun _ => h) (fun z1 => ?_))
  by_cases hv : sr_num v
  · refine sr_ylim_t hv (br_f (by decide) ?_)
    by_cases hd : sr_num d
    · refine sr_ylim_t hd (br_f (by decide) ?_)
      refine br_c (fun z => ?_) (fun z => ?_)
      · have ek : k = 0 := Int32.le_antisymm z (Int32.not_lt.mp z0)
        exact absurd ⟨⟨Int32.not_lt.mp z0, Int32.not_lt.mp z1⟩, hv, hd, fun y => absurd ek y⟩ hx
      · refine sr_ylim_f (fun y => ?_) (br_t rfl h)
        exact hx ⟨⟨Int32.not_lt.mp z0, Int32.not_lt.mp z1⟩, hv, hd, fun _ => y⟩
    · exact sr_ylim_f hd (br_t rfl h)
  · exact sr_ylim_f hv (br_t rfl h)
/-- insertRun: one answer on both sides but where 48 numbers are held and k = 0: there the class says -2 and the reference n, and neither changes anything -/
theorem sr_insertRun {n c : Nat} (hh : n + c ≤ 48) (f g s : Nat → Int32) (i k v d : Int32) : ∃ (r r' : Int32) (n' : Nat) (f' : Nat → Int32), n' + c ≤ 48 ∧ (n + c < 48 → r' = r) ∧ (∀ post : Int32 → SX → Prop, post r (nI n', nI c, f', g) → wpX_insertRun post (nI n, nI c, f, g) i k v d) ∧ (∀ post : Int32 → SY → Prop, post r' (nI n', nI c, f', g, s) → wpY_insertRun post (nI n, nI c, f, g, s) i k v d) := by
  by_cases hi : 0 ≤ i ∧ i ≤ nI n
  · by_cases hr : sr_rk k v d
    · obtain ⟨a, ha, rfl⟩ := sr_of (by omega) hi.1 hi.2
      obtain ⟨q, hq, rfl⟩ := sr_of (n := 48) (by decide) hr.1.1 hr.1.2
      by_cases hf : n + c + q ≤ 48
      · have hY : ∀ post : Int32 → SY → Prop, post (nI (n + q)) (nI (n + q), nI c, sr_run a v d q 0 (sr_opn a q (n - a) f), g, s) → wpY_insertRun post (nI n, nI c, f, g, s) (nI a) (nI q) v d := by
          intro post h
          refine sr_yrk_t hi hr ?_
          have e : nI n + nI c + nI q ≤ 48 := by rw [nI_add, nI_add, sr_le48 (by omega)]; omega
          refine br_t e ?_
          refine sr_yOpen (by omega) ha ?_
          exact ⟨q + 1, sr_yrun (by omega) q 0 _ _ (by omega) (by omega) h⟩
        by_cases h48 : n + c = 48
        · have hq0 : q = 0 := by omega
          subst hq0
          refine ⟨-2, nI (n + 0), n, f, hh, fun z => absurd h48 (by omega), fun post h => ?_, fun post h => hY post ?_⟩
          · unfold wpX_insertRun
            dsimp only
            refine sr_xgap_t hi.1 hi.2 (br_f (by decide) ?_)
            refine sr_xrk_t hr (br_f (by decide) ?_)
            have e : nI n + nI c = 48 := by rw [nI_add, h48]; rfl
            exact nm_e (br_t e (br_f (by decide) h))
          · rw [sr_opn0]
            exact h
        · refine ⟨nI (n + q), nI (n + q), n + q, _, by omega, fun _ => rfl, fun post h => ?_, hY⟩
          unfold wpX_insertRun
          dsimp only
          refine sr_xgap_t hi.1 hi.2 (br_f (by decide) ?_)
          refine sr_xrk_t hr (br_f (by decide) ?_)
          have e : ¬ nI n + nI c = 48 := by rw [nI_add, sr_eq48 (by omega)]; exact h48
          have e2 : nI n + nI c + nI q ≤ 48 := by rw [nI_add, nI_add, sr_le48 (by omega)]; omega
          refine nm_e (br_f e (br_t e2 (br_t rfl ?_)))
          refine sr_xOpen (by omega) ha ?_
          exact ⟨q + 1, sr_xrun (by omega) q 0 _ _ (by omega) (by omega) h⟩
      · refine ⟨-2, -2, n, f, hh, fun _ => rfl, fun post h => ?_, fun post h => ?_⟩
        · unfold wpX_insertRun
          dsimp only
          refine sr_xgap_t hi.1 hi.2 (br_f (by decide) ?_)
          refine sr_xrk_t hr (br_f (by decide) ?_)
          have e2 : ¬ nI n + nI c + nI q ≤ 48 := by rw [nI_add, nI_add, sr_le48 (by omega)]; omega
          exact nm_e (br_c (fun _ => br_f (by decide) h) (fun _ => br_f e2 (br_f (by decide) h)))
        · refine sr_yrk_t hi hr ?_
          have e : ¬ nI n + nI c + nI q ≤ 48 := by rw [nI_add, nI_add, sr_le48 (by omega)]; omega
          exact br_f e h
    · refine ⟨-1, -1, n, f, hh, fun _ => rfl, fun post h => ?_, fun post h => sr_yrk_f hi hr h⟩
      unfold wpX_insertRun
      dsimp only
      refine sr_xgap_t hi.1 hi.2 (br_f (by decide) ?_)
      exact sr_xrk_f hr (br_t rfl h)
  · refine ⟨-1, -1, n, f, hh, fun _ => rfl, fun post h => ?_, fun post h => ?_⟩
    · unfold wpX_insertRun
      dsimp only
      exact sr_xgap_f hi (br_t rfl h)
    · unfold wpY_insertRun
      dsimp only
      exact br_c (fun _ => h) (fun z => br_c (fun _ => h) (fun y => absurd ⟨Int32.not_lt.mp z, Int32.not_lt.mp y⟩ hi))
