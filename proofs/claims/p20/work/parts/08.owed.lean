/-! the owed statements: the relation and one statement a method -/
def i_Rel (_ : Nat) (u : SX) (v : SY) : Prop := ∃ n c : Nat, n + c ≤ 48 ∧ ∃ f g s : Nat → Int32, u = (nI n, nI c, f, g) ∧ v = (nI n, nI c, f, g, s)
theorem i_up {k : Nat} {u : SX} {v : SY} (h : i_Rel k u v) : i_Rel (k + 5) u v := h
theorem i_vc0 : wpX_init (fun u => wpY_init (fun v => i_Rel 0 u v)) := ⟨0, 0, by decide, _, _, _, rfl, rfl⟩
theorem i_vc_insert {k : Nat} {u : SX} {v : SY} (I : i_Rel k u v) (hk : k + 5 ≤ 2560) (v1 : Int32) (v2 : Int32) : wpX_insert (fun r u' => wpY_insert (fun r' v' => i_Rel (k + 5) u' v') v v1 v2) u v1 v2 := by
  obtain ⟨n, c, hh, f, g, s, rfl, rfl⟩ := I
  obtain ⟨r, n', f', h', hX, hY⟩ := sr_insert hh f g s v1 v2
  exact hX _ (hY _ ⟨n', c, h', f', g, s, rfl, rfl⟩)
theorem i_vc_insertRun {k : Nat} {u : SX} {v : SY} (I : i_Rel k u v) (hk : k + 5 ≤ 2560) (v1 : Int32) (v2 : Int32) (v3 : Int32) (v4 : Int32) : wpX_insertRun (fun r u' => wpY_insertRun (fun r' v' => i_Rel (k + 5) u' v') v v1 v2 v3 v4) u v1 v2 v3 v4 := by
  obtain ⟨n, c, hh, f, g, s, rfl, rfl⟩ := I
  obtain ⟨r, r', n', f', h', he, hX, hY⟩ := sr_insertRun hh f g s v1 v2 v3 v4
  exact hX _ (hY _ ⟨n', c, h', f', g, s, rfl, rfl⟩)
theorem i_vc_size {k : Nat} {u : SX} {v : SY} (I : i_Rel k u v) (hk : k + 5 ≤ 2560) : wpX_size (fun r => wpY_size (fun r' => i_Rel (k + 5) u v) v) u := by
  obtain ⟨n, c, hh, f, g, s, rfl, rfl⟩ := I
  exact ⟨n, c, hh, f, g, s, rfl, rfl⟩
theorem i_vc_get {k : Nat} {u : SX} {v : SY} (I : i_Rel k u v) (hk : k + 5 ≤ 2560) (v1 : Int32) : wpX_get (fun r => wpY_get (fun r' => i_Rel (k + 5) u v) v v1) u v1 := by
  obtain ⟨n, c, hh, f, g, s, rfl, rfl⟩ := I
  obtain ⟨r, hX, hY⟩ := sr_get hh f g s v1
  exact hX _ (hY _ ⟨n, c, hh, f, g, s, rfl, rfl⟩)
theorem i_vc_set {k : Nat} {u : SX} {v : SY} (I : i_Rel k u v) (hk : k + 5 ≤ 2560) (v1 : Int32) (v2 : Int32) : wpX_set (fun r u' => wpY_set (fun r' v' => i_Rel (k + 5) u' v') v v1 v2) u v1 v2 := by
  obtain ⟨n, c, hh, f, g, s, rfl, rfl⟩ := I
  obtain ⟨r, f', hX, hY⟩ := sr_set hh f g s v1 v2
  exact hX _ (hY _ ⟨n, c, hh, f', g, s, rfl, rfl⟩)
theorem i_vc_cut {k : Nat} {u : SX} {v : SY} (I : i_Rel k u v) (hk : k + 5 ≤ 2560) (v1 : Int32) (v2 : Int32) : wpX_cut (fun r u' => wpY_cut (fun r' v' => i_Rel (k + 5) u' v') v v1 v2) u v1 v2 := by
  obtain ⟨n, c, hh, f, g, s, rfl, rfl⟩ := I
  obtain ⟨r, n', c', f', g', h', hX, hY⟩ := sr_cut hh f g s v1 v2
  exact hX _ (hY _ ⟨n', c', h', f', g', s, rfl, rfl⟩)
theorem i_vc_copy {k : Nat} {u : SX} {v : SY} (I : i_Rel k u v) (hk : k + 5 ≤ 2560) (v1 : Int32) (v2 : Int32) : wpX_copy (fun r u' => wpY_copy (fun r' v' => i_Rel (k + 5) u' v') v v1 v2) u v1 v2 := by
  obtain ⟨n, c, hh, f, g, s, rfl, rfl⟩ := I
  obtain ⟨r, c', g', h', hX, hY⟩ := sr_copy hh f g s v1 v2
  exact hX _ (hY _ ⟨n, c', h', f, g', s, rfl, rfl⟩)
theorem i_vc_paste {k : Nat} {u : SX} {v : SY} (I : i_Rel k u v) (hk : k + 5 ≤ 2560) (v1 : Int32) : wpX_paste (fun r u' => wpY_paste (fun r' v' => i_Rel (k + 5) u' v') v v1) u v1 := by
  obtain ⟨n, c, hh, f, g, s, rfl, rfl⟩ := I
  obtain ⟨r, n', c', f', h', hX, hY⟩ := sr_paste hh f g s v1
  exact hX _ (hY _ ⟨n', c', h', f', g, s, rfl, rfl⟩)
theorem i_vc_clip {k : Nat} {u : SX} {v : SY} (I : i_Rel k u v) (hk : k + 5 ≤ 2560) : wpX_clip (fun r => wpY_clip (fun r' => i_Rel (k + 5) u v) v) u := by
  obtain ⟨n, c, hh, f, g, s, rfl, rfl⟩ := I
  exact ⟨n, c, hh, f, g, s, rfl, rfl⟩
theorem i_vc_reverse {k : Nat} {u : SX} {v : SY} (I : i_Rel k u v) (hk : k + 5 ≤ 2560) (v1 : Int32) (v2 : Int32) : wpX_reverse (fun r u' => wpY_reverse (fun r' v' => i_Rel (k + 5) u' v') v v1 v2) u v1 v2 := by
  obtain ⟨n, c, hh, f, g, s, rfl, rfl⟩ := I
  obtain ⟨r, f', s', hX, hY⟩ := sr_reverse hh f g s v1 v2
  exact hX _ (hY _ ⟨n, c, hh, f', g, s', rfl, rfl⟩)
theorem i_vc_raise {k : Nat} {u : SX} {v : SY} (I : i_Rel k u v) (hk : k + 5 ≤ 2560) (v1 : Int32) (v2 : Int32) (v3 : Int32) : wpX_raise (fun r u' => wpY_raise (fun r' v' => i_Rel (k + 5) u' v') v v1 v2 v3) u v1 v2 v3 := by
  obtain ⟨n, c, hh, f, g, s, rfl, rfl⟩ := I
  obtain ⟨r, f', hX, hY⟩ := sr_raise hh f g s v1 v2 v3
  exact hX _ (hY _ ⟨n, c, hh, f', g, s, rfl, rfl⟩)
theorem i_vc_negate {k : Nat} {u : SX} {v : SY} (I : i_Rel k u v) (hk : k + 5 ≤ 2560) (v1 : Int32) (v2 : Int32) : wpX_negate (fun r u' => wpY_negate (fun r' v' => i_Rel (k + 5) u' v') v v1 v2) u v1 v2 := by
  obtain ⟨n, c, hh, f, g, s, rfl, rfl⟩ := I
  obtain ⟨r, f', hX, hY⟩ := sr_negate hh f g s v1 v2
  exact hX _ (hY _ ⟨n, c, hh, f', g, s, rfl, rfl⟩)
theorem i_vc_rotate {k : Nat} {u : SX} {v : SY} (I : i_Rel k u v) (hk : k + 5 ≤ 2560) (v1 : Int32) (v2 : Int32) (v3 : Int32) : wpX_rotate (fun r u' => wpY_rotate (fun r' v' => i_Rel (k + 5) u' v') v v1 v2 v3) u v1 v2 v3 := by
  obtain ⟨n, c, hh, f, g, s, rfl, rfl⟩ := I
  obtain ⟨r, f', s', hX, hY⟩ := sr_rotate hh f g s v1 v2 v3
  exact hX _ (hY _ ⟨n, c, hh, f', g, s', rfl, rfl⟩)
theorem i_vc_sum {k : Nat} {u : SX} {v : SY} (I : i_Rel k u v) (hk : k + 5 ≤ 2560) (v1 : Int32) (v2 : Int32) : wpX_sum (fun r => wpY_sum (fun r' => i_Rel (k + 5) u v) v v1 v2) u v1 v2 := by
  obtain ⟨n, c, hh, f, g, s, rfl, rfl⟩ := I
  obtain ⟨r, hX, hY⟩ := sr_sum2 hh f g s v1 v2
  exact hX _ (hY _ ⟨n, c, hh, f, g, s, rfl, rfl⟩)
theorem i_vc_greatest {k : Nat} {u : SX} {v : SY} (I : i_Rel k u v) (hk : k + 5 ≤ 2560) (v1 : Int32) (v2 : Int32) : wpX_greatest (fun r => wpY_greatest (fun r' => i_Rel (k + 5) u v) v v1 v2) u v1 v2 := by
  obtain ⟨n, c, hh, f, g, s, rfl, rfl⟩ := I
  obtain ⟨r, hX, hY⟩ := sr_greatest hh f g s v1 v2
  exact hX _ (hY _ ⟨n, c, hh, f, g, s, rfl, rfl⟩)
theorem i_vc_greatestAt {k : Nat} {u : SX} {v : SY} (I : i_Rel k u v) (hk : k + 5 ≤ 2560) (v1 : Int32) (v2 : Int32) : wpX_greatestAt (fun r => wpY_greatestAt (fun r' => i_Rel (k + 5) u v) v v1 v2) u v1 v2 := by
  obtain ⟨n, c, hh, f, g, s, rfl, rfl⟩ := I
  obtain ⟨r, hX, hY⟩ := sr_greatestAt hh f g s v1 v2
  exact hX _ (hY _ ⟨n, c, hh, f, g, s, rfl, rfl⟩)
theorem i_vc_firstFrom {k : Nat} {u : SX} {v : SY} (I : i_Rel k u v) (hk : k + 5 ≤ 2560) (v1 : Int32) (v2 : Int32) : wpX_firstFrom (fun r => wpY_firstFrom (fun r' => i_Rel (k + 5) u v) v v1 v2) u v1 v2 := by
  obtain ⟨n, c, hh, f, g, s, rfl, rfl⟩ := I
  obtain ⟨r, hX, hY⟩ := sr_firstFrom hh f g s v1 v2
  exact hX _ (hY _ ⟨n, c, hh, f, g, s, rfl, rfl⟩)
theorem i_vc_weighted {k : Nat} {u : SX} {v : SY} (I : i_Rel k u v) (hk : k + 5 ≤ 2560) (v1 : Int32) (v2 : Int32) : wpX_weighted (fun r => wpY_weighted (fun r' => i_Rel (k + 5) u v) v v1 v2) u v1 v2 := by
  obtain ⟨n, c, hh, f, g, s, rfl, rfl⟩ := I
  obtain ⟨r, hX, hY⟩ := sr_weighted hh f g s v1 v2
  exact hX _ (hY _ ⟨n, c, hh, f, g, s, rfl, rfl⟩)
theorem i_vc_alike {k : Nat} {u : SX} {v : SY} (I : i_Rel k u v) (hk : k + 5 ≤ 2560) (v1 : Int32) (v2 : Int32) (v3 : Int32) : wpX_alike (fun r => wpY_alike (fun r' => r' = r ∧ i_Rel (k + 5) u v) v v1 v2 v3) u v1 v2 v3 := by
  obtain ⟨n, c, hh, f, g, s, rfl, rfl⟩ := I
  obtain ⟨r, hX, hY⟩ := sr_alike hh f g s v1 v2 v3
  exact hX _ (hY _ ⟨rfl, n, c, hh, f, g, s, rfl, rfl⟩)
