/-! what is owed: both states are the same, with at most twelve formulas in use -/
def i_Rel (k : Nat) (u : SX) (v : SY) : Prop := u = v ∧ rz_ok u
theorem i_up {k : Nat} {u : SX} {v : SY} (h : i_Rel k u v) : i_Rel (k + 3) u v := h
theorem i_vc0 : wpX_init (fun u => wpY_init (fun v => i_Rel 0 u v)) := ⟨rfl, 0, (fun _ => 0), by omega, rfl⟩
theorem i_vc_variable {k : Nat} {u : SX} {v : SY} (I : i_Rel k u v) (hk : k + 3 ≤ 1536) (v1 : Int32) : wpX_variable (fun r u' => wpY_variable (fun r' v' => r' = r ∧ i_Rel (k + 3) u' v') v v1) u v1 := by
  obtain ⟨rfl, n, S, hn, rfl⟩ := I
  obtain ⟨r, t, ht, hX, hY⟩ := rz_variable hn S v1
  exact hX _ (hY _ ⟨rfl, rfl, ht⟩)
theorem i_vc_constant {k : Nat} {u : SX} {v : SY} (I : i_Rel k u v) (hk : k + 3 ≤ 1536) (v1 : Int32) : wpX_constant (fun r u' => wpY_constant (fun r' v' => r' = r ∧ i_Rel (k + 3) u' v') v v1) u v1 := by
  obtain ⟨rfl, n, S, hn, rfl⟩ := I
  obtain ⟨r, t, ht, hX, hY⟩ := rz_constant hn S v1
  exact hX _ (hY _ ⟨rfl, rfl, ht⟩)
theorem i_vc_join {k : Nat} {u : SX} {v : SY} (I : i_Rel k u v) (hk : k + 3 ≤ 1536) (v1 : Int32) : wpX_join (fun r u' => wpY_join (fun r' v' => r' = r ∧ i_Rel (k + 3) u' v') v v1) u v1 := by
  obtain ⟨rfl, n, S, hn, rfl⟩ := I
  obtain ⟨r, t, ht, hX, hY⟩ := rz_join hn S v1
  exact hX _ (hY _ ⟨rfl, rfl, ht⟩)
theorem i_vc_not {k : Nat} {u : SX} {v : SY} (I : i_Rel k u v) (hk : k + 3 ≤ 1536) : wpX_not (fun r u' => wpY_not (fun r' v' => r' = r ∧ i_Rel (k + 3) u' v') v) u := by
  obtain ⟨rfl, n, S, hn, rfl⟩ := I
  obtain ⟨r, t, ht, hX, hY⟩ := rz_not hn S
  exact hX _ (hY _ ⟨rfl, rfl, ht⟩)
theorem i_vc_copy {k : Nat} {u : SX} {v : SY} (I : i_Rel k u v) (hk : k + 3 ≤ 1536) (v1 : Int32) : wpX_copy (fun r u' => wpY_copy (fun r' v' => r' = r ∧ i_Rel (k + 3) u' v') v v1) u v1 := by
  obtain ⟨rfl, n, S, hn, rfl⟩ := I
  obtain ⟨r, t, ht, hX, hY⟩ := rz_copy hn S v1
  exact hX _ (hY _ ⟨rfl, rfl, ht⟩)
theorem i_vc_drop {k : Nat} {u : SX} {v : SY} (I : i_Rel k u v) (hk : k + 3 ≤ 1536) : wpX_drop (fun r u' => wpY_drop (fun r' v' => r' = r ∧ i_Rel (k + 3) u' v') v) u := by
  obtain ⟨rfl, n, S, hn, rfl⟩ := I
  obtain ⟨r, t, ht, hX, hY⟩ := rz_drop hn S
  exact hX _ (hY _ ⟨rfl, rfl, ht⟩)
theorem i_vc_replace {k : Nat} {u : SX} {v : SY} (I : i_Rel k u v) (hk : k + 3 ≤ 1536) (v1 : Int32) : wpX_replace (fun r u' => wpY_replace (fun r' v' => r' = r ∧ i_Rel (k + 3) u' v') v v1) u v1 := by
  obtain ⟨rfl, n, S, hn, rfl⟩ := I
  obtain ⟨r, t, ht, hX, hY⟩ := rz_replace hn S v1
  exact hX _ (hY _ ⟨rfl, rfl, ht⟩)
theorem i_vc_products {k : Nat} {u : SX} {v : SY} (I : i_Rel k u v) (hk : k + 3 ≤ 1536) (v1 : Int32) : wpX_products (fun r => wpY_products (fun r' => r' = r ∧ i_Rel (k + 3) u v) v v1) u v1 := by
  obtain ⟨rfl, n, S, hn, rfl⟩ := I
  obtain ⟨r, hX, hY⟩ := rz_products hn S v1
  exact hX _ (hY _ ⟨rfl, rfl, n, S, hn, rfl⟩)
theorem i_vc_has {k : Nat} {u : SX} {v : SY} (I : i_Rel k u v) (hk : k + 3 ≤ 1536) (v1 : Int32) (v2 : Int32) : wpX_has (fun r => wpY_has (fun r' => r' = r ∧ i_Rel (k + 3) u v) v v1 v2) u v1 v2 := by
  obtain ⟨rfl, n, S, hn, rfl⟩ := I
  obtain ⟨r, hX, hY⟩ := rz_has hn S v1 v2
  exact hX _ (hY _ ⟨rfl, rfl, n, S, hn, rfl⟩)
theorem i_vc_degree {k : Nat} {u : SX} {v : SY} (I : i_Rel k u v) (hk : k + 3 ≤ 1536) (v1 : Int32) : wpX_degree (fun r => wpY_degree (fun r' => r' = r ∧ i_Rel (k + 3) u v) v v1) u v1 := by
  obtain ⟨rfl, n, S, hn, rfl⟩ := I
  obtain ⟨r, hX, hY⟩ := rz_degree hn S v1
  exact hX _ (hY _ ⟨rfl, rfl, n, S, hn, rfl⟩)
theorem i_vc_models {k : Nat} {u : SX} {v : SY} (I : i_Rel k u v) (hk : k + 3 ≤ 1536) (v1 : Int32) : wpX_models (fun r => wpY_models (fun r' => r' = r ∧ i_Rel (k + 3) u v) v v1) u v1 := by
  obtain ⟨rfl, n, S, hn, rfl⟩ := I
  obtain ⟨r, hX, hY⟩ := rz_models hn S v1
  exact hX _ (hY _ ⟨rfl, rfl, n, S, hn, rfl⟩)
theorem i_vc_differ {k : Nat} {u : SX} {v : SY} (I : i_Rel k u v) (hk : k + 3 ≤ 1536) (v1 : Int32) (v2 : Int32) : wpX_differ (fun r => wpY_differ (fun r' => r' = r ∧ i_Rel (k + 3) u v) v v1 v2) u v1 v2 := by
  obtain ⟨rfl, n, S, hn, rfl⟩ := I
  obtain ⟨r, hX, hY⟩ := rz_differ hn S v1 v2
  exact hX _ (hY _ ⟨rfl, rfl, n, S, hn, rfl⟩)
