theorem rz_products {n : Nat} (hn : n ≤ 12) (S : Nat → Int64) (k : Int32) : ∃ r, (∀ post : Int32 → Prop, post r → wpX_products post (nI n, S) k) ∧ (∀ post : Int32 → Prop, post r → wpY_products post (nI n, S) k) := by
  unfold wpX_products wpY_products
  dsimp only
  by_cases h0 : k < 0
  · exact ⟨-1, fun post hp => br_t h0 (br_t rfl hp), fun post hp => br_t h0 (br_f (by decide) hp)⟩
  · obtain ⟨j, hj, rfl⟩ := nI_of h0
    by_cases hl : j < n
    · refine ⟨rc_f (rm_f (S (nI n - 1 - nI j).toNatClampNeg) 6) 64, fun post hp => ?_, fun post hp => ?_⟩
      · refine rv_fXy S hn hl ?_
        refine br_f (by decide) ?_
        refine rv_pX S hn hl ?_
        exact rc_X _ hp
      · refine rv_fYy S hn hl ?_
        refine br_t rfl ?_
        refine rv_pY S hn hl ?_
        exact rc_Y _ hp
    · refine ⟨-1, fun post hp => ?_, fun post hp => ?_⟩
      · refine rv_fXn S hn (by omega) hj ?_
        exact br_t rfl hp
      · refine rv_fYn S hn (by omega) hj ?_
        exact br_f (by decide) hp
theorem rz_has {n : Nat} (hn : n ≤ 12) (S : Nat → Int64) (k p : Int32) : ∃ r, (∀ post : Int32 → Prop, post r → wpX_has post (nI n, S) k p) ∧ (∀ post : Int32 → Prop, post r → wpY_has post (nI n, S) k p) := by
  unfold wpX_has wpY_has
  dsimp only
  by_cases h0 : k < 0
  · exact ⟨-1, fun post hp => br_t h0 (br_t rfl hp), fun post hp => br_t h0 (br_f (by decide) hp)⟩
  · obtain ⟨j, hj, rfl⟩ := nI_of h0
    by_cases hl : j < n
    · by_cases p0 : p < 0
      · refine ⟨-1, fun post hp => ?_, fun post hp => ?_⟩
        · refine rv_fXy S hn hl ?_
          exact br_f (by decide) (br_t p0 hp)
        · refine rv_fYy S hn hl ?_
          exact br_t rfl (br_t p0 hp)
      · obtain ⟨q, hq, rfl⟩ := nI_of p0
        by_cases h63 : q < 64
        · refine ⟨rb_i (rb_t (rm_f (S (nI n - 1 - nI j).toNatClampNeg) 6) q), fun post hp => ?_, fun post hp => ?_⟩
          · refine rv_fXy S hn hl ?_
            refine br_f (by decide) (br_f p0 (pk_lt q 64 (fun _ => ?_) (fun z => absurd z (by omega))))
            refine rv_pX S hn hl ?_
            exact rb_bitX _ h63 hp
          · refine rv_fYy S hn hl ?_
            refine br_t rfl (br_f p0 (pk_le q 63 (fun _ => ?_) (fun z => absurd z (by omega))))
            refine rv_pY S hn hl ?_
            exact rb_bitY _ h63 hp
        · refine ⟨-1, fun post hp => ?_, fun post hp => ?_⟩
          · refine rv_fXy S hn hl ?_
            exact br_f (by decide) (br_f p0 (pk_lt q 64 (fun z => absurd z h63) (fun _ => hp)))
          · refine rv_fYy S hn hl ?_
            exact br_t rfl (br_f p0 (pk_le q 63 (fun z => absurd z (by omega)) (fun _ => hp)))
    · refine ⟨-1, fun post hp => ?_, fun post hp => ?_⟩
      · refine rv_fXn S hn (by omega) hj ?_
        exact br_t rfl hp
      · refine rv_fYn S hn (by omega) hj ?_
        exact br_f (by decide) hp
theorem rz_degree {n : Nat} (hn : n ≤ 12) (S : Nat → Int64) (k : Int32) : ∃ r, (∀ post : Int32 → Prop, post r → wpX_degree post (nI n, S) k) ∧ (∀ post : Int32 → Prop, post r → wpY_degree post (nI n, S) k) := by
  unfold wpX_degree wpY_degree
  dsimp only
  by_cases h0 : k < 0
  · exact ⟨-1, fun post hp => br_t h0 (br_t rfl hp), fun post hp => br_t h0 (br_f (by decide) hp)⟩
  · obtain ⟨j, hj, rfl⟩ := nI_of h0
    by_cases hl : j < n
    · refine ⟨rd_f (rm_f (S (nI n - 1 - nI j).toNatClampNeg) 6) 64, fun post hp => ?_, fun post hp => ?_⟩
      · refine rv_fXy S hn hl ?_
        refine br_f (by decide) ?_
        refine rv_pX S hn hl ?_
        exact ⟨65, rd_loopX _ _ _ hp 64 0 rfl⟩
      · refine rv_fYy S hn hl ?_
        refine br_t rfl ?_
        refine rv_pY S hn hl ?_
        exact ⟨65, rd_loopY _ _ _ hp 64 0 rfl⟩
    · refine ⟨-1, fun post hp => ?_, fun post hp => ?_⟩
      · refine rv_fXn S hn (by omega) hj ?_
        exact br_t rfl hp
      · refine rv_fYn S hn (by omega) hj ?_
        exact br_f (by decide) hp
theorem rz_models {n : Nat} (hn : n ≤ 12) (S : Nat → Int64) (k : Int32) : ∃ r, (∀ post : Int32 → Prop, post r → wpX_models post (nI n, S) k) ∧ (∀ post : Int32 → Prop, post r → wpY_models post (nI n, S) k) := by
  unfold wpX_models wpY_models
  dsimp only
  by_cases h0 : k < 0
  · exact ⟨-1, fun post hp => br_t h0 (br_t rfl hp), fun post hp => br_t h0 (br_f (by decide) hp)⟩
  · obtain ⟨j, hj, rfl⟩ := nI_of h0
    by_cases hl : j < n
    · refine ⟨rc_f (S (nI n - 1 - nI j).toNatClampNeg) 64, fun post hp => ?_, fun post hp => ?_⟩
      · refine rv_fXy S hn hl ?_
        refine br_f (by decide) ?_
        refine rv_gX S hn hl ?_
        exact rc_X _ hp
      · refine rv_fYy S hn hl ?_
        exact br_t rfl ⟨rv_in hn hl, rc_Y _ hp⟩
    · refine ⟨-1, fun post hp => ?_, fun post hp => ?_⟩
      · refine rv_fXn S hn (by omega) hj ?_
        exact br_t rfl hp
      · refine rv_fYn S hn (by omega) hj ?_
        exact br_f (by decide) hp
theorem rz_differ {n : Nat} (hn : n ≤ 12) (S : Nat → Int64) (k l : Int32) : ∃ r, (∀ post : Int32 → Prop, post r → wpX_differ post (nI n, S) k l) ∧ (∀ post : Int32 → Prop, post r → wpY_differ post (nI n, S) k l) := by
  unfold wpX_differ wpY_differ
  dsimp only
  by_cases h0 : k < 0
  · exact ⟨-1, fun post hp => br_t h0 (br_t rfl hp), fun post hp => br_t h0 (br_f (by decide) hp)⟩
  · obtain ⟨j, hj, rfl⟩ := nI_of h0
    by_cases hl : j < n
    · by_cases l0 : l < 0
      · refine ⟨-1, fun post hp => ?_, fun post hp => ?_⟩
        · refine rv_fXy S hn hl ?_
          exact br_f (by decide) (br_t l0 (br_t rfl hp))
        · refine rv_fYy S hn hl ?_
          exact br_t rfl (br_t l0 (br_f (by decide) hp))
      · obtain ⟨q, hq, rfl⟩ := nI_of l0
        by_cases hm : q < n
        · refine ⟨rf_f (S (nI n - 1 - nI j).toNatClampNeg) (S (nI n - 1 - nI q).toNatClampNeg) 64 0, fun post hp => ?_, fun post hp => ?_⟩
          · refine rv_fXy S hn hl ?_
            refine br_f (by decide) ?_
            refine rv_fXy S hn hm ?_
            refine br_f (by decide) ?_
            refine rv_gX S hn hl ?_
            refine rv_gX S hn hm ?_
            exact nm_e ⟨65, rf_loopX _ _ _ _ 64 0 rfl hp⟩
          · refine rv_fYy S hn hl ?_
            refine br_t rfl ?_
            refine rv_fYy S hn hm ?_
            exact br_t rfl ⟨65, rf_loopY _ _ _ _ (rv_in hn hl) (rv_in hn hm) 64 0 rfl hp⟩
        · refine ⟨-1, fun post hp => ?_, fun post hp => ?_⟩
          · refine rv_fXy S hn hl ?_
            refine br_f (by decide) ?_
            refine rv_fXn S hn (by omega) hq ?_
            exact br_t rfl hp
          · refine rv_fYy S hn hl ?_
            refine br_t rfl ?_
            refine rv_fYn S hn (by omega) hq ?_
            exact br_f (by decide) hp
    · refine ⟨-1, fun post hp => ?_, fun post hp => ?_⟩
      · refine rv_fXn S hn (by omega) hj ?_
        exact br_t rfl hp
      · refine rv_fYn S hn (by omega) hj ?_
        exact br_f (by decide) hp
