/-! one answer and one next state for both sides -/
def rz_ok (t : SX) : Prop := ∃ n S, n ≤ 12 ∧ t = (nI n, S)
theorem rz_mk {n : Nat} (hn : n ≤ 12) (S : Nat → Int64) : rz_ok (nI n, S) := ⟨n, S, hn, rfl⟩
theorem rz_variable {n : Nat} (hn : n ≤ 12) (S : Nat → Int64) (k : Int32) : ∃ r t, rz_ok t ∧ (∀ post : Int32 → SX → Prop, post r t → wpX_variable post (nI n, S) k) ∧ (∀ post : Int32 → SY → Prop, post r t → wpY_variable post (nI n, S) k) := by
  by_cases h0 : k < 0
  · refine ⟨-1, (nI n, S), rz_mk hn S, fun post hp => ?_, fun post hp => br_t h0 hp⟩
    unfold wpX_variable
    dsimp only
    exact br_t h0 (br_t rfl hp)
  · obtain ⟨j, hj, rfl⟩ := nI_of h0
    by_cases h6 : j < 6
    · by_cases hl : n < 12
      · refine ⟨nI (n + 1), (nI (n + 1), vp_updL S n (rs_v j)), rz_mk (by omega) _, fun post hp => ?_, fun post hp => ?_⟩
        · unfold wpX_variable
          dsimp only
          refine rv_vXy h6 ?_
          refine br_f (by decide) ?_
          refine rs_X h6 ?_
          exact rv_pushX hn S _ (fun _ => hp) (fun z => absurd z (by omega))
        · exact br_f h0 (pk_le j 5 (fun _ => ⟨65, rs_loopY h6 hn S (fun _ => hp) (fun z => absurd z (by omega)) 64 0 rfl⟩) (fun z => absurd z (by omega)))
      · refine ⟨-1, (nI n, S), rz_mk hn S, fun post hp => ?_, fun post hp => ?_⟩
        · unfold wpX_variable
          dsimp only
          refine rv_vXy h6 ?_
          refine br_f (by decide) ?_
          refine rs_X h6 ?_
          exact rv_pushX hn S _ (fun z => absurd z hl) (fun _ => hp)
        · exact br_f h0 (pk_le j 5 (fun _ => ⟨65, rs_loopY h6 hn S (fun z => absurd z hl) (fun _ => hp) 64 0 rfl⟩) (fun z => absurd z (by omega)))
    · refine ⟨-1, (nI n, S), rz_mk hn S, fun post hp => ?_, fun post hp => br_f h0 (pk_le j 5 (fun z => absurd z (by omega)) (fun _ => hp))⟩
      unfold wpX_variable
      dsimp only
      refine rv_vXn (by omega) hj ?_
      exact br_t rfl hp
theorem rz_push {n : Nat} (hn : n ≤ 12) (S : Nat → Int64) (x : Int64) : ∃ (r : Int32) (m : Nat) (T : Nat → Int64), m ≤ 12 ∧ (∀ post : Int32 → SX → Prop, post r (nI m, T) → wpX_push post (nI n, S) x) ∧ (∀ post : Int32 → SY → Prop, post r (nI m, T) → wpY_push post (nI n, S) x) := by
  by_cases hl : n < 12
  · exact ⟨nI (n + 1), n + 1, vp_updL S n x, by omega, fun post hp => rv_pushX hn S x (fun _ => hp) (fun z => absurd z (by omega)), fun post hp => rv_pushY hn S x (fun _ => hp) (fun z => absurd z (by omega))⟩
  · exact ⟨-1, n, S, hn, fun post hp => rv_pushX hn S x (fun z => absurd z hl) (fun _ => hp), fun post hp => rv_pushY hn S x (fun z => absurd z hl) (fun _ => hp)⟩
theorem rz_constant {n : Nat} (hn : n ≤ 12) (S : Nat → Int64) (k : Int32) : ∃ r t, rz_ok t ∧ (∀ post : Int32 → SX → Prop, post r t → wpX_constant post (nI n, S) k) ∧ (∀ post : Int32 → SY → Prop, post r t → wpY_constant post (nI n, S) k) := by
  by_cases h : (k &&& 1) = 1
  · obtain ⟨r, m, T, hm, hX, hY⟩ := rz_push hn S (-1)
    exact ⟨r, (nI m, T), rz_mk hm T, fun post hp => br_t h (hX _ hp), fun post hp => br_t h (hY _ hp)⟩
  · obtain ⟨r, m, T, hm, hX, hY⟩ := rz_push hn S 0
    exact ⟨r, (nI m, T), rz_mk hm T, fun post hp => br_f h (hX _ hp), fun post hp => br_f h (hY _ hp)⟩
theorem rz_join {n : Nat} (hn : n ≤ 12) (S : Nat → Int64) (k : Int32) : ∃ r t, rz_ok t ∧ (∀ post : Int32 → SX → Prop, post r t → wpX_join post (nI n, S) k) ∧ (∀ post : Int32 → SY → Prop, post r t → wpY_join post (nI n, S) k) := by
  by_cases h2 : n < 2
  · exact ⟨-1, (nI n, S), rz_mk hn S, fun post hp => pk_lt n 2 (fun _ => hp) (fun z => absurd z (by omega)), fun post hp => pk_lt n 2 (fun _ => hp) (fun z => absurd z (by omega))⟩
  · obtain ⟨m, rfl⟩ : ∃ m, n = m + 2 := ⟨n - 2, by omega⟩
    by_cases h0 : k < 0
    · exact ⟨-1, (nI (m + 2), S), rz_mk hn S, fun post hp => pk_lt (m + 2) 2 (fun z => absurd z h2) (fun _ => br_t h0 hp), fun post hp => pk_lt (m + 2) 2 (fun z => absurd z h2) (fun _ => br_t h0 hp)⟩
    · obtain ⟨j, hj, rfl⟩ := nI_of h0
      by_cases h5 : j ≤ 5
      · have i2 : vp_in (nI (m + 2) - 2) 12 := pk_in m 12 (by omega) (rv_s2 m)
        have i1 : vp_in (nI (m + 2) - 1) 12 := pk_in (m + 1) 12 (by omega) (nI_pred (m + 1))
        refine ⟨nI (m + 1), (nI (m + 1), vp_updL S m (rj_f j (S (nI (m + 2) - 2).toNatClampNeg) (S (nI (m + 2) - 1).toNatClampNeg))), rz_mk (by omega) _, fun post hp => ?_, fun post hp => ?_⟩
        · refine pk_lt (m + 2) 2 (fun z => absurd z h2) (fun _ => br_f h0 (pk_le j 5 (fun _ => ⟨i2, i1, ?_⟩) (fun z => absurd z (by omega))))
          refine rj_X (by omega) _ _ ?_
          exact rv_top hn S _ hp
        · refine pk_lt (m + 2) 2 (fun z => absurd z h2) (fun _ => br_f h0 (pk_le j 5 (fun _ => ⟨65, ?_⟩) (fun z => absurd z (by omega))))
          exact rj_loopY (by omega) _ _ i2 i1 (rv_top hn S _ hp) 64 0 rfl
      · exact ⟨-1, (nI (m + 2), S), rz_mk hn S, fun post hp => pk_lt (m + 2) 2 (fun z => absurd z h2) (fun _ => br_f h0 (pk_le j 5 (fun z => absurd z h5) (fun _ => hp))), fun post hp => pk_lt (m + 2) 2 (fun z => absurd z h2) (fun _ => br_f h0 (pk_le j 5 (fun z => absurd z h5) (fun _ => hp)))⟩
theorem rz_not {n : Nat} (hn : n ≤ 12) (S : Nat → Int64) : ∃ r t, rz_ok t ∧ (∀ post : Int32 → SX → Prop, post r t → wpX_not post (nI n, S)) ∧ (∀ post : Int32 → SY → Prop, post r t → wpY_not post (nI n, S)) := by
  cases n with
  | zero => exact ⟨-1, (nI 0, S), rz_mk hn S, fun post hp => pk_le 1 0 (fun z => absurd z (by omega)) (fun _ => hp), fun post hp => pk_eq 0 0 (fun _ => hp) (fun z => absurd rfl z)⟩
  | succ m =>
    have i1 : vp_in (nI (m + 1) - 1) 12 := pk_in m 12 (by omega) (nI_pred m)
    exact ⟨0, (nI (m + 1), vp_updL S (nI (m + 1) - 1).toNatClampNeg ((S (nI (m + 1) - 1).toNatClampNeg) ^^^ (-1))), rz_mk hn _, fun post hp => pk_le 1 (m + 1) (fun _ => ⟨i1, i1, nm_e hp⟩) (fun z => absurd z (by omega)), fun post hp => pk_eq (m + 1) 0 (fun z => absurd z (by omega)) (fun _ => ⟨i1, i1, nm_e hp⟩)⟩
theorem rz_copy {n : Nat} (hn : n ≤ 12) (S : Nat → Int64) (k : Int32) : ∃ r t, rz_ok t ∧ (∀ post : Int32 → SX → Prop, post r t → wpX_copy post (nI n, S) k) ∧ (∀ post : Int32 → SY → Prop, post r t → wpY_copy post (nI n, S) k) := by
  by_cases h0 : k < 0
  · refine ⟨-1, (nI n, S), rz_mk hn S, fun post hp => ?_, fun post hp => ?_⟩
    · unfold wpX_copy
      dsimp only
      exact br_t h0 (br_t rfl hp)
    · unfold wpY_copy
      dsimp only
      exact br_t h0 (br_f (by decide) hp)
  · obtain ⟨j, hj, rfl⟩ := nI_of h0
    by_cases hl : j < n
    · obtain ⟨r, m, T, hm, hX, hY⟩ := rz_push hn S (S (nI n - 1 - nI j).toNatClampNeg)
      refine ⟨r, (nI m, T), rz_mk hm T, fun post hp => ?_, fun post hp => ?_⟩
      · unfold wpX_copy
        dsimp only
        refine rv_fXy S hn hl ?_
        refine br_f (by decide) ?_
        refine rv_gX S hn hl ?_
        exact hX _ hp
      · unfold wpY_copy
        dsimp only
        refine rv_fYy S hn hl ?_
        exact br_t rfl ⟨rv_in hn hl, hY _ hp⟩
    · refine ⟨-1, (nI n, S), rz_mk hn S, fun post hp => ?_, fun post hp => ?_⟩
      · unfold wpX_copy
        dsimp only
        refine rv_fXn S hn (by omega) hj ?_
        exact br_t rfl hp
      · unfold wpY_copy
        dsimp only
        refine rv_fYn S hn (by omega) hj ?_
        exact br_f (by decide) hp
theorem rz_drop {n : Nat} (hn : n ≤ 12) (S : Nat → Int64) : ∃ r t, rz_ok t ∧ (∀ post : Int32 → SX → Prop, post r t → wpX_drop post (nI n, S)) ∧ (∀ post : Int32 → SY → Prop, post r t → wpY_drop post (nI n, S)) := by
  cases n with
  | zero => exact ⟨-1, (nI 0, S), rz_mk hn S, fun post hp => pk_le 1 0 (fun z => absurd z (by omega)) (fun _ => hp), fun post hp => pk_eq 0 0 (fun _ => hp) (fun z => absurd rfl z)⟩
  | succ m => exact ⟨nI m, (nI m, S), rz_mk (by omega) S, fun post hp => pk_le 1 (m + 1) (fun _ => nm_r (nI_pred m) hp) (fun z => absurd z (by omega)), fun post hp => pk_eq (m + 1) 0 (fun z => absurd z (by omega)) (fun _ => nm_r (nI_pred m) hp)⟩
theorem rz_replace {n : Nat} (hn : n ≤ 12) (S : Nat → Int64) (k : Int32) : ∃ r t, rz_ok t ∧ (∀ post : Int32 → SX → Prop, post r t → wpX_replace post (nI n, S) k) ∧ (∀ post : Int32 → SY → Prop, post r t → wpY_replace post (nI n, S) k) := by
  by_cases h2 : n < 2
  · exact ⟨-1, (nI n, S), rz_mk hn S, fun post hp => pk_lt n 2 (fun _ => hp) (fun z => absurd z (by omega)), fun post hp => pk_lt n 2 (fun _ => hp) (fun z => absurd z (by omega))⟩
  · obtain ⟨m, rfl⟩ : ∃ m, n = m + 2 := ⟨n - 2, by omega⟩
    by_cases h0 : k < 0
    · refine ⟨-1, (nI (m + 2), S), rz_mk hn S, fun post hp => pk_lt (m + 2) 2 (fun z => absurd z h2) (fun _ => ?_), fun post hp => pk_lt (m + 2) 2 (fun z => absurd z h2) (fun _ => br_t h0 hp)⟩
      exact br_t h0 (br_t rfl hp)
    · obtain ⟨j, hj, rfl⟩ := nI_of h0
      by_cases h6 : j < 6
      · have i2 : vp_in (nI (m + 2) - 2) 12 := pk_in m 12 (by omega) (rv_s2 m)
        have i1 : vp_in (nI (m + 2) - 1) 12 := pk_in (m + 1) 12 (by omega) (nI_pred (m + 1))
        refine ⟨nI (m + 1), (nI (m + 1), vp_updL S m (rs_f (rr_c j (S (nI (m + 2) - 1).toNatClampNeg) (S (nI (m + 2) - 2).toNatClampNeg)) 64)), rz_mk (by omega) _, fun post hp => ?_, fun post hp => ?_⟩
        · refine pk_lt (m + 2) 2 (fun z => absurd z h2) (fun _ => ?_)
          refine rv_vXy h6 ?_
          refine br_f (by decide) ⟨i2, nm_e ⟨i1, nm_e ?_⟩⟩
          refine rr_X1 h6 _ ?_
          refine rr_X0 h6 _ ?_
          rw [rr_eq h6]
          exact rv_top hn S _ hp
        · refine pk_lt (m + 2) 2 (fun z => absurd z h2) (fun _ => br_f h0 (pk_le j 5 (fun _ => ⟨i1, nm_e ⟨i2, nm_e ⟨65, ?_⟩⟩⟩) (fun z => absurd z (by omega))))
          exact rr_loopY h6 _ _ _ _ (rv_top hn S _ hp) 64 0 rfl
      · refine ⟨-1, (nI (m + 2), S), rz_mk hn S, fun post hp => pk_lt (m + 2) 2 (fun z => absurd z h2) (fun _ => ?_), fun post hp => pk_lt (m + 2) 2 (fun z => absurd z h2) (fun _ => br_f h0 (pk_le j 5 (fun z => absurd z (by omega)) (fun _ => hp)))⟩
        refine rv_vXn (by omega) hj ?_
        exact br_t rfl hp
