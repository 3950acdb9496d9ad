/-! join -/
def rj_c (s : Nat) (p q : Bool) : Bool := match s with
  | 0 => p && q
  | 1 => p || q
  | 2 => p ^^ q
  | 3 => !(p ^^ q)
  | 4 => !p || q
  | _ => !(p && q)
def rj_f (s : Nat) (x y : Int64) : Int64 := rs_f (fun a => rj_c s (rb_t x a) (rb_t y a)) 64
theorem rj_6 {s : Nat} (hs : s < 6) : s = 0 ∨ s = 1 ∨ s = 2 ∨ s = 3 ∨ s = 4 ∨ s = 5 := by omega
theorem rj_Y {post : Int32 → Prop} {s : Nat} (hs : s < 6) (p q : Bool) (hp : post (rb_i (rj_c s p q))) : wpY_joined post (nI s) (rb_i p) (rb_i q) := by
  unfold wpY_joined
  rcases rj_6 hs with rfl | rfl | rfl | rfl | rfl | rfl <;> cases p <;> cases q <;> repeat (first | exact hp | refine br_t (by decide) ?_ | refine br_f (by decide) ?_)
theorem rj_X {post : Int64 → Prop} {s : Nat} (hs : s < 6) (x y : Int64) (hp : post (rj_f s x y)) : wpX_joinedValues post (nI s) x y := by
  have e0 : rj_f 0 x y = x &&& y := rs_eq (fun i hi => by rw [rb_and]; rfl)
  have e1 : rj_f 1 x y = x ||| y := rs_eq (fun i hi => by rw [rb_or]; rfl)
  have e2 : rj_f 2 x y = x ^^^ y := rs_eq (fun i hi => by rw [rb_xor]; rfl)
  have e3 : rj_f 3 x y = (x ^^^ y) ^^^ (-1) := rs_eq (fun i hi => by rw [rb_not _ hi, rb_xor]; rfl)
  have e4 : rj_f 4 x y = (x ^^^ (-1)) ||| y := rs_eq (fun i hi => by rw [rb_or, rb_not _ hi]; rfl)
  have e5 : rj_f 5 x y = (x &&& y) ^^^ (-1) := rs_eq (fun i hi => by rw [rb_not _ hi, rb_and]; rfl)
  unfold wpX_joinedValues
  rcases rj_6 hs with rfl | rfl | rfl | rfl | rfl | rfl
  · rw [e0] at hp
    repeat (first | exact hp | refine br_t (by decide) ?_ | refine br_f (by decide) ?_)
  · rw [e1] at hp
    repeat (first | exact hp | refine br_t (by decide) ?_ | refine br_f (by decide) ?_)
  · rw [e2] at hp
    repeat (first | exact hp | refine br_t (by decide) ?_ | refine br_f (by decide) ?_)
  · rw [e3] at hp
    repeat (first | exact hp | refine br_t (by decide) ?_ | refine br_f (by decide) ?_)
  · rw [e4] at hp
    repeat (first | exact hp | refine br_t (by decide) ?_ | refine br_f (by decide) ?_)
  · rw [e5] at hp
    repeat (first | exact hp | refine br_t (by decide) ?_ | refine br_f (by decide) ?_)
theorem rb_ifi {b : Bool} {P : Int32 → Prop} (h : P (rb_i b)) : (rb_i b = 1 → P 1) ∧ (¬ rb_i b = 1 → P 0) := by
  cases b
  · exact ⟨fun z => absurd z (by decide), fun _ => h⟩
  · exact ⟨fun _ => h, fun z => absurd rfl z⟩
theorem rj_loopY {s : Nat} (hs : s < 6) (F : Int32) (S : Nat → Int64) (h2 : vp_in (F - 2) 12) (h1 : vp_in (F - 1) 12) {post : Int32 → SY → Prop}
    (hp : ∀ f : Int32, f = F - 1 → (vp_in (f - 1) 12 ∧ ∀ b : Nat → Int64, b = vp_updL S (f - 1).toNatClampNeg (rj_f s (S (F - 2).toNatClampNeg) (S (F - 1).toNatClampNeg)) → post f (f, b))) :
    ∀ d a, a + d = 64 → wY_join_24 post (nI s) F S (d + 1) (rs_f (fun a => rj_c s (rb_t (S (F - 2).toNatClampNeg) a) (rb_t (S (F - 1).toNatClampNeg) a)) a) (nI a) := by
  intro d
  induction d with
  | zero =>
    intro a h
    obtain rfl : a = 64 := by omega
    exact pk_le 64 64 (fun _ => hp) (fun h => absurd h (by omega))
  | succ d ih =>
    intro a h
    refine pk_le 64 a (fun z => absurd z (by omega)) (fun _ => ⟨h2, ?_⟩)
    refine rb_bitY _ (by omega) ?_
    have I := ih (a + 1) (by omega)
    refine rb_ifi (P := fun z => wY_join_56 post (wY_join_24 post (nI s) F S (d + 1)) (nI s) (rs_f (fun a => rj_c s (rb_t (S (F - 2).toNatClampNeg) a) (rb_t (S (F - 1).toNatClampNeg) a)) a) (nI a) z F S) ?_
    refine And.intro h1 ?_
    refine rb_bitY _ (by omega) ?_
    refine rb_ifi (P := fun z => wY_join_83 post (wY_join_24 post (nI s) F S (d + 1)) (nI s) (rs_f (fun a => rj_c s (rb_t (S (F - 2).toNatClampNeg) a) (rb_t (S (F - 1).toNatClampNeg) a)) a) (nI a) (rb_i (rb_t (S (F - 2).toNatClampNeg) a)) z F S) ?_
    unfold wY_join_83
    refine rj_Y hs _ _ ?_
    refine rb_if0 (fun hb => ?_) (fun hb => ?_)
    · rw [rs_n (fun a => rj_c s (rb_t (S (F - 2).toNatClampNeg) a) (rb_t (S (F - 1).toNatClampNeg) a)) hb] at I
      exact nm_r (nI_1 a) I
    · exact nm_r (rs_t (fun a => rj_c s (rb_t (S (F - 2).toNatClampNeg) a) (rb_t (S (F - 1).toNatClampNeg) a)) hb).symm (nm_r (nI_1 a) I)
/-! replace: x on top, y below -/
def rr_p (a v : Nat) (b : Bool) : Nat := if b = a.testBit v then a else if b = true then 2 ^ v + a else a - 2 ^ v
theorem rr_tab : ∀ a, a < 64 → ∀ v, v < 6 → ∀ b : Bool, ((nI a &&& (((1 : Int32) <<< (nI v &&& 31)) ^^^ (-1))) ||| (rb_i b <<< (nI v &&& 31))) = nI (rr_p a v b) ∧ rr_p a v b < 64 := by decide +kernel
def rr_c (v : Nat) (x y : Int64) : Nat → Bool := fun a => rb_t x (rr_p a v (rb_t y a))
theorem rr_loopY {v : Nat} (hv : v < 6) (x y : Int64) (F : Int32) (S : Nat → Int64) {post : Int32 → SY → Prop}
    (hp : ∀ f : Int32, f = F - 1 → (vp_in (f - 1) 12 ∧ ∀ b : Nat → Int64, b = vp_updL S (f - 1).toNatClampNeg (rs_f (rr_c v x y) 64) → post f (f, b))) :
    ∀ d a, a + d = 64 → wY_replace_50 post (nI v) x y F S (d + 1) (rs_f (rr_c v x y) a) (nI a) := by
  intro d
  induction d with
  | zero =>
    intro a h
    obtain rfl : a = 64 := by omega
    exact pk_le 64 64 (fun _ => hp) (fun h => absurd h (by omega))
  | succ d ih =>
    intro a h
    refine pk_le 64 a (fun z => absurd z (by omega)) (fun _ => ?_)
    refine rb_bitY _ (by omega) ?_
    have T := rr_tab a (by omega) v hv (rb_t y a)
    have I := ih (a + 1) (by omega)
    refine nm_r T.1 ?_
    refine rb_bitY _ T.2 ?_
    refine rb_if (fun hb => ?_) (fun hb => ?_)
    · exact nm_r (rs_t (rr_c v x y) hb).symm (nm_r (nI_1 a) I)
    · rw [rs_n (rr_c v x y) hb] at I
      exact nm_r (nI_1 a) I
def rr_1 (x : Int64) (v : Nat) : Int64 := (x &&& rs_v v) ||| (((x &&& rs_v v).toUInt64 >>> ((nI (2 ^ v)).toInt64.toUInt64 &&& Int64.toUInt64 63)).toInt64)
def rr_0 (x : Int64) (v : Nat) : Int64 := (x &&& (rs_v v ^^^ (-1))) ||| ((x &&& (rs_v v ^^^ (-1))) <<< ((nI (2 ^ v)).toInt64 &&& 63))
theorem rr_X1 {post : Int64 → Prop} {v : Nat} (hv : v < 6) (x : Int64) (hp : post (rr_1 x v)) : wpX_valuesWithVariableOne post x (nI v) := by
  unfold wpX_valuesWithVariableOne
  refine rs_X hv ?_
  refine nm_e ?_
  rw [rm_2 v hv]
  exact hp
theorem rr_X0 {post : Int64 → Prop} {v : Nat} (hv : v < 6) (x : Int64) (hp : post (rr_0 x v)) : wpX_valuesWithVariableZero post x (nI v) := by
  unfold wpX_valuesWithVariableZero
  refine rs_X hv ?_
  refine nm_e ?_
  rw [rm_2 v hv]
  exact hp
theorem rr_t1 : ∀ a, a < 64 → ∀ v, v < 6 → (a.testBit v = false → 2 ^ v + a < 64 ∧ (2 ^ v + a).testBit v = true) ∧ (a.testBit v = true → (2 ^ v + a).testBit v = false) := by decide +kernel
theorem rr_t0 : ∀ a, a < 64 → ∀ v, v < 6 → (a.testBit v = false → 2 ^ v ≤ a → (a - 2 ^ v).testBit v = true) ∧ (a.testBit v = true → 2 ^ v ≤ a ∧ (a - 2 ^ v).testBit v = false) := by decide +kernel
theorem rr_b1 {v : Nat} (hv : v < 6) (x : Int64) {a : Nat} (ha : a < 64) : rb_t (rr_1 x v) a = rb_t x (rr_p a v true) := by
  unfold rr_1
  rw [rb_or, rb_ushr (2 ^ v) (rm_p hv), rb_and, rb_and, rs_vb v ha]
  have T := rr_t1 a ha v hv
  cases hb : a.testBit v
  · have e : rr_p a v true = 2 ^ v + a := by unfold rr_p; rw [hb]; rfl
    obtain ⟨t1, t2⟩ := T.1 hb
    rw [e, rs_vb v t1, t2, Bool.and_false, Bool.false_or, Bool.and_true]
  · have e : rr_p a v true = a := by unfold rr_p; rw [hb]; rfl
    have t := T.2 hb
    have z : rb_t (rs_v v) (2 ^ v + a) = false := by
      rcases Nat.lt_or_ge (2 ^ v + a) 64 with g | g
      · rw [rs_vb v g, t]
      · exact rb_big g
    rw [e, z, Bool.and_true, Bool.and_false, Bool.or_false]
theorem rr_b0 {v : Nat} (hv : v < 6) (x : Int64) {a : Nat} (ha : a < 64) : rb_t (rr_0 x v) a = rb_t x (rr_p a v false) := by
  have hl : a - 2 ^ v < 64 := Nat.lt_of_le_of_lt (Nat.sub_le _ _) ha
  unfold rr_0
  rw [rb_or, rb_shl (2 ^ v) (rm_p hv) _ ha, rb_and, rb_and, rb_not _ ha, rb_not _ hl, rs_vb v ha, rs_vb v hl]
  have T := rr_t0 a ha v hv
  cases hb : a.testBit v
  · have e : rr_p a v false = a := by unfold rr_p; rw [hb]; rfl
    have z : (decide (2 ^ v ≤ a) && (rb_t x (a - 2 ^ v) && !(a - 2 ^ v).testBit v)) = false := by
      by_cases g : 2 ^ v ≤ a
      · rw [T.1 hb g, Bool.not_true, Bool.and_false, Bool.and_false]
      · rw [decide_eq_false g, Bool.false_and]
    rw [e, z, Bool.not_false, Bool.and_true, Bool.or_false]
  · have e : rr_p a v false = a - 2 ^ v := by unfold rr_p; rw [hb]; rfl
    obtain ⟨t1, t2⟩ := T.2 hb
    rw [e, t2, decide_eq_true t1, Bool.not_true, Bool.and_false, Bool.false_or, Bool.true_and, Bool.not_false, Bool.and_true]
theorem rr_eq {v : Nat} (hv : v < 6) (x y : Int64) : (y &&& rr_1 x v) ||| ((y ^^^ (-1)) &&& rr_0 x v) = rs_f (rr_c v x y) 64 := by
  refine (rs_eq (fun i hi => ?_)).symm
  rw [rb_or, rb_and, rb_and, rb_not _ hi, rr_b1 hv x hi, rr_b0 hv x hi]
  show rb_t x (rr_p i v (rb_t y i)) = _
  cases rb_t y i
  · rw [Bool.false_and, Bool.not_false, Bool.true_and, Bool.false_or]
  · rw [Bool.true_and, Bool.not_true, Bool.false_and, Bool.or_false]
/-! small methods -/
theorem rv_s2 (m : Nat) : nI (m + 2) - 2 = nI m := pk_sub (a := m + 2) (b := 2) (by omega)
theorem rv_top {m : Nat} (hm : m + 2 ≤ 12) (S : Nat → Int64) (x : Int64) {post : Int32 → SX → Prop} (hp : post (nI (m + 1)) (nI (m + 1), vp_updL S m x)) : ∀ f : Int32, f = nI (m + 2) - 1 → (vp_in (f - 1) 12 ∧ ∀ b : Nat → Int64, b = vp_updL S (f - 1).toNatClampNeg x → post f (f, b)) :=
  nm_r (nI_pred (m + 1)) ⟨pk_in m 12 (by omega) (nI_pred m), nm_r (congrArg (fun j => vp_updL S j x) (pk_cl m (nI_pred m))) hp⟩
theorem rv_vXn {post : Int32 → Prop} {j : Nat} (h : 6 ≤ j) (hj : j < 2 ^ 31) (hp : post 0) : wpX_isVariable post (nI j) :=
  br_f (nI_pos hj) (pk_le 6 j (fun _ => hp) (fun z => absurd z (by omega)))
theorem rv_vXy {post : Int32 → Prop} {j : Nat} (h : j < 6) (hp : post 1) : wpX_isVariable post (nI j) :=
  br_f (nI_pos (by omega)) (pk_le 6 j (fun z => absurd z (by omega)) (fun _ => hp))
theorem rv_fXn {post : Int32 → Prop} {n j : Nat} (s : Nat → Int64) (hn : n ≤ 12) (h : n ≤ j) (hj : j < 2 ^ 31) (hp : post 0) : wpX_isFormula post (nI n, s) (nI j) :=
  br_f (nI_pos hj) (pk_le n j (fun _ => hp) (fun z => absurd z (by omega)))
theorem rv_fXy {post : Int32 → Prop} {n j : Nat} (s : Nat → Int64) (hn : n ≤ 12) (h : j < n) (hp : post 1) : wpX_isFormula post (nI n, s) (nI j) :=
  br_f (nI_pos (by omega)) (pk_le n j (fun z => absurd z (by omega)) (fun _ => hp))
theorem rv_fYn {post : Int32 → Prop} {n j : Nat} (s : Nat → Int64) (hn : n ≤ 12) (h : n ≤ j) (hj : j < 2 ^ 31) (hp : post 1) : wpY_missing post (nI n, s) (nI j) :=
  br_f (nI_pos hj) (pk_lt j n (fun z => absurd z (by omega)) (fun _ => hp))
theorem rv_fYy {post : Int32 → Prop} {n j : Nat} (s : Nat → Int64) (hn : n ≤ 12) (h : j < n) (hp : post 0) : wpY_missing post (nI n, s) (nI j) :=
  br_f (nI_pos (by omega)) (pk_lt j n (fun _ => hp) (fun z => absurd z (by omega)))
theorem rv_ix {n j : Nat} (h : j < n) : nI n - 1 - nI j = nI (n - 1 - j) := by
  have e : nI n - 1 = nI (n - 1) := pk_sub (b := 1) (by omega)
  rw [e, pk_sub (by omega)]
theorem rv_in {n j : Nat} (hn : n ≤ 12) (h : j < n) : vp_in (nI n - 1 - nI j) 12 := pk_in (n - 1 - j) 12 (by omega) (rv_ix h)
theorem rv_gX {post : Int64 → Prop} {n j : Nat} (s : Nat → Int64) (hn : n ≤ 12) (h : j < n) (hp : post (s (nI n - 1 - nI j).toNatClampNeg)) : wpX_valuesOfFormula post (nI n, s) (nI j) := ⟨rv_in hn h, hp⟩
theorem rv_pX {post : Int64 → Prop} {n j : Nat} (s : Nat → Int64) (hn : n ≤ 12) (h : j < n) (hp : post (rm_f (s (nI n - 1 - nI j).toNatClampNeg) 6)) : wpX_productsOfFormula post (nI n, s) (nI j) := by
  unfold wpX_productsOfFormula
  dsimp only
  refine rv_gX s hn h ?_
  exact ⟨7, rm_loopX _ _ _ hp 6 0 rfl⟩
theorem rv_pY {post : Int64 → Prop} {n j : Nat} (s : Nat → Int64) (hn : n ≤ 12) (h : j < n) (hp : post (rm_f (s (nI n - 1 - nI j).toNatClampNeg) 6)) : wpY_found post (nI n, s) (nI j) := by
  unfold wpY_found
  dsimp only
  exact ⟨rv_in hn h, rp_Y _ hp⟩
